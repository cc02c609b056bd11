/-! the questions -/
theorem i_vc_sum {k : Nat} {u : SX} {v : SY} (I : i_Rel k u v) (hk : k + 4 ≤ 2049) : wpX_sum (fun r u' => wpY_sum (fun r' v' => r' = r ∧ i_Rel (k + 4) u' v') v) u := by
  obtain ⟨c, n, w, L, P, wb, wa, en, gr, fk, gc, le, go, x, y, z, st, h1, h2, h3, h4, h5, h6, rfl, rfl⟩ := I
  exact ph_xsum h2 (by omega) h4 h5 h6 (fun wa' => ph_ysum h2 (by omega) h4 h5 h6 (fun st' => ⟨rfl, ph_mkR h1 h2 h3 h4 h5 h6⟩))
theorem i_vc_ways {k : Nat} {u : SX} {v : SY} (I : i_Rel k u v) (hk : k + 4 ≤ 2049) : wpX_ways (fun r u' => wpY_ways (fun r' v' => r' = r ∧ i_Rel (k + 4) u' v') v) u := by
  obtain ⟨c, n, w, L, P, wb, wa, en, gr, fk, gc, le, go, x, y, z, st, h1, h2, h3, h4, h5, h6, rfl, rfl⟩ := I
  exact ph_xways h2 (by omega) (fun en' => ph_yways h2 (by omega) (fun st' => ⟨rfl, ph_mkR h1 h2 h3 h4 h5 h6⟩))
theorem i_vc_best {k : Nat} {u : SX} {v : SY} (I : i_Rel k u v) (hk : k + 4 ≤ 2049) : wpX_best (fun r u' => wpY_best (fun r' v' => r' = r ∧ i_Rel (k + 4) u' v') v) u := by
  obtain ⟨c, n, w, L, P, wb, wa, en, gr, fk, gc, le, go, x, y, z, st, h1, h2, h3, h4, h5, h6, rfl, rfl⟩ := I
  refine ph_xbest h2 (by omega) h4 h5 h6 (fun gr' fk' gc' => ?_)
  unfold wpY_best
  dsimp only
  exact ph_ygr h2 (by omega) h4 h5 h6 (fun st' => ⟨rfl, ph_mkR h1 h2 h3 h4 h5 h6⟩)
theorem i_vc_bestStep {k : Nat} {u : SX} {v : SY} (I : i_Rel k u v) (hk : k + 4 ≤ 2049) (v1 : Int32) : wpX_bestStep (fun r u' => wpY_bestStep (fun r' v' => r' = r ∧ i_Rel (k + 4) u' v') v v1) u v1 := by
  obtain ⟨c, n, w, L, P, wb, wa, en, gr, fk, gc, le, go, x, y, z, st, h1, h2, h3, h4, h5, h6, rfl, rfl⟩ := I
  exact ph_bstep h2 h3 h4 h5 h6 (fun _ _ _ _ _ _ _ => ph_mkR h1 h2 h3 h4 h5 h6)
theorem i_vc_bestOf {k : Nat} {u : SX} {v : SY} (I : i_Rel k u v) (hk : k + 4 ≤ 2049) (v1 : Int32) : wpX_bestOf (fun r u' => wpY_bestOf (fun r' v' => r' = r ∧ i_Rel (k + 4) u' v') v v1) u v1 := by
  obtain ⟨c, n, w, L, P, wb, wa, en, gr, fk, gc, le, go, x, y, z, st, h1, h2, h3, h4, h5, h6, rfl, rfl⟩ := I
  exact ph_bof h2 h3 h4 h5 h6 (fun _ _ _ _ _ => ph_mkR h1 h2 h3 h4 h5 h6)
theorem i_vc_ties {k : Nat} {u : SX} {v : SY} (I : i_Rel k u v) (hk : k + 4 ≤ 2049) : wpX_ties (fun r u' => wpY_ties (fun r' v' => r' = r ∧ i_Rel (k + 4) u' v') v) u := by
  obtain ⟨c, n, w, L, P, wb, wa, en, gr, fk, gc, le, go, x, y, z, st, h1, h2, h3, h4, h5, h6, rfl, rfl⟩ := I
  exact ph_xties h2 (by omega) h4 h5 h6 (fun gr' fk' gc' => ph_yti h2 (by omega) h4 h5 h6 (fun st' => ⟨rfl, ph_mkR h1 h2 h3 h4 h5 h6⟩))
theorem i_vc_worst {k : Nat} {u : SX} {v : SY} (I : i_Rel k u v) (hk : k + 4 ≤ 2049) : wpX_worst (fun r u' => wpY_worst (fun r' v' => r' = r ∧ i_Rel (k + 4) u' v') v) u := by
  obtain ⟨c, n, w, L, P, wb, wa, en, gr, fk, gc, le, go, x, y, z, st, h1, h2, h3, h4, h5, h6, rfl, rfl⟩ := I
  exact ph_xworst h2 (by omega) h4 h5 h6 (fun le' => ph_ywo h2 (by omega) h4 h5 h6 (fun st' => ⟨rfl, ph_mkR h1 h2 h3 h4 h5 h6⟩))
theorem i_vc_next {k : Nat} {u : SX} {v : SY} (I : i_Rel k u v) (hk : k + 4 ≤ 2049) : wpX_next (fun r u' => wpY_next (fun r' v' => r' = r ∧ i_Rel (k + 4) u' v') v) u := by
  obtain ⟨c, n, w, L, P, wb, wa, en, gr, fk, gc, le, go, x, y, z, st, h1, h2, h3, h4, h5, h6, rfl, rfl⟩ := I
  exact ph_xnext h2 h3 h4 h5 h6 (fun wa' => ph_ynext h2 h3 h4 h5 h6 (fun x y z st' => ⟨rfl, ph_mkR h1 h2 h3 h4 h5 (ph_bdw h6 n 4 (by omega))⟩))
theorem i_vc_matched {k : Nat} {u : SX} {v : SY} (I : i_Rel k u v) (hk : k + 4 ≤ 2049) (v1 : Int32) (v2 : Int32) : wpX_matched (fun r u' => wpY_matched (fun r' v' => r' = r ∧ i_Rel (k + 4) u' v') v v1 v2) u v1 v2 := by
  have I' := I
  obtain ⟨c, n, w, L, P, wb, wa, en, gr, fk, gc, le, go, x, y, z, st, h1, h2, h3, h4, h5, h6, rfl, rfl⟩ := I
  have bad : ¬ (¬ v1 < 0 ∧ ¬ nI n ≤ v1 ∧ ¬ v2 < 1 ∧ ¬ nI c < v2) → wpY_matched (fun r' v' => r' = 0 ∧ i_Rel (k + 4) (nI c, nI n, w, L, P, wb, wa, en, gr, fk, gc, le, go) v') (nI c, nI n, x, y, z, L, P, w, st) v1 v2 := by
    intro hb
    unfold wpY_matched
    dsimp only
    refine ph_yip (fun _ => br_t rfl ⟨rfl, I'⟩) (fun a1 a2 => br_f (by decide) ?_)
    exact ph_yic (fun _ => br_t rfl ⟨rfl, I'⟩) (fun a3 a4 => absurd ⟨a1, a2, a3, a4⟩ hb)
  unfold wpX_matched
  dsimp only
  refine ph_xip (fun q => br_t rfl (bad (fun z => q.elim z.1 z.2.1))) (fun a1 a2 => br_f (by decide) ?_)
  refine ph_xic (fun q => br_t rfl (bad (fun z => q.elim z.2.2.1 z.2.2.2))) (fun a3 a4 => br_f (by decide) ?_)
  obtain ⟨i0, hi, rfl⟩ := ph_inP (by omega) a1 a2
  obtain ⟨j0, hj, rfl⟩ := ph_inC h2 a3 a4
  refine ph_xfb h2 (by omega) h4 h5 h6 (fun wb' hB => ?_)
  refine ph_xfa h2 (by omega) h4 h5 h6 (fun wa' hA => ?_)
  rw [nI_pred]
  refine ph_xwt (k := 0) h2 (by omega) h4 h5 h6 (by omega) (by rw [ph_le0]; omega) (by rw [ph_co0]; omega) hB hA ?_
  unfold wpY_matched
  dsimp only
  refine ph_yip (fun q => absurd q (fun q => q.elim a1 a2)) (fun _ _ => br_f (by decide) ?_)
  refine ph_yic (fun q => absurd q (fun q => q.elim a3 a4)) (fun _ _ => br_f (by decide) ?_)
  refine ph_ysw (ka := 0) h2 (by omega) h4 h5 h6 (by omega) (fun st' => ⟨?_, ph_mkR h1 h2 h3 h4 h5 h6⟩)
  refine congrArg lN ((ph_SwQ (mk' := ph_pm i0 j0) (fun k i j b1 b2 b3 => ?_)).trans (ph_Qm hi hj))
  refine decide_eq_decide.mpr ⟨fun q => ?_, fun q => ?_⟩
  · obtain ⟨rfl, q2, q3⟩ := q
    have e2 : nI (j + 1) = nI (j0 + 1) := q2.resolve_left (nI_pos (by omega))
    have e3 := q3.resolve_left a1
    have e4 := (nI_eq (by omega) (by omega)).mp e2
    have e5 := (nI_eq (by omega) (by omega)).mp e3
    exact ⟨rfl, e5, by omega⟩
  · obtain ⟨rfl, rfl, rfl⟩ := q
    exact ⟨rfl, Or.inr rfl, Or.inr rfl⟩
theorem i_vc_deleted {k : Nat} {u : SX} {v : SY} (I : i_Rel k u v) (hk : k + 4 ≤ 2049) (v1 : Int32) : wpX_deleted (fun r u' => wpY_deleted (fun r' v' => r' = r ∧ i_Rel (k + 4) u' v') v v1) u v1 := by
  have I' := I
  obtain ⟨c, n, w, L, P, wb, wa, en, gr, fk, gc, le, go, x, y, z, st, h1, h2, h3, h4, h5, h6, rfl, rfl⟩ := I
  unfold wpX_deleted
  dsimp only
  refine ph_xic (fun q => br_t rfl ?_) (fun a3 a4 => br_f (by decide) ?_)
  · unfold wpY_deleted
    dsimp only
    exact ph_yic (fun _ => br_t rfl ⟨rfl, I'⟩) (fun a3 a4 => absurd q (fun q => q.elim a3 a4))
  obtain ⟨j0, hj, rfl⟩ := ph_inC h2 a3 a4
  refine ph_xfb h2 (by omega) h4 h5 h6 (fun wb' hB => ?_)
  refine ph_xfa h2 (by omega) h4 h5 h6 (fun wa' hA => ?_)
  refine Exists.intro _ (ph_xd27 h2 (by omega) h4 h5 h6 hj hB hA ?_ (n + 1) 0 (by omega))
  unfold wpY_deleted
  dsimp only
  refine ph_yic (fun q => absurd q (fun q => q.elim a3 a4)) (fun _ _ => br_f (by decide) ?_)
  refine ph_ysw (ka := 2) h2 (by omega) h4 h5 h6 (by omega) (fun st' => ⟨?_, ph_mkR h1 h2 h3 h4 h5 h6⟩)
  refine congrArg lN ((ph_SwQ (mk' := ph_pd j0) (fun k i j b1 b2 b3 => ?_)).trans (ph_Qd hj))
  refine decide_eq_decide.mpr ⟨fun q => ?_, fun q => ?_⟩
  · obtain ⟨rfl, q2, q3⟩ := q
    have e2 : nI (j + 1) = nI (j0 + 1) := q2.resolve_left (nI_pos (by omega))
    have e4 := (nI_eq (by omega) (by omega)).mp e2
    exact ⟨rfl, by omega⟩
  · obtain ⟨rfl, rfl⟩ := q
    exact ⟨rfl, Or.inr rfl, Or.inl (by decide)⟩
theorem i_vc_inserted {k : Nat} {u : SX} {v : SY} (I : i_Rel k u v) (hk : k + 4 ≤ 2049) (v1 : Int32) : wpX_inserted (fun r u' => wpY_inserted (fun r' v' => r' = r ∧ i_Rel (k + 4) u' v') v v1) u v1 := by
  have I' := I
  obtain ⟨c, n, w, L, P, wb, wa, en, gr, fk, gc, le, go, x, y, z, st, h1, h2, h3, h4, h5, h6, rfl, rfl⟩ := I
  unfold wpX_inserted
  dsimp only
  refine ph_xip (fun q => br_t rfl ?_) (fun a1 a2 => br_f (by decide) ?_)
  · unfold wpY_inserted
    dsimp only
    exact ph_yip (fun _ => br_t rfl ⟨rfl, I'⟩) (fun a3 a4 => absurd q (fun q => q.elim a3 a4))
  obtain ⟨i0, hi, rfl⟩ := ph_inP (by omega) a1 a2
  refine ph_xfb h2 (by omega) h4 h5 h6 (fun wb' hB => ?_)
  refine ph_xfa h2 (by omega) h4 h5 h6 (fun wa' hA => ?_)
  refine Exists.intro _ (ph_xi27 h2 (by omega) h4 h5 h6 hi hB hA ?_ (c + 1) 0 (by omega))
  unfold wpY_inserted
  dsimp only
  refine ph_yip (fun q => absurd q (fun q => q.elim a1 a2)) (fun _ _ => br_f (by decide) ?_)
  refine ph_ysw (ka := 1) h2 (by omega) h4 h5 h6 (by omega) (fun st' => ⟨?_, ph_mkR h1 h2 h3 h4 h5 h6⟩)
  refine congrArg lN ((ph_SwQ (mk' := ph_pi i0) (fun k i j b1 b2 b3 => ?_)).trans (ph_Qi hi))
  refine decide_eq_decide.mpr ⟨fun q => ?_, fun q => ?_⟩
  · obtain ⟨rfl, q2, q3⟩ := q
    have e3 := q3.resolve_left a1
    have e5 := (nI_eq (by omega) (by omega)).mp e3
    exact ⟨rfl, e5⟩
  · obtain ⟨rfl, rfl⟩ := q
    exact ⟨rfl, Or.inl (by decide), Or.inr rfl⟩
