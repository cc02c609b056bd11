/-! the relation, the constructors, the setters -/
def i_Rel (_ : Nat) (u : SX) (v : SY) : Prop := ∃ (c n : Nat) (w L P : Nat → Int32) (wb wa : Nat → Int64) (en gr fk gc le go : Nat → Int32) (x y z : Int32) (st : Nat → Int32), 1 ≤ c ∧ c ≤ 4 ∧ n ≤ 7 ∧ ph_bd L 9 ∧ ph_bd P 9 ∧ ph_bd w 3 ∧ u = (nI c, nI n, w, L, P, wb, wa, en, gr, fk, gc, le, go) ∧ v = (nI c, nI n, x, y, z, L, P, w, st)
theorem i_up {k : Nat} {u : SX} {v : SY} (h : i_Rel k u v) : i_Rel (k + 4) u v := h
theorem ph_mkR {k c n : Nat} {w L P : Nat → Int32} {wb wa : Nat → Int64} {en gr fk gc le go : Nat → Int32} {x y z : Int32} {st : Nat → Int32} (h1 : 1 ≤ c) (h2 : c ≤ 4) (h3 : n ≤ 7) (h4 : ph_bd L 9) (h5 : ph_bd P 9) (h6 : ph_bd w 3) : i_Rel k (nI c, nI n, w, L, P, wb, wa, en, gr, fk, gc, le, go) (nI c, nI n, x, y, z, L, P, w, st) := ⟨c, n, w, L, P, wb, wa, en, gr, fk, gc, le, go, x, y, z, st, h1, h2, h3, h4, h5, h6, rfl, rfl⟩
def ph_on1 (f : Nat → Int32) : Nat → Nat → Int32
  | 0 => f
  | k + 1 => upd (ph_on1 f k) k 1
theorem ph_bd0 (b : Nat) : ph_bd (fun _ => 0) b := fun _ => ⟨0, Nat.zero_le _, rfl⟩
theorem ph_bd1 {b : Nat} (hb : 1 ≤ b) : ∀ k, ph_bd (ph_on1 (fun _ => 0) k) b := by
  intro k
  induction k with
  | zero => exact ph_bd0 b
  | succ k ih => exact ph_bdu (a := 1) ih hb
theorem ph_x151 {post : SX → Prop} {fc fl : Int32} {w L : Nat → Int32} {wb wa : Nat → Int64} {en gr fk gc le go : Nat → Int32} (h : post (fc, fl, w, L, ph_on1 (fun _ => 0) 9, wb, wa, en, gr, fk, gc, le, go)) : ∀ d i, i + d = 9 → wX_init_151 post fc fl (d + 1) (nI i) w L (ph_on1 (fun _ => 0) i) wb wa en gr fk gc le go := by
  intro d
  induction d with
  | zero =>
    intro i hi
    obtain rfl : i = 9 := by omega
    exact br_t (by decide) h
  | succ d ih =>
    intro i hi
    exact br_f (nI_ge (b := 9) (by omega) (by decide)) (And.intro (vp_in_nI (by omega) (by decide)) (nm_r (e' := ph_on1 (fun _ => 0) (i + 1)) (by rw [nI_clamp (by omega)]; rfl) (nm_r (nI_1 i) (ih (i + 1) (by omega)))))
theorem ph_x130 {post : SX → Prop} {fc fl : Int32} {w : Nat → Int32} {wb wa : Nat → Int64} {en gr fk gc le go : Nat → Int32} (h : post (fc, fl, w, ph_on1 (fun _ => 0) 20, ph_on1 (fun _ => 0) 9, wb, wa, en, gr, fk, gc, le, go)) : ∀ d i, i + d = 20 → wX_init_130 post fc fl (d + 1) (nI i) w (ph_on1 (fun _ => 0) i) (fun _ => 0) wb wa en gr fk gc le go := by
  intro d
  induction d with
  | zero =>
    intro i hi
    obtain rfl : i = 20 := by omega
    exact br_t (by decide) (Exists.intro 10 (ph_x151 h 9 0 rfl))
  | succ d ih =>
    intro i hi
    exact br_f (nI_ge (b := 20) (by omega) (by decide)) (And.intro (vp_in_nI (by omega) (by decide)) (nm_r (e' := ph_on1 (fun _ => 0) (i + 1)) (by rw [nI_clamp (by omega)]; rfl) (nm_r (nI_1 i) (ih (i + 1) (by omega)))))
theorem ph_y82 {post : SY → Prop} {f1 f2 f3 f4 f5 : Int32} {L w st : Nat → Int32} (h : post (f1, f2, f3, f4, f5, L, ph_on1 (fun _ => 0) 9, w, st)) : ∀ d i, i + d = 9 → wY_init_82 post f1 f2 f3 f4 f5 (d + 1) (nI i) L (ph_on1 (fun _ => 0) i) w st := by
  intro d
  induction d with
  | zero =>
    intro i hi
    obtain rfl : i = 9 := by omega
    exact br_t (by decide) h
  | succ d ih =>
    intro i hi
    exact br_f (nI_ge (b := 9) (by omega) (by decide)) (And.intro (vp_in_nI (by omega) (by decide)) (nm_r (e' := ph_on1 (fun _ => 0) (i + 1)) (by rw [nI_clamp (by omega)]; rfl) (nm_r (nI_1 i) (ih (i + 1) (by omega)))))
theorem ph_y61 {post : SY → Prop} {f1 f2 f3 f4 f5 : Int32} {w st : Nat → Int32} (h : post (f1, f2, f3, f4, f5, ph_on1 (fun _ => 0) 20, ph_on1 (fun _ => 0) 9, w, st)) : ∀ d i, i + d = 20 → wY_init_61 post f1 f2 f3 f4 f5 (d + 1) (nI i) (ph_on1 (fun _ => 0) i) (fun _ => 0) w st := by
  intro d
  induction d with
  | zero =>
    intro i hi
    obtain rfl : i = 20 := by omega
    exact br_t (by decide) (Exists.intro 10 (ph_y82 h 9 0 rfl))
  | succ d ih =>
    intro i hi
    exact br_f (nI_ge (b := 20) (by omega) (by decide)) (And.intro (vp_in_nI (by omega) (by decide)) (nm_r (e' := ph_on1 (fun _ => 0) (i + 1)) (by rw [nI_clamp (by omega)]; rfl) (nm_r (nI_1 i) (ih (i + 1) (by omega)))))
theorem ph_R0 {c : Nat} (h1 : 1 ≤ c) (h2 : c ≤ 4) : i_Rel 1 (nI c, nI 0, (fun _ => 0), ph_on1 (fun _ => 0) 20, ph_on1 (fun _ => 0) 9, (fun _ => 0), (fun _ => 0), (fun _ => 0), (fun _ => 0), (fun _ => 0), (fun _ => 0), (fun _ => 0), (fun _ => 0)) (nI c, nI 0, 0, 0, 0, ph_on1 (fun _ => 0) 20, ph_on1 (fun _ => 0) 9, (fun _ => 0), (fun _ => 0)) := ph_mkR h1 h2 (by omega) (ph_bd1 (by omega) 20) (ph_bd1 (by omega) 9) (ph_bd0 3)
theorem i_vc0 (k0 : Int32) : wpX_init (fun u => wpY_init (fun v => i_Rel 1 u v) k0) k0 := by
  by_cases h1 : 1 ≤ k0
  · by_cases h4 : k0 ≤ 4
    · have hp : ¬ k0 < 0 := fun z => absurd (Int32.lt_of_lt_of_le z (by decide : (0 : Int32) ≤ 1)) (Int32.not_lt.mpr h1)
      obtain ⟨c, hc, rfl⟩ := nI_of hp
      have a1 : 1 ≤ c := (nI_leI (a := 1) (by decide) hc).mp h1
      have a4 : c ≤ 4 := (nI_leI (b := 4) hc (by decide)).mp h4
      exact br_t h1 (br_t h4 (Exists.intro 21 (ph_x130 (br_t h1 (br_t h4 (Exists.intro 21 (ph_y61 (ph_R0 a1 a4) 20 0 rfl)))) 20 0 rfl)))
    · exact br_t h1 (br_f h4 (Exists.intro 21 (ph_x130 (br_t h1 (br_f h4 (Exists.intro 21 (ph_y61 (ph_R0 (c := 4) (by omega) (by omega)) 20 0 rfl)))) 20 0 rfl)))
  · exact br_f h1 (Exists.intro 21 (ph_x130 (br_f h1 (Exists.intro 21 (ph_y61 (ph_R0 (c := 1) (by omega) (by omega)) 20 0 rfl))) 20 0 rfl))
theorem i_vc_columns {k : Nat} {u : SX} {v : SY} (I : i_Rel k u v) (hk : k + 4 ≤ 2049) : wpX_columns (fun r => wpY_columns (fun r' => r' = r ∧ i_Rel (k + 4) u v) v) u := by
  have I' := I
  obtain ⟨c, n, w, L, P, wb, wa, en, gr, fk, gc, le, go, x, y, z, st, _, _, _, _, _, _, rfl, rfl⟩ := I
  exact ⟨rfl, I'⟩
theorem i_vc_length {k : Nat} {u : SX} {v : SY} (I : i_Rel k u v) (hk : k + 4 ≤ 2049) : wpX_length (fun r => wpY_length (fun r' => r' = r ∧ i_Rel (k + 4) u v) v) u := by
  have I' := I
  obtain ⟨c, n, w, L, P, wb, wa, en, gr, fk, gc, le, go, x, y, z, st, _, _, _, _, _, _, rfl, rfl⟩ := I
  exact ⟨rfl, I'⟩
theorem i_vc_clear {k : Nat} {u : SX} {v : SY} (I : i_Rel k u v) (hk : k + 4 ≤ 2049) : wpX_clear (fun u' => wpY_clear (fun v' => i_Rel (k + 4) u' v') v) u := by
  obtain ⟨c, n, w, L, P, wb, wa, en, gr, fk, gc, le, go, x, y, z, st, h1, h2, h3, h4, h5, h6, rfl, rfl⟩ := I
  exact ph_mkR (k := k + 4) (n := 0) h1 h2 (by omega) h4 h5 h6
section
variable {c n : Nat} {w L P : Nat → Int32} {wb wa : Nat → Int64} {en gr fk gc le go : Nat → Int32}
theorem ph_xic {post : Int32 → Prop} {fl v : Int32} (h0 : v < 1 ∨ nI c < v → post 0) (h1 : ¬ v < 1 → ¬ nI c < v → post 1) : wpX_isColumn post (nI c, fl, w, L, P, wb, wa, en, gr, fk, gc, le, go) v :=
  br_c (fun q => h0 (Or.inl q)) (fun q => br_c (fun q' => h0 (Or.inr q')) (fun q' => h1 q q'))
theorem ph_xip {post : Int32 → Prop} {fc v : Int32} (h0 : v < 0 ∨ nI n ≤ v → post 0) (h1 : ¬ v < 0 → ¬ nI n ≤ v → post 1) : wpX_isPlace post (fc, nI n, w, L, P, wb, wa, en, gr, fk, gc, le, go) v :=
  br_c (fun q => h0 (Or.inl q)) (fun q => br_c (fun q' => h0 (Or.inr q')) (fun q' => h1 q q'))
theorem ph_xil {post : Int32 → Prop} {fc fl v : Int32} (h0 : v < 0 ∨ 4 ≤ v → post 0) (h1 : ¬ v < 0 → ¬ 4 ≤ v → post 1) : wpX_isLetter post (fc, fl, w, L, P, wb, wa, en, gr, fk, gc, le, go) v :=
  br_c (fun q => h0 (Or.inl q)) (fun q => br_c (fun q' => h0 (Or.inr q')) (fun q' => h1 q q'))
theorem ph_xiv {post : Int32 → Prop} {fc fl v : Int32} (h0 : v < 0 ∨ 9 < v → post 0) (h1 : ¬ v < 0 → ¬ 9 < v → post 1) : wpX_isValue post (fc, fl, w, L, P, wb, wa, en, gr, fk, gc, le, go) v :=
  br_c (fun q => h0 (Or.inl q)) (fun q => br_c (fun q' => h0 (Or.inr q')) (fun q' => h1 q q'))
theorem ph_xik {post : Int32 → Prop} {fc fl v : Int32} (h0 : v < 0 ∨ 3 ≤ v → post 0) (h1 : ¬ v < 0 → ¬ 3 ≤ v → post 1) : wpX_isKind post (fc, fl, w, L, P, wb, wa, en, gr, fk, gc, le, go) v :=
  br_c (fun q => h0 (Or.inl q)) (fun q => br_c (fun q' => h0 (Or.inr q')) (fun q' => h1 q q'))
theorem ph_yic {post : Int32 → Prop} {f2 f3 f4 f5 v : Int32} {L P w st : Nat → Int32} (h0 : v < 1 ∨ nI c < v → post 0) (h1 : ¬ v < 1 → ¬ nI c < v → post 1) : wpY_isColumn post (nI c, f2, f3, f4, f5, L, P, w, st) v :=
  br_c (fun q => h0 (Or.inl q)) (fun q => br_c (fun q' => h0 (Or.inr q')) (fun q' => h1 q q'))
theorem ph_yip {post : Int32 → Prop} {f1 f3 f4 f5 v : Int32} {L P w st : Nat → Int32} (h0 : v < 0 ∨ nI n ≤ v → post 0) (h1 : ¬ v < 0 → ¬ nI n ≤ v → post 1) : wpY_isPlace post (f1, nI n, f3, f4, f5, L, P, w, st) v :=
  br_c (fun q => h0 (Or.inl q)) (fun q => br_c (fun q' => h0 (Or.inr q')) (fun q' => h1 q q'))
end
theorem ph_lt34 {v : Int32} : ¬ v < 0 → (3 < v ↔ 4 ≤ v) := by
  intro h
  obtain ⟨a, ha, rfl⟩ := nI_of h
  have h1 : (3 : Int32) < nI a ↔ 3 < a := nI_ltI (a := 3) (by decide) ha
  have h2 : (4 : Int32) ≤ nI a ↔ 4 ≤ a := nI_leI (a := 4) (by decide) ha
  rw [h1, h2]; omega
theorem ph_lt23 {v : Int32} : ¬ v < 0 → (2 < v ↔ 3 ≤ v) := by
  intro h
  obtain ⟨a, ha, rfl⟩ := nI_of h
  have h1 : (2 : Int32) < nI a ↔ 2 < a := nI_ltI (a := 2) (by decide) ha
  have h2 : (3 : Int32) ≤ nI a ↔ 3 ≤ a := nI_leI (a := 3) (by decide) ha
  rw [h1, h2]; omega
theorem ph_inL {v : Int32} (h0 : ¬ v < 0) (h : ¬ 4 ≤ v) : ∃ a, a < 4 ∧ v = nI a := by
  obtain ⟨a, ha, rfl⟩ := nI_of h0
  have h2 : (4 : Int32) ≤ nI a ↔ 4 ≤ a := nI_leI (a := 4) (by decide) ha
  rw [h2] at h
  exact ⟨a, by omega, rfl⟩
theorem ph_inK {v : Int32} (h0 : ¬ v < 0) (h : ¬ 3 ≤ v) : ∃ a, a < 3 ∧ v = nI a := by
  obtain ⟨a, ha, rfl⟩ := nI_of h0
  have h2 : (3 : Int32) ≤ nI a ↔ 3 ≤ a := nI_leI (a := 3) (by decide) ha
  rw [h2] at h
  exact ⟨a, by omega, rfl⟩
theorem ph_inV {v : Int32} (h0 : ¬ v < 0) (h : ¬ 9 < v) : ∃ a, a ≤ 9 ∧ v = nI a := by
  obtain ⟨a, ha, rfl⟩ := nI_of h0
  have h2 : (9 : Int32) < nI a ↔ 9 < a := nI_ltI (a := 9) (by decide) ha
  rw [h2] at h
  exact ⟨a, by omega, rfl⟩
theorem ph_inP {v : Int32} {n : Nat} (hn : n ≤ 8) (h0 : ¬ v < 0) (h : ¬ nI n ≤ v) : ∃ a, a < n ∧ v = nI a := by
  obtain ⟨a, ha, rfl⟩ := nI_of h0
  rw [nI_leI (by omega) ha] at h
  exact ⟨a, by omega, rfl⟩
theorem ph_inC {v : Int32} {c : Nat} (hc : c ≤ 4) (h0 : ¬ v < 1) (h : ¬ nI c < v) : ∃ a, a < c ∧ v = nI (a + 1) := by
  have hp : ¬ v < 0 := fun z => h0 (Int32.lt_of_lt_of_le z (by decide))
  obtain ⟨a, ha, rfl⟩ := nI_of hp
  have h2 : nI a < (1 : Int32) ↔ a < 1 := nI_ltI (b := 1) ha (by decide)
  rw [h2] at h0
  rw [nI_ltI (by omega) ha] at h
  exact ⟨a - 1, by omega, by rw [show a - 1 + 1 = a by omega]⟩
theorem i_vc_like {k : Nat} {u : SX} {v : SY} (I : i_Rel k u v) (hk : k + 4 ≤ 2049) (v1 : Int32) (v2 : Int32) (v3 : Int32) : wpX_like (fun r u' => wpY_like (fun r' v' => r' = r ∧ i_Rel (k + 4) u' v') v v1 v2 v3) u v1 v2 v3 := by
  have I' := I
  obtain ⟨c, n, w, L, P, wb, wa, en, gr, fk, gc, le, go, x, y, z, st, h1, h2, h3, h4, h5, h6, rfl, rfl⟩ := I
  have bad : ¬ (¬ v1 < 1 ∧ ¬ nI c < v1 ∧ ¬ v2 < 0 ∧ ¬ 4 ≤ v2 ∧ ¬ v3 < 0 ∧ ¬ 9 < v3) → wpY_like (fun r' v' => r' = -1 ∧ i_Rel (k + 4) (nI c, nI n, w, L, P, wb, wa, en, gr, fk, gc, le, go) v') (nI c, nI n, x, y, z, L, P, w, st) v1 v2 v3 := by
    intro hb
    exact br_c (fun _ => ⟨rfl, I'⟩) (fun a1 => br_c (fun _ => ⟨rfl, I'⟩) (fun a2 => br_c (fun _ => ⟨rfl, I'⟩) (fun a3 => br_c (fun _ => ⟨rfl, I'⟩) (fun a4 => br_c (fun _ => ⟨rfl, I'⟩) (fun a5 => br_c (fun a6 => absurd ⟨a1, a2, a3, fun q => a4 ((ph_lt34 a3).mpr q), a5, Int32.not_lt.mpr a6⟩ hb) (fun _ => ⟨rfl, I'⟩))))))
  unfold wpX_like
  dsimp only
  refine ph_xic (fun q => br_t rfl (bad (fun z => q.elim z.1 z.2.1))) (fun a1 a2 => br_f (by decide) ?_)
  refine ph_xil (fun q => br_t rfl (bad (fun z => q.elim z.2.2.1 z.2.2.2.1))) (fun a3 a4 => br_f (by decide) ?_)
  refine ph_xiv (fun q => br_t rfl (bad (fun z => q.elim z.2.2.2.2.1 z.2.2.2.2.2))) (fun a5 a6 => br_f (by decide) ?_)
  have b4 : ¬ 3 < v2 := fun q => a4 ((ph_lt34 a3).mp q)
  have b6 : v3 ≤ 9 := Int32.not_lt.mp a6
  obtain ⟨j, hj, rfl⟩ := ph_inC h2 a1 a2
  obtain ⟨a, ha, rfl⟩ := ph_inL a3 a4
  obtain ⟨e, he, rfl⟩ := ph_inV a5 a6
  have i1 : nI (j + 1) * 4 + nI a = nI ((j + 1) * 4 + a) := ph_i4' _ _
  have i2 : 4 * nI (j + 1) + nI a = nI ((j + 1) * 4 + a) := ph_i4 _ _
  have hv : vp_in (nI ((j + 1) * 4 + a)) 20 := vp_in_nI (by omega) (by decide)
  rw [i1]
  refine And.intro hv (nm_r (e' := L ((j + 1) * 4 + a)) (by rw [nI_clamp (by omega)]) (And.intro hv (nm_r (e' := upd L ((j + 1) * 4 + a) (nI e)) (by rw [nI_clamp (by omega)]) ?_)))
  refine br_f a1 (br_f a2 (br_f a3 (br_f b4 (br_f a5 (br_t b6 ?_)))))
  rw [i2]
  exact And.intro hv (nm_r (e' := L ((j + 1) * 4 + a)) (by rw [nI_clamp (by omega)]) (And.intro hv (nm_r (e' := upd L ((j + 1) * 4 + a) (nI e)) (by rw [nI_clamp (by omega)]) ⟨rfl, ph_mkR h1 h2 h3 (ph_bdu h4 he) h5 h6⟩)))
theorem i_vc_pass {k : Nat} {u : SX} {v : SY} (I : i_Rel k u v) (hk : k + 4 ≤ 2049) (v1 : Int32) (v2 : Int32) (v3 : Int32) : wpX_pass (fun r u' => wpY_pass (fun r' v' => r' = r ∧ i_Rel (k + 4) u' v') v v1 v2 v3) u v1 v2 v3 := by
  have I' := I
  obtain ⟨c, n, w, L, P, wb, wa, en, gr, fk, gc, le, go, x, y, z, st, h1, h2, h3, h4, h5, h6, rfl, rfl⟩ := I
  have bad : ¬ (¬ v1 < 0 ∧ ¬ 3 ≤ v1 ∧ ¬ v2 < 0 ∧ ¬ 3 ≤ v2 ∧ ¬ v3 < 0 ∧ ¬ 9 < v3) → wpY_pass (fun r' v' => r' = -1 ∧ i_Rel (k + 4) (nI c, nI n, w, L, P, wb, wa, en, gr, fk, gc, le, go) v') (nI c, nI n, x, y, z, L, P, w, st) v1 v2 v3 := by
    intro hb
    exact br_c (fun _ => ⟨rfl, I'⟩) (fun a1 => br_c (fun _ => ⟨rfl, I'⟩) (fun a2 => br_c (fun _ => ⟨rfl, I'⟩) (fun a3 => br_c (fun _ => ⟨rfl, I'⟩) (fun a4 => br_c (fun _ => ⟨rfl, I'⟩) (fun a5 => br_c (fun a6 => absurd ⟨a1, fun q => a2 ((ph_lt23 a1).mpr q), a3, fun q => a4 ((ph_lt23 a3).mpr q), a5, Int32.not_lt.mpr a6⟩ hb) (fun _ => ⟨rfl, I'⟩))))))
  unfold wpX_pass
  dsimp only
  refine ph_xik (fun q => br_t rfl (bad (fun z => q.elim z.1 z.2.1))) (fun a1 a2 => br_f (by decide) ?_)
  refine ph_xik (fun q => br_t rfl (bad (fun z => q.elim z.2.2.1 z.2.2.2.1))) (fun a3 a4 => br_f (by decide) ?_)
  refine ph_xiv (fun q => br_t rfl (bad (fun z => q.elim z.2.2.2.2.1 z.2.2.2.2.2))) (fun a5 a6 => br_f (by decide) ?_)
  have b2 : ¬ 2 < v1 := fun q => a2 ((ph_lt23 a1).mp q)
  have b4 : ¬ 2 < v2 := fun q => a4 ((ph_lt23 a3).mp q)
  have b6 : v3 ≤ 9 := Int32.not_lt.mp a6
  obtain ⟨j, hj, rfl⟩ := ph_inK a1 a2
  obtain ⟨a, ha, rfl⟩ := ph_inK a3 a4
  obtain ⟨e, he, rfl⟩ := ph_inV a5 a6
  have i1 : nI j * 3 + nI a = nI (j * 3 + a) := ph_i3' _ _
  have i2 : 3 * nI j + nI a = nI (j * 3 + a) := ph_i3 _ _
  have hv : vp_in (nI (j * 3 + a)) 9 := vp_in_nI (by omega) (by decide)
  rw [i1]
  refine And.intro hv (nm_r (e' := P (j * 3 + a)) (by rw [nI_clamp (by omega)]) (And.intro hv (nm_r (e' := upd P (j * 3 + a) (nI e)) (by rw [nI_clamp (by omega)]) ?_)))
  refine br_f a1 (br_f b2 (br_f a3 (br_f b4 (br_f a5 (br_t b6 ?_)))))
  rw [i2]
  exact And.intro hv (nm_r (e' := P (j * 3 + a)) (by rw [nI_clamp (by omega)]) (And.intro hv (nm_r (e' := upd P (j * 3 + a) (nI e)) (by rw [nI_clamp (by omega)]) ⟨rfl, ph_mkR h1 h2 h3 h4 (ph_bdu h5 he) h6⟩)))
theorem i_vc_letter {k : Nat} {u : SX} {v : SY} (I : i_Rel k u v) (hk : k + 4 ≤ 2049) (v1 : Int32) : wpX_letter (fun r u' => wpY_letter (fun r' v' => r' = r ∧ i_Rel (k + 4) u' v') v v1) u v1 := by
  have I' := I
  obtain ⟨c, n, w, L, P, wb, wa, en, gr, fk, gc, le, go, x, y, z, st, h1, h2, h3, h4, h5, h6, rfl, rfl⟩ := I
  unfold wpX_letter
  dsimp only
  refine ph_xil (fun q => br_t rfl ?_) (fun a1 a2 => br_f (by decide) ?_)
  · exact br_c (fun _ => ⟨rfl, I'⟩) (fun a1 => br_c (fun a2 => absurd (q.resolve_left a1) (fun q' => Int32.not_lt.mpr a2 ((ph_lt34 a1).mpr q'))) (fun _ => ⟨rfl, I'⟩))
  · have b2 : v1 ≤ 3 := Int32.not_lt.mp (fun q => a2 ((ph_lt34 a1).mp q))
    obtain ⟨a, ha, rfl⟩ := ph_inL a1 a2
    by_cases h7 : n = 7
    · subst h7
      exact br_f (by decide) (br_f a1 (br_t b2 (br_t rfl ⟨rfl, I'⟩)))
    · have hv : vp_in (nI n) 8 := vp_in_nI (by omega) (by decide)
      have hne : ¬ nI n = 7 := fun q => h7 ((nI_eq (b := 7) (by omega) (by decide)).mp q)
      exact br_t (nI_lt (b := 7) (by omega) (by decide)) (And.intro hv (nm_r (e' := upd w n (nI a)) (by rw [nI_clamp (by omega)]) (nm_r (nI_1 n) (br_f a1 (br_t b2 (br_f hne (And.intro hv (nm_r (e' := upd w n (nI a)) (by rw [nI_clamp (by omega)]) (nm_r (nI_1 n) ⟨rfl, ph_mkR h1 h2 (by omega) h4 h5 (ph_bdu h6 (by omega))⟩)))))))))
