/-! the class's best, ties, bestStep -/
def ph_R (f : Nat → Nat → Nat → Nat → Nat) (n c i j p : Nat) : Option (Nat × List Nat × Nat) := ph_T ph_ro none (some (0, [], 1)) (ph_aR f) n c i j p
def ph_r1 : Option (Nat × List Nat × Nat) → Int32
  | none => -4
  | some x => nI x.1
def ph_r2 : Option (Nat × List Nat × Nat) → Int32
  | none => 0
  | some x => nI (x.2.1.headD 0)
def ph_r3 : Option (Nat × List Nat × Nat) → Int32
  | none => 0
  | some x => nI x.2.2
theorem ph_RT (f : Nat → Nat → Nat → Nat → Nat) (n c i j p : Nat) : ph_R f n c i j p = ph_lf ph_ro none (fun q => some (ph_sc f i j p q, q, 1)) (ph_ways (n - i) (c - j)) := ph_lfc (fun t => ph_gvR f t i j p) _
theorem ph_Rb {f : Nat → Nat → Nat → Nat → Nat} (hf : ∀ p k i j, f p k i j ≤ 18) {n c : Nat} (hnc : n + c ≤ 12) (i j p : Nat) : ∃ s t d, ph_R f n c i j p = some (s, t, d) ∧ s ≤ 216 := by
  obtain ⟨s, t, d, h1, _, _, _, h5, h6⟩ := ph_Rc (ph_sc f i j p) (ph_ways (n - i) (c - j)) (ph_ne _ _)
  refine ⟨s, t, d, (ph_RT f n c i j p).trans h1, ?_⟩
  have := ph_sc216 hf (by omega) h6 i j p
  omega
theorem ph_fc {α : Type} {p q : α → Bool} : ∀ l : List α, (∀ r, r ∈ l → p r = q r) → l.find? p = l.find? q := by
  intro l
  induction l with
  | nil => intro _; rfl
  | cons r l ih =>
    intro h
    have h1 := h r List.mem_cons_self
    cases hp : p r with
    | true => rw [ph_fp hp, ph_fp (h1 ▸ hp)]
    | false => rw [ph_fn hp, ph_fn (h1 ▸ hp), ih (fun x hx => h x (List.mem_cons_of_mem _ hx))]
theorem ph_Rk {L P w : Nat → Int32} (hL : ph_bd L 9) (hP : ph_bd P 9) {n c : Nat} (hnc : n + c ≤ 12) : ∃ s t d, ph_R (ph_s L P w) n c 0 0 0 = some (s, t, d) ∧ ph_G L P w (-1) n c = nI s ∧ (ph_ways n c).find? (fun r => decide (ph_G L P w (-1) n c ≤ nI (ph_sc (ph_s L P w) 0 0 0 r))) = some t ∧ ph_Ti L P w (ph_G L P w (-1) n c) n c = nI d ∧ t ∈ ph_ways n c := by
  obtain ⟨s, t, d, h1, h2, h3, h4, h5, h6⟩ := ph_Rc (ph_sc (ph_s L P w) 0 0 0) (ph_ways n c) (ph_ne _ _)
  have hb : ∀ q, q ∈ ph_ways n c → ph_sc (ph_s L P w) 0 0 0 q ≤ 216 := fun q hq => ph_sc216 (ph_s18 hL hP) hnc hq 0 0 0
  have hs : s ≤ 216 := by have := hb t h6; omega
  have hG : ph_G L P w (-1) n c = nI s := by
    have e := ph_Gf (fun t => (-1 : Int32) = -1 ∨ nI t.length = -1) (fun t => inferInstance) (ph_sc (ph_s L P w) 0 0 0) (ph_ways n c) none hb ph_bo0
    refine Eq.trans e ?_
    show ph_e1 (ph_lf ph_om none _ (ph_ways n c)) = _
    rw [ph_lfc (g' := fun t => some (ph_sc (ph_s L P w) 0 0 0 t)) (fun t => if_pos (Or.inl rfl)), ph_Rm, h1]
    rfl
  refine ⟨s, t, d, (ph_RT _ n c 0 0 0).trans h1, hG, ?_, ?_, h6⟩
  · rw [hG, ← h3]
    refine ph_fc _ (fun r hr => ?_)
    have := hb r hr
    exact decide_eq_decide.mpr (nI_leI (by omega) (by omega))
  · rw [hG, ← h4]
    exact (ph_Tf (ph_sc (ph_s L P w) 0 0 0) hs (ph_ways n c) 0 hb).trans (by rw [Nat.zero_add])
section
variable {c n : Nat} {w L P : Nat → Int32} {wb wa : Nat → Int64} {en gr fk gc le go : Nat → Int32}
theorem ph_xgs (hc : c ≤ 4) (hn : n ≤ 8) (hL : ph_bd L 9) (hP : ph_bd P 9) (hw : ph_bd w 3) {post : SX → Prop} {i j p k r : Nat} {acc : Option (Nat × List Nat × Nat)} (hi : i ≤ n) (hj : j ≤ c) (hp : p < 3) (hk : k < 3) (hT : i + ph_le k ≤ n ∧ j + ph_co k ≤ c → gr (ph_ix (i + ph_le k) (j + ph_co k) k) = ph_r1 (ph_R (ph_s L P w) n c (i + ph_le k) (j + ph_co k) k) ∧ gc (ph_ix (i + ph_le k) (j + ph_co k) k) = ph_r3 (ph_R (ph_s L P w) n c (i + ph_le k) (j + ph_co k) k)) (ha : ∀ x, acc = some x → x.1 ≤ 1000) (h : wX_setGreatest_43 post (nI i) (nI j) (nI p) (nI c) (nI n) w L P wb wa en gr fk gc le go r (ph_r1 (ph_ro acc (ph_X ph_ro none (some (0, [], 1)) (ph_aR (ph_s L P w)) n c i j p k))) (ph_r2 (ph_ro acc (ph_X ph_ro none (some (0, [], 1)) (ph_aR (ph_s L P w)) n c i j p k))) (ph_r3 (ph_ro acc (ph_X ph_ro none (some (0, [], 1)) (ph_aR (ph_s L P w)) n c i j p k))) (nI (k + 1))) : wX_setGreatest_43 post (nI i) (nI j) (nI p) (nI c) (nI n) w L P wb wa en gr fk gc le go (r + 1) (ph_r1 acc) (ph_r2 acc) (ph_r3 acc) (nI k) := by
  refine br_f (nI_ge (b := 3) hk (by decide)) (ph_xcan hk (by omega) (by omega) hn hc ?_)
  have hf := ph_s18 (w := w) hL hP p k i j
  by_cases z : i + ph_le k ≤ n ∧ j + ph_co k ≤ c
  · have hb := ph_ixb (i := i + ph_le k) (j := j + ph_co k) (p := k) (by omega) (by omega) hk
    obtain ⟨s, t, d, hR, hs⟩ := ph_Rb (f := ph_s L P w) (ph_s18 hL hP) (n := n) (c := c) (by omega) (i + ph_le k) (j + ph_co k) k
    obtain ⟨hg, hd⟩ := hT z
    rw [hR] at hg hd
    have hX : ph_X ph_ro none (some (0, [], 1)) (ph_aR (ph_s L P w)) n c i j p k = some (ph_s L P w p k i j + s, k :: t, d) := by
      rw [ph_X, if_pos z]
      show ph_aR _ _ _ _ _ (ph_R (ph_s L P w) n c (i + ph_le k) (j + ph_co k) k) = _
      rw [hR]; rfl
    rw [hX] at h
    rw [if_pos z]
    have hgd : gc (nI (ph_ix (i + ph_le k) (j + ph_co k) k)).toNatClampNeg = nI d := by rw [nI_clamp (by omega)]; exact hd
    have hv : vp_in (nI (ph_ix (i + ph_le k) (j + ph_co k) k)) 135 := vp_in_nI hb (by decide)
    refine br_f (by decide) (ph_xpa hk (ph_xsco hL hP hw hp hk (fun q => by subst q; rw [ph_le0, ph_co0] at z; omega) (And.intro hv (nm_r (e' := nI (ph_s L P w p k i j + s)) ?_ ?_))))
    · rw [nI_clamp (by omega), hg]; exact nI_add _ _
    · cases acc with
      | none => exact br_f (ph_n4l (by omega)) (And.intro hv (nm_r hgd (nm_r (nI_1 k) h)))
      | some x =>
        have hx := ha x rfl
        refine pk_le (ph_s L P w p k i j + s) x.1 (fun q => pk_eq (ph_s L P w p k i j + s) x.1 (fun q' => ?_) (fun q' => ?_)) (fun q => ?_)
        · have e : ph_ro (some x) (some (ph_s L P w p k i j + s, k :: t, d)) = some (x.1, x.2.1, x.2.2 + d) := (if_neg (by show ¬ x.1 < ph_s L P w p k i j + s; omega)).trans (if_pos q')
          rw [e] at h
          refine And.intro hv (nm_r (e' := nI (x.2.2 + d)) ?_ (nm_r (nI_1 k) h))
          rw [hgd]; exact nI_add _ _
        · have e : ph_ro (some x) (some (ph_s L P w p k i j + s, k :: t, d)) = some x := (if_neg (by show ¬ x.1 < ph_s L P w p k i j + s; omega)).trans (if_neg q')
          rw [e] at h
          exact nm_r (nI_1 k) h
        · have e : ph_ro (some x) (some (ph_s L P w p k i j + s, k :: t, d)) = some (ph_s L P w p k i j + s, k :: t, d) := if_pos q
          rw [e] at h
          exact And.intro hv (nm_r hgd (nm_r (nI_1 k) h))
  · rw [if_neg z]
    rw [ph_X, if_neg z, ph_ror] at h
    exact br_t rfl (nm_r (nI_1 k) h)
theorem ph_roB {x y : Option (Nat × List Nat × Nat)} {b : Nat} (hx : ∀ z, x = some z → z.1 ≤ b) (hy : ∀ z, y = some z → z.1 ≤ b) : ∀ z, ph_ro x y = some z → z.1 ≤ b := by
  cases x with
  | none => exact hy
  | some a =>
    cases y with
    | none => exact hx
    | some d =>
      intro z hz
      simp only [ph_ro] at hz
      have h1 := hx a rfl
      have h2 := hy d rfl
      split at hz
      · cases hz; exact h2
      · split at hz
        · cases hz; exact h1
        · cases hz; exact h1
theorem ph_XB (hc : c ≤ 4) (hn : n ≤ 8) (hL : ph_bd L 9) (hP : ph_bd P 9) (i j p k : Nat) : ∀ z, ph_X ph_ro none (some (0, [], 1)) (ph_aR (ph_s L P w)) n c i j p k = some z → z.1 ≤ 1000 := by
  intro z hz
  rw [ph_X] at hz
  split at hz
  · obtain ⟨s, t, d, hR, hs⟩ := ph_Rb (f := ph_s L P w) (ph_s18 hL hP) (n := n) (c := c) (by omega) (i + ph_le k) (j + ph_co k) k
    have hf := ph_s18 (w := w) hL hP p k i j
    rw [ph_R] at hR
    rw [hR] at hz
    cases hz
    show ph_s L P w p k i j + s ≤ 1000
    omega
  · exact nomatch hz
theorem ph_xg3 (hc : c ≤ 4) (hn : n ≤ 8) (hL : ph_bd L 9) (hP : ph_bd P 9) (hw : ph_bd w 3) {post : SX → Prop} {i j p : Nat} {acc : Option (Nat × List Nat × Nat)} (hi : i ≤ n) (hj : j ≤ c) (hp : p < 3) (hT : ∀ k, k < 3 → i + ph_le k ≤ n ∧ j + ph_co k ≤ c → gr (ph_ix (i + ph_le k) (j + ph_co k) k) = ph_r1 (ph_R (ph_s L P w) n c (i + ph_le k) (j + ph_co k) k) ∧ gc (ph_ix (i + ph_le k) (j + ph_co k) k) = ph_r3 (ph_R (ph_s L P w) n c (i + ph_le k) (j + ph_co k) k)) (ha : ∀ x, acc = some x → x.1 ≤ 1000) (he : ph_ro (ph_ro (ph_ro acc (ph_X ph_ro none (some (0, [], 1)) (ph_aR (ph_s L P w)) n c i j p 0)) (ph_X ph_ro none (some (0, [], 1)) (ph_aR (ph_s L P w)) n c i j p 1)) (ph_X ph_ro none (some (0, [], 1)) (ph_aR (ph_s L P w)) n c i j p 2) = ph_R (ph_s L P w) n c i j p) (h : post (nI c, nI n, w, L, P, wb, wa, en, upd gr (ph_ix i j p) (ph_r1 (ph_R (ph_s L P w) n c i j p)), upd fk (ph_ix i j p) (ph_r2 (ph_R (ph_s L P w) n c i j p)), upd gc (ph_ix i j p) (ph_r3 (ph_R (ph_s L P w) n c i j p)), le, go)) : wX_setGreatest_43 post (nI i) (nI j) (nI p) (nI c) (nI n) w L P wb wa en gr fk gc le go 4 (ph_r1 acc) (ph_r2 acc) (ph_r3 acc) (nI 0) := by
  have hb := ph_ixb (i := i) (j := j) (p := p) (by omega) (by omega) hp
  have hv : vp_in (nI (ph_ix i j p)) 135 := vp_in_nI hb (by decide)
  have a1 := ph_roB ha (ph_XB (w := w) hc hn hL hP i j p 0)
  have a2 := ph_roB a1 (ph_XB (w := w) hc hn hL hP i j p 1)
  refine ph_xgs (k := 0) hc hn hL hP hw hi hj hp (by omega) (hT 0 (by omega)) ha (ph_xgs (k := 1) hc hn hL hP hw hi hj hp (by omega) (hT 1 (by omega)) a1 (ph_xgs (k := 2) hc hn hL hP hw hi hj hp (by omega) (hT 2 (by omega)) a2 ?_))
  rw [he]
  refine br_t (by decide) (ph_xpt (And.intro hv (nm_r (e' := upd gr (ph_ix i j p) (ph_r1 (ph_R (ph_s L P w) n c i j p))) ?_ (And.intro hv (nm_r (e' := upd fk (ph_ix i j p) (ph_r2 (ph_R (ph_s L P w) n c i j p))) ?_ (And.intro hv (nm_r (e' := upd gc (ph_ix i j p) (ph_r3 (ph_R (ph_s L P w) n c i j p))) ?_ h)))))))
  · rw [nI_clamp (by omega)]
  · rw [nI_clamp (by omega)]
  · rw [nI_clamp (by omega)]
theorem ph_xsg (hc : c ≤ 4) (hn : n ≤ 8) (hL : ph_bd L 9) (hP : ph_bd P 9) (hw : ph_bd w 3) {post : SX → Prop} {i j p : Nat} (hi : i ≤ n) (hj : j ≤ c) (hp : p < 3) (hT : ∀ k, k < 3 → i + ph_le k ≤ n ∧ j + ph_co k ≤ c → gr (ph_ix (i + ph_le k) (j + ph_co k) k) = ph_r1 (ph_R (ph_s L P w) n c (i + ph_le k) (j + ph_co k) k) ∧ gc (ph_ix (i + ph_le k) (j + ph_co k) k) = ph_r3 (ph_R (ph_s L P w) n c (i + ph_le k) (j + ph_co k) k)) (h : post (nI c, nI n, w, L, P, wb, wa, en, upd gr (ph_ix i j p) (ph_r1 (ph_R (ph_s L P w) n c i j p)), upd fk (ph_ix i j p) (ph_r2 (ph_R (ph_s L P w) n c i j p)), upd gc (ph_ix i j p) (ph_r3 (ph_R (ph_s L P w) n c i j p)), le, go)) : wpX_setGreatest post (nI c, nI n, w, L, P, wb, wa, en, gr, fk, gc, le, go) (nI i) (nI j) (nI p) := by
  unfold wpX_setGreatest
  dsimp only
  refine ph_xend (by omega) (by omega) hn hc ?_
  by_cases z : i = n ∧ j = c
  · rw [if_pos z]
    obtain ⟨rfl, rfl⟩ := z
    refine br_f (by decide) (br_f (by decide) (Exists.intro 4 ?_))
    refine ph_xg3 (acc := some (0, [], 1)) hc hn hL hP hw hi hj hp hT (fun x hx => by cases hx; exact Nat.zero_le _) ?_ h
    rw [ph_X, ph_X, ph_X, if_neg (by rw [ph_le0]; omega), if_neg (by rw [ph_le1]; omega), if_neg (by rw [ph_co2]; omega), ph_R, ph_Tend (ph_lawR _)]
    rfl
  · rw [if_neg z]
    refine br_t rfl (br_t rfl (Exists.intro 4 ?_))
    exact ph_xg3 (acc := none) hc hn hL hP hw hi hj hp hT (fun x hx => nomatch hx) (ph_Trec (ph_lawR _) p hi hj z).symm h
theorem ph_xfg (hc : c ≤ 4) (hn : n ≤ 8) (hL : ph_bd L 9) (hP : ph_bd P 9) (hw : ph_bd w 3) {post : SX → Prop} (h : ∀ gr' fk' gc' : Nat → Int32, (∀ i j p, i ≤ n → j ≤ c → p < 3 → gr' (ph_ix i j p) = ph_r1 (ph_R (ph_s L P w) n c i j p) ∧ fk' (ph_ix i j p) = ph_r2 (ph_R (ph_s L P w) n c i j p) ∧ gc' (ph_ix i j p) = ph_r3 (ph_R (ph_s L P w) n c i j p)) → post (nI c, nI n, w, L, P, wb, wa, en, gr', fk', gc', le, go)) : wpX_fillGreatest post (nI c, nI n, w, L, P, wb, wa, en, gr, fk, gc, le, go) := by
  refine ph_dn (N := n) (C := c) hn hc (σ := (Nat → Int32) × (Nat → Int32) × (Nat → Int32))
    (fun q x s => wX_fillGreatest_5 post q x (nI c) (nI n) w L P wb wa en s.1 s.2.1 s.2.2 le go)
    (fun m1 x q y s => wX_fillGreatest_14 post (wX_fillGreatest_5 post m1) x q y (nI c) (nI n) w L P wb wa en s.1 s.2.1 s.2.2 le go)
    (fun m1 x q y r z s => wX_fillGreatest_20 post (wX_fillGreatest_5 post m1) (wX_fillGreatest_14 post (wX_fillGreatest_5 post m1) x q) x y r z (nI c) (nI n) w L P wb wa en s.1 s.2.1 s.2.2 le go)
    (fun s => post (nI c, nI n, w, L, P, wb, wa, en, s.1, s.2.1, s.2.2, le, go))
    (fun i j p s => ph_D (fun i j p => ph_r1 (ph_R (ph_s L P w) n c i j p)) n c i j p s.1 ∧ ph_D (fun i j p => ph_r2 (ph_R (ph_s L P w) n c i j p)) n c i j p s.2.1 ∧ ph_D (fun i j p => ph_r3 (ph_R (ph_s L P w) n c i j p)) n c i j p s.2.2)
    (fun _ _ _ hx hp => br_t hx hp) (fun _ _ _ hx hp => br_f hx hp) (fun _ _ _ _ _ hx hp => br_t hx (nm_e hp)) (fun _ _ _ _ _ hx hp => br_f hx hp) (fun _ _ _ _ _ _ _ hx hp => br_t hx (nm_e hp))
    ?_ (fun _ _ _ _ _ h => ⟨ph_Dt1 h.1, ph_Dt1 h.2.1, ph_Dt1 h.2.2⟩) (fun _ _ _ h => ⟨ph_Dt2 h.1, ph_Dt2 h.2.1, ph_Dt2 h.2.2⟩) (fun s hs => h s.1 s.2.1 s.2.2 (fun i j p h1 h2 h3 => ⟨ph_Dt3 hs.1 i j p h1 h2 h3, ph_Dt3 hs.2.1 i j p h1 h2 h3, ph_Dt3 hs.2.2 i j p h1 h2 h3⟩)) (gr, fk, gc) ⟨ph_D0, ph_D0, ph_D0⟩
  intro m1 i q j r p s hi hj hp hI hk
  refine br_f (nI_ge (b := 3) hp (by decide)) (ph_xsg hc hn hL hP hw hi hj hp (fun k hk z => ⟨hI.1 _ _ k z.1 z.2 hk (by have := ph_lc k; omega), hI.2.2 _ _ k z.1 z.2 hk (by have := ph_lc k; omega)⟩) ?_)
  exact nm_r (nI_1 p) (hk (upd s.1 (ph_ix i j p) (ph_r1 (ph_R (ph_s L P w) n c i j p)), upd s.2.1 (ph_ix i j p) (ph_r2 (ph_R (ph_s L P w) n c i j p)), upd s.2.2 (ph_ix i j p) (ph_r3 (ph_R (ph_s L P w) n c i j p))) ⟨ph_Dp hc hj hp hI.1 pk_us (fun x hx => pk_un hx), ph_Dp hc hj hp hI.2.1 pk_us (fun x hx => pk_un hx), ph_Dp hc hj hp hI.2.2 pk_us (fun x hx => pk_un hx)⟩)
theorem ph_xbest (hc : c ≤ 4) (hn : n ≤ 8) (hL : ph_bd L 9) (hP : ph_bd P 9) (hw : ph_bd w 3) {post : Int32 → SX → Prop} (h : ∀ gr' fk' gc' : Nat → Int32, post (ph_G L P w (-1) n c) (nI c, nI n, w, L, P, wb, wa, en, gr', fk', gc', le, go)) : wpX_best post (nI c, nI n, w, L, P, wb, wa, en, gr, fk, gc, le, go) := by
  unfold wpX_best
  dsimp only
  refine ph_xfg hc hn hL hP hw (fun gr' fk' gc' hT => ?_)
  refine ph_xpt (i := 0) (j := 0) (p := 0) (And.intro (vp_in_nI (by decide) (by decide)) ?_)
  obtain ⟨s, t, d, h1, h2, _⟩ := ph_Rk (w := w) hL hP (n := n) (c := c) (by omega)
  have e : gr' (nI (ph_ix 0 0 0)).toNatClampNeg = ph_r1 (ph_R (ph_s L P w) n c 0 0 0) := (hT 0 0 0 (by omega) (by omega) (by omega)).1
  show post (gr' (nI (ph_ix 0 0 0)).toNatClampNeg) (nI c, nI n, w, L, P, wb, wa, en, gr', fk', gc', le, go)
  rw [e, h1]
  show post (nI s) _
  rw [← h2]
  exact h gr' fk' gc'
theorem ph_xties (hc : c ≤ 4) (hn : n ≤ 8) (hL : ph_bd L 9) (hP : ph_bd P 9) (hw : ph_bd w 3) {post : Int32 → SX → Prop} (h : ∀ gr' fk' gc' : Nat → Int32, post (ph_Ti L P w (ph_G L P w (-1) n c) n c) (nI c, nI n, w, L, P, wb, wa, en, gr', fk', gc', le, go)) : wpX_ties post (nI c, nI n, w, L, P, wb, wa, en, gr, fk, gc, le, go) := by
  unfold wpX_ties
  dsimp only
  refine ph_xfg hc hn hL hP hw (fun gr' fk' gc' hT => ?_)
  refine ph_xpt (i := 0) (j := 0) (p := 0) (And.intro (vp_in_nI (by decide) (by decide)) ?_)
  obtain ⟨s, t, d, h1, h2, _, h4, _⟩ := ph_Rk (w := w) hL hP (n := n) (c := c) (by omega)
  have e : gc' (nI (ph_ix 0 0 0)).toNatClampNeg = ph_r3 (ph_R (ph_s L P w) n c 0 0 0) := (hT 0 0 0 (by omega) (by omega) (by omega)).2.2
  show post (gc' (nI (ph_ix 0 0 0)).toNatClampNeg) (nI c, nI n, w, L, P, wb, wa, en, gr', fk', gc', le, go)
  rw [e, h1]
  show post (nI d) _
  rw [← h4]
  exact h gr' fk' gc'
end
theorem ph_roT {x y : Option (Nat × List Nat × Nat)} {s d : Nat} {t : List Nat} (h : ph_ro x y = some (s, t, d)) : (∃ s' d', x = some (s', t, d')) ∨ (∃ s' d', y = some (s', t, d')) := by
  cases x with
  | none => exact Or.inr ⟨s, d, h⟩
  | some a =>
    cases y with
    | none => exact Or.inl ⟨s, d, h⟩
    | some b =>
      obtain ⟨a1, a2, a3⟩ := a
      obtain ⟨b1, b2, b3⟩ := b
      simp only [ph_ro] at h
      split at h
      · cases h; exact Or.inr ⟨_, _, rfl⟩
      · split at h
        · cases h; exact Or.inl ⟨_, _, rfl⟩
        · cases h; exact Or.inl ⟨_, _, rfl⟩
theorem ph_XT {f : Nat → Nat → Nat → Nat → Nat} {n c i j p k s d : Nat} {t : List Nat} (hk : k < 3) (h : ph_X ph_ro none (some (0, [], 1)) (ph_aR f) n c i j p k = some (s, t, d)) : ∃ k t' s' d', k < 3 ∧ t = k :: t' ∧ i + ph_le k ≤ n ∧ j + ph_co k ≤ c ∧ ph_R f n c (i + ph_le k) (j + ph_co k) k = some (s', t', d') := by
  rw [ph_X] at h
  split at h
  · next z =>
    cases hq : ph_R f n c (i + ph_le k) (j + ph_co k) k with
    | none => rw [ph_R] at hq; rw [hq] at h; exact nomatch h
    | some x =>
      have hq' := hq
      rw [ph_R] at hq'; rw [hq'] at h
      cases h
      exact ⟨k, x.2.1, x.1, x.2.2, hk, rfl, z.1, z.2, hq⟩
  · exact nomatch h
theorem ph_Rt {f : Nat → Nat → Nat → Nat → Nat} {n c i j p s d : Nat} {t : List Nat} (hi : i ≤ n) (hj : j ≤ c) (hne : ¬ (i = n ∧ j = c)) (h : ph_R f n c i j p = some (s, t, d)) : ∃ k t' s' d', k < 3 ∧ t = k :: t' ∧ i + ph_le k ≤ n ∧ j + ph_co k ≤ c ∧ ph_R f n c (i + ph_le k) (j + ph_co k) k = some (s', t', d') := by
  rw [ph_R, ph_Trec (ph_lawR f) p hi hj hne] at h
  rcases ph_roT h with ⟨_, _, h⟩ | ⟨_, _, h⟩
  · rcases ph_roT h with ⟨_, _, h⟩ | ⟨_, _, h⟩
    · exact ph_XT (by omega) h
    · exact ph_XT (by omega) h
  · exact ph_XT (by omega) h
theorem ph_hsg {st : Nat → Int32} : ∀ (t : List Nat) (s x : Nat), ph_hs st s t → x < t.length → st (s + x) = nI (t.getD x 0) := by
  intro t
  induction t with
  | nil => intro s x _ h; exact absurd h (Nat.not_lt_zero _)
  | cons k t ih =>
    intro s x hh hx
    cases x with
    | zero => exact hh.1
    | succ x =>
      rw [List.length_cons] at hx
      have := ih (s + 1) x hh.2 (by omega)
      rw [show s + (x + 1) = s + 1 + x by omega, this]
      rfl
section
variable {c n : Nat} {w L P : Nat → Int32} {wb wa : Nat → Int64} {en gr fk gc le go : Nat → Int32}
theorem ph_xbs27 (hc : c ≤ 4) (hn : n ≤ 8) {post : Int32 → SX → Prop} {q : Nat} (hq : q < 11) (hT : ∀ i j p, i ≤ n → j ≤ c → p < 3 → fk (ph_ix i j p) = ph_r2 (ph_R (ph_s L P w) n c i j p)) : ∀ (t : List Nat) (i j p x s d : Nat), i ≤ n → j ≤ c → p < 3 → x ≤ q → ph_R (ph_s L P w) n c i j p = some (s, t, d) → post (if q - x < t.length then nI (t.getD (q - x) 0) else -4) (nI c, nI n, w, L, P, wb, wa, en, gr, fk, gc, le, go) → wX_bestStep_27 post (nI q) (nI c) (nI n) w L P wb wa en gr fk gc le go (t.length + 2) (nI i) (nI j) (nI p) (nI x) := by
  intro t
  induction t with
  | nil =>
    intro i j p x s d hi hj hp hx hR h
    refine br_f (nI_nlt (by omega) (by omega)) (ph_xend (by omega) (by omega) hn hc ?_)
    by_cases z : i = n ∧ j = c
    · rw [if_pos z]
      rw [List.length_nil, if_neg (Nat.not_lt_zero _)] at h
      exact br_f (by decide) h
    · obtain ⟨_, _, _, _, _, e, _⟩ := ph_Rt hi hj z hR
      exact nomatch e
  | cons k t ih =>
    intro i j p x s d hi hj hp hx hR h
    refine br_f (nI_nlt (by omega) (by omega)) (ph_xend (by omega) (by omega) hn hc ?_)
    by_cases z : i = n ∧ j = c
    · exfalso
      rw [z.1, z.2, ph_R, ph_Tend (ph_lawR _)] at hR
      exact nomatch hR
    · rw [if_neg z]
      obtain ⟨k', t', s', d', hk, e, h1, h2, h3⟩ := ph_Rt hi hj z hR
      cases e
      have hb := ph_ixb (i := i) (j := j) (p := p) (by omega) (by omega) hp
      refine br_t rfl (ph_xpt (And.intro (vp_in_nI hb (by decide)) (nm_r (e' := nI k) ?_ ?_)))
      · rw [nI_clamp (by omega), hT i j p hi hj hp, hR]; rfl
      · refine ph_xlet hk (nm_r (nI_add _ _) (ph_xcol hk (nm_r (nI_add _ _) (nm_r (nI_1 x) ?_))))
        by_cases y : x = q
        · subst y
          rw [Nat.sub_self, if_pos (by rw [List.length_cons]; omega)] at h
          exact br_t (nI_lt (by omega) (by omega)) h
        · refine ih (i + ph_le k) (j + ph_co k) k (x + 1) s' d' h1 h2 hk (by omega) h3 ?_
          rw [show q - x = (q - (x + 1)) + 1 by omega, List.length_cons] at h
          by_cases v : q - (x + 1) < t.length
          · rw [if_pos (by omega)] at h
            rw [if_pos v]; exact h
          · rw [if_neg (by omega)] at h
            rw [if_neg v]; exact h
end
theorem ph_bstep {c n : Nat} {w L P : Nat → Int32} {wb wa : Nat → Int64} {en gr fk gc le go : Nat → Int32} (hc : c ≤ 4) (hn : n ≤ 7) (hL : ph_bd L 9) (hP : ph_bd P 9) (hw : ph_bd w 3) {post : SX → SY → Prop} {v1 x y z : Int32} {st : Nat → Int32} (h : ∀ (gr' fk' gc' : Nat → Int32) (x y z : Int32) (st' : Nat → Int32), post (nI c, nI n, w, L, P, wb, wa, en, gr', fk', gc', le, go) (nI c, nI n, x, y, z, L, P, w, st')) : wpX_bestStep (fun r u' => wpY_bestStep (fun r' v' => r' = r ∧ post u' v') (nI c, nI n, x, y, z, L, P, w, st) v1) (nI c, nI n, w, L, P, wb, wa, en, gr, fk, gc, le, go) v1 := by
  obtain ⟨s, t, d, h1, h2, h3, h4, h5⟩ := ph_Rk (w := w) hL hP (n := n) (c := c) (by omega)
  have hl := ph_vdl t n c (ph_vdw n c t h5)
  by_cases hv : v1 < 0
  · exact br_t hv (ph_ybs hc (by omega) hL hP hw h3 (fun st' _ => br_t hv ⟨rfl, h _ _ _ _ _ _ _⟩))
  · obtain ⟨q, hq, rfl⟩ := nI_of hv
    by_cases hq11 : q < 11
    · refine br_f hv (br_t (nI_lt (b := 11) hq11 (by decide)) ?_)
      refine ph_xfg hc (by omega) hL hP hw (fun gr' fk' gc' hT => ?_)
      refine Exists.intro _ (ph_xbs27 hc (by omega) hq11 (fun i j p h1 h2 h3 => (hT i j p h1 h2 h3).2.1) t 0 0 0 0 s d (by omega) (by omega) (by omega) (by omega) h1 ?_)
      refine ph_ybs hc (by omega) hL hP hw h3 (fun st' hh => br_f hv (pk_le t.length q (fun z => ?_) (fun z => ?_)))
      · rw [Nat.sub_zero, if_neg (by omega)]; exact ⟨rfl, h _ _ _ _ _ _ _⟩
      · rw [Nat.sub_zero, if_pos z]
        refine And.intro (vp_in_nI (by omega) (by omega)) ⟨?_, h _ _ _ _ _ _ _⟩
        rw [nI_clamp (by omega)]
        have := ph_hsg t 0 q hh z
        rw [Nat.zero_add] at this
        exact this
    · refine br_f hv (br_f (nI_nlt (b := 11) (by omega) (by omega)) ?_)
      refine ph_ybs hc (by omega) hL hP hw h3 (fun st' hh => br_f hv (br_t (nI_le (by omega) (by omega)) ⟨rfl, h _ _ _ _ _ _ _⟩))
