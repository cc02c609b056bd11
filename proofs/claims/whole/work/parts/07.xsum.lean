/-! the class's sum, next, ways -/
def ph_aW (f : Nat → Nat → Nat → Nat → Nat) (p k i j x : Nat) : Nat := f p k i j * x
def ph_aC (_ _ _ _ x : Nat) : Nat := x
def ph_B (f : Nat → Nat → Nat → Nat → Nat) (n c i j p : Nat) : Nat := ph_T Nat.add 0 1 (ph_aW f) n c i j p
def ph_E (n c i j p : Nat) : Nat := ph_T Nat.add 0 1 ph_aC n c i j p
theorem ph_lawW (f : Nat → Nat → Nat → Nat → Nat) : ph_law Nat.add 0 (ph_aW f) :=
  ⟨Nat.add_assoc, Nat.zero_add, Nat.add_zero, fun p k i j x y => Nat.mul_add (f p k i j) x y, fun p k i j => Nat.mul_zero (f p k i j)⟩
theorem ph_lawC : ph_law Nat.add 0 ph_aC :=
  ⟨Nat.add_assoc, Nat.zero_add, Nat.add_zero, fun _ _ _ _ _ _ => rfl, fun _ _ _ _ => rfl⟩
theorem ph_wtg (f : Nat → Nat → Nat → Nat → Nat) : ∀ (t : List Nat) (i j p : Nat), ph_gv 1 (ph_aW f) i j p t = ph_wt f i j p t := by
  intro t
  induction t with
  | nil => intro i j p; rfl
  | cons k t ih => intro i j p; show f p k i j * _ = f p k i j * _; rw [ih]
theorem ph_lfc {M : Type} {op : M → M → M} {e : M} {g g' : List Nat → M} (h : ∀ t, g t = g' t) (l : List (List Nat)) : ph_lf op e g l = ph_lf op e g' l := by
  rw [show g = g' from funext h]
theorem ph_SB (L P w : Nat → Int32) (n c : Nat) : ph_S L P w n c = ph_B (ph_f L P w) n c 0 0 0 := by
  have h := ph_fl (op := Nat.add) (e := 0) (g := ph_wt (ph_f L P w) 0 0 0) Nat.add_assoc Nat.add_zero (ph_ways n c) 0
  have h2 : Nat.add 0 (ph_lf Nat.add 0 (ph_wt (ph_f L P w) 0 0 0) (ph_ways n c)) = ph_lf Nat.add 0 (ph_wt (ph_f L P w) 0 0 0) (ph_ways n c) := Nat.zero_add _
  unfold ph_S ph_B ph_T
  rw [ph_lfc (ph_wtg (ph_f L P w) · 0 0 0), Nat.sub_zero, Nat.sub_zero]
  exact h.trans h2
theorem ph_gc : ∀ (t : List Nat) (i j p : Nat), ph_gv 1 ph_aC i j p t = 1 := by
  intro t
  induction t with
  | nil => intro i j p; rfl
  | cons k t ih => intro i j p; exact ih _ _ _
theorem ph_WE (n c : Nat) : (ph_ways n c).foldl (fun a _ => a + 1) 0 = ph_E n c 0 0 0 := by
  have h := ph_fl (op := Nat.add) (e := 0) (g := fun _ => 1) Nat.add_assoc Nat.add_zero (ph_ways n c) 0
  have h2 : Nat.add 0 (ph_lf Nat.add 0 (fun _ => 1) (ph_ways n c)) = ph_lf Nat.add 0 (fun _ => 1) (ph_ways n c) := Nat.zero_add _
  unfold ph_E ph_T
  rw [ph_lfc (ph_gc · 0 0 0), Nat.sub_zero, Nat.sub_zero]
  exact h.trans h2
section
variable {c n m : Nat} {fl : Int32} {w L P : Nat → Int32} {wb wa : Nat → Int64} {en gr fk gc le go : Nat → Int32}
theorem ph_xwf (hc : c ≤ 4) (hm : m ≤ 8) (hL : ph_bd L 9) (hP : ph_bd P 9) (hw : ph_bd w 3) {post : Int64 → Prop} {i j p k r acc : Nat} (hi : i ≤ m) (hj : j ≤ c) (hp : p < 3) (hk : k < 3) (hT : i + ph_le k ≤ m ∧ j + ph_co k ≤ c → wa (ph_ix (i + ph_le k) (j + ph_co k) k) = lN (ph_B (ph_f L P w) m c (i + ph_le k) (j + ph_co k) k)) (h : wX_weightFrom_19 post (nI i) (nI j) (nI p) (nI m) (nI c) fl w L P wb wa en gr fk gc le go r (lN (Nat.add acc (ph_X Nat.add 0 1 (ph_aW (ph_f L P w)) m c i j p k))) (nI (k + 1))) : wX_weightFrom_19 post (nI i) (nI j) (nI p) (nI m) (nI c) fl w L P wb wa en gr fk gc le go (r + 1) (lN acc) (nI k) := by
  refine br_f (nI_ge (b := 3) hk (by decide)) (ph_xcan hk (by omega) (by omega) hm hc ?_)
  have hf := ph_f81 (w := w) hL hP p k i j
  by_cases z : i + ph_le k ≤ m ∧ j + ph_co k ≤ c
  · have hb := ph_ixb (i := i + ph_le k) (j := j + ph_co k) (p := k) (by omega) (by omega) hk
    rw [if_pos z]
    rw [ph_X, if_pos z] at h
    refine br_f (by decide) (ph_xfac hL hP hw hp hk (fun q => by subst q; rw [ph_le0, ph_co0] at z; omega) (ph_xpa hk (And.intro (vp_in_nI hb (by decide)) (nm_r ?_ (nm_r (nI_1 k) h)))))
    rw [nI_clamp (by omega), hT z, nI_l (by omega), lN_mul, lN_add]
    rfl
  · rw [if_neg z]
    rw [ph_X, if_neg z] at h
    exact br_t rfl (nm_r (nI_1 k) h)
theorem ph_xwF (hc : c ≤ 4) (hm : m ≤ 8) (hL : ph_bd L 9) (hP : ph_bd P 9) (hw : ph_bd w 3) {post : Int64 → Prop} {i j p : Nat} (hi : i ≤ m) (hj : j ≤ c) (hp : p < 3) (hT : ∀ k, k < 3 → i + ph_le k ≤ m ∧ j + ph_co k ≤ c → wa (ph_ix (i + ph_le k) (j + ph_co k) k) = lN (ph_B (ph_f L P w) m c (i + ph_le k) (j + ph_co k) k)) (h : post (lN (ph_B (ph_f L P w) m c i j p))) : wpX_weightFrom post (nI c, fl, w, L, P, wb, wa, en, gr, fk, gc, le, go) (nI i) (nI j) (nI p) (nI m) := by
  unfold wpX_weightFrom
  dsimp only
  refine ph_xend (by omega) (by omega) hm hc ?_
  by_cases z : i = m ∧ j = c
  · rw [if_pos z]
    obtain ⟨rfl, rfl⟩ := z
    rw [ph_B, ph_Tend (ph_lawW _)] at h
    exact br_f (by decide) h
  · rw [if_neg z]
    refine br_t rfl (Exists.intro 4 ?_)
    rw [ph_B, ph_Trec (ph_lawW _) p hi hj z] at h
    exact ph_xwf (k := 0) (acc := 0) hc hm hL hP hw hi hj hp (by omega) (hT 0 (by omega)) (ph_xwf (k := 1) hc hm hL hP hw hi hj hp (by omega) (hT 1 (by omega)) (ph_xwf (k := 2) hc hm hL hP hw hi hj hp (by omega) (hT 2 (by omega)) (br_t (by decide) h)))
theorem ph_xfa (hc : c ≤ 4) (hm : m ≤ 8) (hL : ph_bd L 9) (hP : ph_bd P 9) (hw : ph_bd w 3) {post : SX → Prop} (h : ∀ wa' : Nat → Int64, (∀ i j p, i ≤ m → j ≤ c → p < 3 → wa' (ph_ix i j p) = lN (ph_B (ph_f L P w) m c i j p)) → post (nI c, fl, w, L, P, wb, wa', en, gr, fk, gc, le, go)) : wpX_fillWeightAfter post (nI c, fl, w, L, P, wb, wa, en, gr, fk, gc, le, go) (nI m) := by
  refine ph_dn (N := m) (C := c) hm hc
    (fun q x wa => wX_fillWeightAfter_2 post (nI m) (nI c) fl q x w L P wb wa en gr fk gc le go)
    (fun m1 x q y wa => wX_fillWeightAfter_11 post (wX_fillWeightAfter_2 post (nI m) (nI c) fl m1) (nI m) x (nI c) fl q y w L P wb wa en gr fk gc le go)
    (fun m1 x q y r z wa => wX_fillWeightAfter_18 post (wX_fillWeightAfter_2 post (nI m) (nI c) fl m1) (wX_fillWeightAfter_11 post (wX_fillWeightAfter_2 post (nI m) (nI c) fl m1) (nI m) x (nI c) fl q) (nI m) x y (nI c) fl r z w L P wb wa en gr fk gc le go)
    (fun wa => post (nI c, fl, w, L, P, wb, wa, en, gr, fk, gc, le, go))
    (ph_D (fun i j p => lN (ph_B (ph_f L P w) m c i j p)) m c)
    (fun _ _ _ hx hp => br_t hx hp) (fun _ _ _ hx hp => br_f hx hp) (fun _ _ _ _ _ hx hp => br_t hx (nm_e hp)) (fun _ _ _ _ _ hx hp => br_f hx hp) (fun _ _ _ _ _ _ _ hx hp => br_t hx (nm_e hp))
    ?_ (fun _ _ _ _ _ h => ph_Dt1 h) (fun _ _ _ h => ph_Dt2 h) (fun s hs => h s (ph_Dt3 hs)) wa ph_D0
  intro m1 i q j r p s hi hj hp hI hk
  have hb := ph_ixb (i := i) (j := j) (p := p) (by omega) (by omega) hp
  refine br_f (nI_ge (b := 3) hp (by decide)) (ph_xpt (ph_xwF hc hm hL hP hw hi hj hp (fun k hk z => hI _ _ k z.1 z.2 hk (by have := ph_lc k; omega)) (And.intro (vp_in_nI hb (by decide)) (nm_r (e' := vp_updL s (ph_ix i j p) (lN (ph_B (ph_f L P w) m c i j p))) (by rw [nI_clamp (by omega)]) (nm_r (nI_1 p) (hk _ (ph_Dp hc hj hp hI pk_uLs (fun x hx => pk_uLn hx))))))))
theorem ph_xso (hc : c ≤ 4) (hm : m ≤ 8) (hL : ph_bd L 9) (hP : ph_bd P 9) (hw : ph_bd w 3) {post : Int64 → SX → Prop} (h : ∀ wa' : Nat → Int64, post (lN (ph_S L P w m c)) (nI c, fl, w, L, P, wb, wa', en, gr, fk, gc, le, go)) : wpX_sumOfFirst post (nI c, fl, w, L, P, wb, wa, en, gr, fk, gc, le, go) (nI m) := by
  unfold wpX_sumOfFirst
  dsimp only
  refine ph_xfa hc hm hL hP hw (fun wa' hT => ?_)
  refine ph_xpt (i := 0) (j := 0) (p := 0) (And.intro (vp_in_nI (by decide) (by decide)) ?_)
  have e := hT 0 0 0 (by omega) (by omega) (by omega)
  rw [← ph_SB] at e
  have e2 : wa' (nI (ph_ix 0 0 0)).toNatClampNeg = lN (ph_S L P w m c) := e
  show post (wa' (nI (ph_ix 0 0 0)).toNatClampNeg) (nI c, fl, w, L, P, wb, wa', en, gr, fk, gc, le, go)
  rw [e2]
  exact h wa'
theorem ph_xsum (hc : c ≤ 4) (hn : n ≤ 8) (hL : ph_bd L 9) (hP : ph_bd P 9) (hw : ph_bd w 3) {post : Int64 → SX → Prop} (h : ∀ wa' : Nat → Int64, post (lN (ph_S L P w n c)) (nI c, nI n, w, L, P, wb, wa', en, gr, fk, gc, le, go)) : wpX_sum post (nI c, nI n, w, L, P, wb, wa, en, gr, fk, gc, le, go) := by
  unfold wpX_sum
  dsimp only
  exact ph_xso hc hn hL hP hw h
theorem ph_xnx (hc : c ≤ 4) (hn : n ≤ 7) (hL : ph_bd L 9) (hP : ph_bd P 9) (hw : ph_bd w 3) {post : Int64 → SX → Prop} (h : ∀ wa' : Nat → Int64, post (lN (ph_ns L P w n c 4)) (nI c, nI n, ph_ww w n 4, L, P, wb, wa', en, gr, fk, gc, le, go)) : ∀ (d a : Nat) (wa : Nat → Int64), a + d = 4 → wX_next_4 post (d + 1) (lN (ph_ns L P w n c a)) (nI a) (nI c) (nI n) (ph_ww w n a) L P wb wa en gr fk gc le go := by
  intro d
  induction d with
  | zero =>
    intro a wa ha
    obtain rfl : a = 4 := by omega
    exact br_t (by decide) (h wa)
  | succ d ih =>
    intro a wa ha
    refine br_f (nI_ge (b := 4) (by omega) (by decide)) (And.intro (vp_in_nI (by omega) (by omega)) (nm_r (e' := ph_ww w n (a + 1)) (by rw [nI_clamp (by omega)]; rfl) ?_))
    rw [nI_1 n]
    exact ph_xso hc (by omega) hL hP (ph_bdw hw n (a + 1) (by omega)) (fun wa' => nm_r (lN_add _ _) (nm_r (nI_1 a) (ih (a + 1) wa' (by omega))))
theorem ph_xnext (hc : c ≤ 4) (hn : n ≤ 7) (hL : ph_bd L 9) (hP : ph_bd P 9) (hw : ph_bd w 3) {post : Int64 → SX → Prop} (h : ∀ wa' : Nat → Int64, post (lN (ph_ns L P w n c 4)) (nI c, nI n, ph_ww w n 4, L, P, wb, wa', en, gr, fk, gc, le, go)) : wpX_next post (nI c, nI n, w, L, P, wb, wa, en, gr, fk, gc, le, go) :=
  Exists.intro 5 (ph_xnx hc hn hL hP hw h 4 0 wa rfl)
theorem ph_xef (hc : c ≤ 4) (hn : n ≤ 8) {post : Int32 → Prop} {i j p k r acc : Nat} (hi : i ≤ n) (hj : j ≤ c) (hk : k < 3) (hT : i + ph_le k ≤ n ∧ j + ph_co k ≤ c → en (ph_ix (i + ph_le k) (j + ph_co k) k) = nI (ph_E n c (i + ph_le k) (j + ph_co k) k)) (h : wX_endingsFrom_20 post (nI i) (nI j) (nI c) (nI n) w L P wb wa en gr fk gc le go r (nI (Nat.add acc (ph_X Nat.add 0 1 ph_aC n c i j p k))) (nI (k + 1))) : wX_endingsFrom_20 post (nI i) (nI j) (nI c) (nI n) w L P wb wa en gr fk gc le go (r + 1) (nI acc) (nI k) := by
  refine br_f (nI_ge (b := 3) hk (by decide)) (ph_xcan hk (by omega) (by omega) hn hc ?_)
  by_cases z : i + ph_le k ≤ n ∧ j + ph_co k ≤ c
  · have hb := ph_ixb (i := i + ph_le k) (j := j + ph_co k) (p := k) (by omega) (by omega) hk
    rw [if_pos z]
    rw [ph_X, if_pos z] at h
    refine br_f (by decide) (ph_xpa hk (And.intro (vp_in_nI hb (by decide)) (nm_r ?_ (nm_r (nI_1 k) h))))
    rw [nI_clamp (by omega), hT z, nI_add]
    rfl
  · rw [if_neg z]
    rw [ph_X, if_neg z] at h
    exact br_t rfl (nm_r (nI_1 k) h)
theorem ph_xeF (hc : c ≤ 4) (hn : n ≤ 8) {post : Int32 → Prop} {i j : Nat} (p : Nat) (hi : i ≤ n) (hj : j ≤ c) (hT : ∀ k, k < 3 → i + ph_le k ≤ n ∧ j + ph_co k ≤ c → en (ph_ix (i + ph_le k) (j + ph_co k) k) = nI (ph_E n c (i + ph_le k) (j + ph_co k) k)) (h : post (nI (ph_E n c i j p))) : wpX_endingsFrom post (nI c, nI n, w, L, P, wb, wa, en, gr, fk, gc, le, go) (nI i) (nI j) := by
  unfold wpX_endingsFrom
  dsimp only
  refine ph_xend (by omega) (by omega) hn hc ?_
  by_cases z : i = n ∧ j = c
  · rw [if_pos z]
    obtain ⟨rfl, rfl⟩ := z
    rw [ph_E, ph_Tend ph_lawC] at h
    exact br_f (by decide) h
  · rw [if_neg z]
    refine br_t rfl (Exists.intro 4 ?_)
    rw [ph_E, ph_Trec ph_lawC p hi hj z] at h
    exact ph_xef (k := 0) (acc := 0) (p := p) hc hn hi hj (by omega) (hT 0 (by omega)) (ph_xef (k := 1) (p := p) hc hn hi hj (by omega) (hT 1 (by omega)) (ph_xef (k := 2) (p := p) hc hn hi hj (by omega) (hT 2 (by omega)) (br_t (by decide) h)))
theorem ph_xways (hc : c ≤ 4) (hn : n ≤ 8) {post : Int32 → SX → Prop} (h : ∀ en' : Nat → Int32, post (nI ((ph_ways n c).foldl (fun a _ => a + 1) 0)) (nI c, nI n, w, L, P, wb, wa, en', gr, fk, gc, le, go)) : wpX_ways post (nI c, nI n, w, L, P, wb, wa, en, gr, fk, gc, le, go) := by
  refine ph_dn (N := n) (C := c) hn hc
    (fun q x en => wX_ways_5 post (nI c) (nI n) q x w L P wb wa en gr fk gc le go)
    (fun m1 x q y en => wX_ways_14 post (wX_ways_5 post (nI c) (nI n) m1) x (nI c) (nI n) q y w L P wb wa en gr fk gc le go)
    (fun m1 x q y r z en => wX_ways_20 post (wX_ways_5 post (nI c) (nI n) m1) (wX_ways_14 post (wX_ways_5 post (nI c) (nI n) m1) x (nI c) (nI n) q) x y (nI c) (nI n) r z w L P wb wa en gr fk gc le go)
    (fun en => wpX_pointAt (fun r_2 => vp_in r_2 135 ∧ post (en r_2.toNatClampNeg) (nI c, nI n, w, L, P, wb, wa, en, gr, fk, gc, le, go)) (nI c, nI n, w, L, P, wb, wa, en, gr, fk, gc, le, go) 0 0 0)
    (ph_D (fun i j p => nI (ph_E n c i j p)) n c)
    (fun _ _ _ hx hp => br_t hx hp) (fun _ _ _ hx hp => br_f hx hp) (fun _ _ _ _ _ hx hp => br_t hx (nm_e hp)) (fun _ _ _ _ _ hx hp => br_f hx hp) (fun _ _ _ _ _ _ _ hx hp => br_t hx (nm_e hp))
    ?_ (fun _ _ _ _ _ h => ph_Dt1 h) (fun _ _ _ h => ph_Dt2 h) (fun s hs => ?_) en ph_D0
  · intro m1 i q j r p s hi hj hp hI hk
    have hb := ph_ixb (i := i) (j := j) (p := p) (by omega) (by omega) hp
    refine br_f (nI_ge (b := 3) hp (by decide)) (ph_xpt (ph_xeF hc hn p hi hj (fun k hk z => hI _ _ k z.1 z.2 hk (by have := ph_lc k; omega)) (And.intro (vp_in_nI hb (by decide)) (nm_r (e' := upd s (ph_ix i j p) (nI (ph_E n c i j p))) (by rw [nI_clamp (by omega)]) (nm_r (nI_1 p) (hk _ (ph_Dp hc hj hp hI pk_us (fun x hx => pk_un hx))))))))
  · refine ph_xpt (i := 0) (j := 0) (p := 0) (And.intro (vp_in_nI (by decide) (by decide)) ?_)
    have e := ph_Dt3 hs 0 0 0 (by omega) (by omega) (by omega)
    rw [← ph_WE] at e
    have e2 : s (nI (ph_ix 0 0 0)).toNatClampNeg = nI ((ph_ways n c).foldl (fun a _ => a + 1) 0) := e
    rw [e2]
    exact h s
end
