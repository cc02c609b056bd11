/-! the class's worst and bestOf -/
def ph_N (f : Nat → Nat → Nat → Nat → Nat) (n c i j p : Nat) : Option Nat := ph_T ph_on none (some 0) (ph_aM f) n c i j p
def ph_O (f : Nat → Nat → Nat → Nat → Nat) (n c i j p : Nat) : Nat → Option Nat := ph_T ph_oF ph_eF ph_gF (ph_aF f) n c i j p
theorem ph_NT (f : Nat → Nat → Nat → Nat → Nat) (n c i j p : Nat) : ph_N f n c i j p = ph_lf ph_on none (fun q => some (ph_sc f i j p q)) (ph_ways (n - i) (c - j)) := ph_lfc (fun t => ph_gvN f t i j p) _
theorem ph_lfF (g : List Nat → Nat → Option Nat) (r : Nat) : ∀ l, ph_lf ph_oF ph_eF g l r = ph_lf ph_om none (fun t => g t r) l := by
  intro l
  induction l with
  | nil => rfl
  | cons t l ih =>
    show ph_om (g t r) (ph_lf ph_oF ph_eF g l r) = ph_om (g t r) _
    rw [ih]
theorem ph_OT (f : Nat → Nat → Nat → Nat → Nat) (n c i j p r : Nat) : ph_O f n c i j p r = ph_lf ph_om none (fun t => if t.length = r then some (ph_sc f i j p t) else none) (ph_ways (n - i) (c - j)) := by
  rw [ph_O, ph_T, ph_lfF]
  exact ph_lfc (fun t => ph_gvF f t i j p r) _
theorem ph_Ob {f : Nat → Nat → Nat → Nat → Nat} (hf : ∀ p k i j, f p k i j ≤ 18) {n c : Nat} (hnc : n + c ≤ 12) (i j p r : Nat) : ph_bo (ph_O f n c i j p r) := by
  rw [ph_OT]
  refine ph_lfp ph_bo ph_bo0 (fun _ _ => ph_boM) _ (fun t ht => ?_)
  have := ph_sc216 hf (by omega) ht i j p
  split
  · intro m hm; cases hm; exact this
  · exact ph_bo0
theorem ph_Nb {f : Nat → Nat → Nat → Nat → Nat} (hf : ∀ p k i j, f p k i j ≤ 18) {n c : Nat} (hnc : n + c ≤ 12) (i j p : Nat) : ∃ m, ph_N f n c i j p = some m ∧ m ≤ 216 := by
  have hb : ph_bo (ph_N f n c i j p) := by
    rw [ph_NT]
    refine ph_lfp ph_bo ph_bo0 (fun _ _ => ph_boN) _ (fun t ht => ?_)
    have := ph_sc216 hf (by omega) ht i j p
    intro m hm; cases hm; exact this
  cases e : ph_N f n c i j p with
  | some m => exact ⟨m, rfl, hb m e⟩
  | none =>
    exfalso
    rw [ph_NT] at e
    obtain ⟨l, h⟩ := ph_cons (n - i) (c - j)
    rw [h] at e
    have e' : ph_on (some (ph_sc f i j p (ph_hd (n - i) (c - j)))) (ph_lf ph_on none (fun q => some (ph_sc f i j p q)) l) = none := e
    cases hq : ph_lf ph_on none (fun q => some (ph_sc f i j p q)) l with
    | none => rw [hq] at e'; exact nomatch e'
    | some b => rw [hq, ph_on2] at e'; exact nomatch e'
theorem ph_WN {L P w : Nat → Int32} (hL : ph_bd L 9) (hP : ph_bd P 9) {n c : Nat} (hnc : n + c ≤ 12) : ph_Wo L P w n c = ph_e1 (ph_N (ph_s L P w) n c 0 0 0) := by
  obtain ⟨m, h1, h2⟩ := ph_Nb (f := ph_s L P w) (ph_s18 hL hP) hnc 0 0 0
  have e := ph_Wf (ph_sc (ph_s L P w) 0 0 0) (ph_ways n c) 1000000 (Nat.le_refl _) (fun t ht => ph_sc216 (ph_s18 hL hP) hnc ht 0 0 0)
  have e2 : ph_lf ph_on none (fun q => some (ph_sc (ph_s L P w) 0 0 0 q)) (ph_ways n c) = some m := (ph_NT (ph_s L P w) n c 0 0 0).symm.trans h1
  rw [e2, ph_on2, Nat.min_eq_right (by omega)] at e
  rw [h1]
  exact e
theorem ph_GO {L P w : Nat → Int32} (hL : ph_bd L 9) (hP : ph_bd P 9) {n c r : Nat} (hnc : n + c ≤ 12) (hr : r < 2 ^ 31) : ph_G L P w (nI r) n c = ph_e1 (ph_O (ph_s L P w) n c 0 0 0 r) := by
  have hb : ∀ q, q ∈ ph_ways n c → ph_sc (ph_s L P w) 0 0 0 q ≤ 216 := fun q hq => ph_sc216 (ph_s18 hL hP) hnc hq 0 0 0
  have e := ph_Gf (fun t => nI r = -1 ∨ nI t.length = nI r) (fun t => inferInstance) (ph_sc (ph_s L P w) 0 0 0) (ph_ways n c) none hb ph_bo0
  refine Eq.trans e ?_
  show ph_e1 (ph_lf ph_om none _ (ph_ways n c)) = _
  rw [ph_OT]
  have hm : ¬ nI r = -1 := fun z => nI_pos hr (by rw [z]; decide)
  have key : ∀ l : List (List Nat), (∀ t, t ∈ l → t.length ≤ 12) → ph_lf ph_om none (fun t => if nI r = -1 ∨ nI t.length = nI r then some (ph_sc (ph_s L P w) 0 0 0 t) else none) l = ph_lf ph_om none (fun t => if t.length = r then some (ph_sc (ph_s L P w) 0 0 0 t) else none) l := by
    intro l
    induction l with
    | nil => intro _; rfl
    | cons t l ih =>
      intro h
      have ht := h t List.mem_cons_self
      show ph_om (if nI r = -1 ∨ nI t.length = nI r then some (ph_sc (ph_s L P w) 0 0 0 t) else none) (ph_lf _ _ _ l) = ph_om (if t.length = r then some (ph_sc (ph_s L P w) 0 0 0 t) else none) (ph_lf _ _ _ l)
      rw [ih (fun q hq => h q (List.mem_cons_of_mem _ hq))]
      by_cases z : t.length = r
      · rw [if_pos z, if_pos (Or.inr (by rw [z]))]
      · rw [if_neg z, if_neg (fun q => q.elim hm (fun q => z ((nI_eq (by omega) hr).mp q)))]
  rw [key _ (fun t ht => by have := ph_vdl t n c (ph_vdw n c t ht); omega)]
  rfl
section
variable {c n : Nat} {w L P : Nat → Int32} {wb wa : Nat → Int64} {en gr fk gc le go : Nat → Int32}
theorem ph_xlf (hc : c ≤ 4) (hn : n ≤ 8) (hL : ph_bd L 9) (hP : ph_bd P 9) (hw : ph_bd w 3) {post : Int32 → Prop} {i j p k r : Nat} {acc : Option Nat} (hi : i ≤ n) (hj : j ≤ c) (hp : p < 3) (hk : k < 3) (hT : i + ph_le k ≤ n ∧ j + ph_co k ≤ c → le (ph_ix (i + ph_le k) (j + ph_co k) k) = ph_e1 (ph_N (ph_s L P w) n c (i + ph_le k) (j + ph_co k) k)) (ha : ∀ x, acc = some x → x ≤ 1000) (h : wX_leastFrom_22 post (nI i) (nI j) (nI p) (nI c) (nI n) w L P wb wa en gr fk gc le go r (ph_e1 (ph_on acc (ph_X ph_on none (some 0) (ph_aM (ph_s L P w)) n c i j p k))) (nI (k + 1))) : wX_leastFrom_22 post (nI i) (nI j) (nI p) (nI c) (nI n) w L P wb wa en gr fk gc le go (r + 1) (ph_e1 acc) (nI k) := by
  refine br_f (nI_ge (b := 3) hk (by decide)) (ph_xcan hk (by omega) (by omega) hn hc ?_)
  have hf := ph_s18 (w := w) hL hP p k i j
  by_cases z : i + ph_le k ≤ n ∧ j + ph_co k ≤ c
  · have hb := ph_ixb (i := i + ph_le k) (j := j + ph_co k) (p := k) (by omega) (by omega) hk
    obtain ⟨m, hR, hs⟩ := ph_Nb (f := ph_s L P w) (ph_s18 hL hP) (n := n) (c := c) (by omega) (i + ph_le k) (j + ph_co k) k
    have hg := hT z
    rw [hR] at hg
    have hX : ph_X ph_on none (some 0) (ph_aM (ph_s L P w)) n c i j p k = some (ph_s L P w p k i j + m) := by
      rw [ph_X, if_pos z]
      show ph_aM _ _ _ _ _ (ph_N (ph_s L P w) n c (i + ph_le k) (j + ph_co k) k) = _
      rw [hR]; rfl
    rw [hX] at h
    rw [if_pos z]
    have hv : vp_in (nI (ph_ix (i + ph_le k) (j + ph_co k) k)) 135 := vp_in_nI hb (by decide)
    refine br_f (by decide) (ph_xsco hL hP hw hp hk (fun q => by subst q; rw [ph_le0, ph_co0] at z; omega) (ph_xpa hk (And.intro hv (nm_r (e' := nI (ph_s L P w p k i j + m)) ?_ ?_))))
    · rw [nI_clamp (by omega), hg]; exact nI_add _ _
    · cases acc with
      | none => exact br_t rfl (nm_r (nI_1 k) h)
      | some x =>
        have hx := ha x rfl
        refine br_f (ph_n4e (by omega)) (pk_le x (ph_s L P w p k i j + m) (fun q => ?_) (fun q => ?_))
        · have e : ph_on (some x) (some (ph_s L P w p k i j + m)) = some x := if_pos q
          rw [e] at h
          exact nm_r (nI_1 k) h
        · have e : ph_on (some x) (some (ph_s L P w p k i j + m)) = some (ph_s L P w p k i j + m) := if_neg (by omega)
          rw [e] at h
          exact nm_r (nI_1 k) h
  · rw [if_neg z]
    rw [ph_X, if_neg z, ph_onr] at h
    exact br_t rfl (nm_r (nI_1 k) h)
theorem ph_onB {x y : Option Nat} {b : Nat} (hx : ∀ z, x = some z → z ≤ b) (hy : ∀ z, y = some z → z ≤ b) : ∀ z, ph_on x y = some z → z ≤ b := by
  cases x with
  | none => exact hy
  | some a =>
    cases y with
    | none => exact hx
    | some d =>
      intro z hz
      have h1 := hx a rfl
      have h2 := hy d rfl
      rw [ph_on2] at hz
      cases hz
      omega
theorem ph_XN (hc : c ≤ 4) (hn : n ≤ 8) (hL : ph_bd L 9) (hP : ph_bd P 9) (i j p k : Nat) : ∀ z, ph_X ph_on none (some 0) (ph_aM (ph_s L P w)) n c i j p k = some z → z ≤ 1000 := by
  intro z hz
  rw [ph_X] at hz
  split at hz
  · obtain ⟨m, hR, hs⟩ := ph_Nb (f := ph_s L P w) (ph_s18 hL hP) (n := n) (c := c) (by omega) (i + ph_le k) (j + ph_co k) k
    have hf := ph_s18 (w := w) hL hP p k i j
    rw [ph_N] at hR
    rw [hR] at hz
    have e : ph_s L P w p k i j + m = z := Option.some.inj hz
    omega
  · exact nomatch hz
theorem ph_xlF (hc : c ≤ 4) (hn : n ≤ 8) (hL : ph_bd L 9) (hP : ph_bd P 9) (hw : ph_bd w 3) {post : Int32 → Prop} {i j p : Nat} (hi : i ≤ n) (hj : j ≤ c) (hp : p < 3) (hT : ∀ k, k < 3 → i + ph_le k ≤ n ∧ j + ph_co k ≤ c → le (ph_ix (i + ph_le k) (j + ph_co k) k) = ph_e1 (ph_N (ph_s L P w) n c (i + ph_le k) (j + ph_co k) k)) (h : post (ph_e1 (ph_N (ph_s L P w) n c i j p))) : wpX_leastFrom post (nI c, nI n, w, L, P, wb, wa, en, gr, fk, gc, le, go) (nI i) (nI j) (nI p) := by
  unfold wpX_leastFrom
  dsimp only
  refine ph_xend (by omega) (by omega) hn hc ?_
  by_cases z : i = n ∧ j = c
  · rw [if_pos z]
    obtain ⟨rfl, rfl⟩ := z
    rw [ph_N, ph_Tend (ph_lawN _)] at h
    exact br_f (by decide) h
  · rw [if_neg z]
    refine br_t rfl (Exists.intro 4 ?_)
    rw [ph_N, ph_Trec (ph_lawN _) p hi hj z] at h
    have a0 : ∀ x, (none : Option Nat) = some x → x ≤ 1000 := fun x hx => nomatch hx
    have a1 := ph_onB a0 (ph_XN (w := w) hc hn hL hP i j p 0)
    have a2 := ph_onB a1 (ph_XN (w := w) hc hn hL hP i j p 1)
    exact ph_xlf (k := 0) (acc := none) hc hn hL hP hw hi hj hp (by omega) (hT 0 (by omega)) a0 (ph_xlf (k := 1) hc hn hL hP hw hi hj hp (by omega) (hT 1 (by omega)) a1 (ph_xlf (k := 2) hc hn hL hP hw hi hj hp (by omega) (hT 2 (by omega)) a2 (br_t (by decide) h)))
theorem ph_xworst (hc : c ≤ 4) (hn : n ≤ 8) (hL : ph_bd L 9) (hP : ph_bd P 9) (hw : ph_bd w 3) {post : Int32 → SX → Prop} (h : ∀ le' : Nat → Int32, post (ph_Wo L P w n c) (nI c, nI n, w, L, P, wb, wa, en, gr, fk, gc, le', go)) : wpX_worst post (nI c, nI n, w, L, P, wb, wa, en, gr, fk, gc, le, go) := by
  refine ph_dn (N := n) (C := c) hn hc
    (fun q x le => wX_worst_5 post (nI c) (nI n) q x w L P wb wa en gr fk gc le go)
    (fun m1 x q y le => wX_worst_14 post (wX_worst_5 post (nI c) (nI n) m1) x (nI c) (nI n) q y w L P wb wa en gr fk gc le go)
    (fun m1 x q y r z le => wX_worst_20 post (wX_worst_5 post (nI c) (nI n) m1) (wX_worst_14 post (wX_worst_5 post (nI c) (nI n) m1) x (nI c) (nI n) q) x y (nI c) (nI n) r z w L P wb wa en gr fk gc le go)
    (fun le => wpX_pointAt (fun r_2 => vp_in r_2 135 ∧ post (le r_2.toNatClampNeg) (nI c, nI n, w, L, P, wb, wa, en, gr, fk, gc, le, go)) (nI c, nI n, w, L, P, wb, wa, en, gr, fk, gc, le, go) 0 0 0)
    (ph_D (fun i j p => ph_e1 (ph_N (ph_s L P w) n c i j p)) n c)
    (fun _ _ _ hx hp => br_t hx hp) (fun _ _ _ hx hp => br_f hx hp) (fun _ _ _ _ _ hx hp => br_t hx (nm_e hp)) (fun _ _ _ _ _ hx hp => br_f hx hp) (fun _ _ _ _ _ _ _ hx hp => br_t hx (nm_e hp))
    ?_ (fun _ _ _ _ _ h => ph_Dt1 h) (fun _ _ _ h => ph_Dt2 h) (fun s hs => ?_) le ph_D0
  · intro m1 i q j r p s hi hj hp hI hk
    have hb := ph_ixb (i := i) (j := j) (p := p) (by omega) (by omega) hp
    refine br_f (nI_ge (b := 3) hp (by decide)) (ph_xpt (ph_xlF hc hn hL hP hw hi hj hp (fun k hk z => hI _ _ k z.1 z.2 hk (by have := ph_lc k; omega)) (And.intro (vp_in_nI hb (by decide)) (nm_r (e' := upd s (ph_ix i j p) (ph_e1 (ph_N (ph_s L P w) n c i j p))) (by rw [nI_clamp (by omega)]) (nm_r (nI_1 p) (hk _ (ph_Dp hc hj hp hI pk_us (fun x hx => pk_un hx))))))))
  · refine ph_xpt (i := 0) (j := 0) (p := 0) (And.intro (vp_in_nI (by decide) (by decide)) ?_)
    have e := ph_Dt3 hs 0 0 0 (by omega) (by omega) (by omega)
    rw [← ph_WN hL hP (by omega)] at e
    have e2 : s (nI (ph_ix 0 0 0)).toNatClampNeg = ph_Wo L P w n c := e
    rw [e2]
    exact h s
/-! by length -/
theorem ph_x135 (r x : Nat) : nI r * 135 + nI x = nI (r * 135 + x) := by rw [ph_n135, pk_mul, nI_add]
theorem ph_xof (hc : c ≤ 4) (hn : n ≤ 8) (hL : ph_bd L 9) (hP : ph_bd P 9) (hw : ph_bd w 3) {post : Int32 → Prop} {i j p k r q : Nat} {acc : Option Nat} (hq : q < 11) (hi : i ≤ n) (hj : j ≤ c) (hp : p < 3) (hk : k < 3) (hT : i + ph_le k ≤ n ∧ j + ph_co k ≤ c → go (q * 135 + ph_ix (i + ph_le k) (j + ph_co k) k) = ph_e1 (ph_O (ph_s L P w) n c (i + ph_le k) (j + ph_co k) k q)) (ha : ∀ x, acc = some x → x ≤ 1000) (h : wX_greatestFrom_32 post (nI i) (nI j) (nI p) (nI (q + 1)) (nI c) (nI n) w L P wb wa en gr fk gc le go r (ph_e1 (ph_om acc (ph_X ph_oF ph_eF ph_gF (ph_aF (ph_s L P w)) n c i j p k (q + 1)))) (nI (k + 1))) : wX_greatestFrom_32 post (nI i) (nI j) (nI p) (nI (q + 1)) (nI c) (nI n) w L P wb wa en gr fk gc le go (r + 1) (ph_e1 acc) (nI k) := by
  refine br_f (nI_ge (b := 3) hk (by decide)) (ph_xcan hk (by omega) (by omega) hn hc ?_)
  have hf := ph_s18 (w := w) hL hP p k i j
  by_cases z : i + ph_le k ≤ n ∧ j + ph_co k ≤ c
  · have hb := ph_ixb (i := i + ph_le k) (j := j + ph_co k) (p := k) (by omega) (by omega) hk
    have hbo := ph_Ob (f := ph_s L P w) (ph_s18 hL hP) (n := n) (c := c) (by omega) (i + ph_le k) (j + ph_co k) k q
    have hg := hT z
    have hX : ph_X ph_oF ph_eF ph_gF (ph_aF (ph_s L P w)) n c i j p k (q + 1) = ph_aM (ph_s L P w) p k i j (ph_O (ph_s L P w) n c (i + ph_le k) (j + ph_co k) k q) := by
      rw [ph_X, if_pos z]; rfl
    rw [hX] at h
    rw [if_pos z]
    have ie : (nI (q + 1) - 1) * 135 + nI (ph_ix (i + ph_le k) (j + ph_co k) k) = nI (q * 135 + ph_ix (i + ph_le k) (j + ph_co k) k) := by rw [nI_pred, ph_x135]
    refine br_f (by decide) (ph_xpa hk (And.intro (by rw [ie]; exact vp_in_nI (by omega) (by decide)) (nm_r (e' := ph_e1 (ph_O (ph_s L P w) n c (i + ph_le k) (j + ph_co k) k q)) ?_ (ph_xsco hL hP hw hp hk (fun q => by subst q; rw [ph_le0, ph_co0] at z; omega) ?_))))
    · rw [ie, nI_clamp (by omega)]; exact hg
    · cases hO : ph_O (ph_s L P w) n c (i + ph_le k) (j + ph_co k) k q with
      | none =>
        rw [hO] at h
        have e : ph_om acc (ph_aM (ph_s L P w) p k i j none) = acc := ph_omr acc
        rw [e] at h
        exact nm_e (br_t rfl (nm_r (nI_1 k) h))
      | some m =>
        have hm := hbo m hO
        rw [hO] at h
        refine nm_r (e' := nI (ph_s L P w p k i j + m)) (nI_add _ _) (br_f (ph_n4e (by omega)) ?_)
        cases acc with
        | none => exact br_f (ph_n4l (by omega)) (nm_r (nI_1 k) h)
        | some x =>
          have hx := ha x rfl
          refine pk_le (ph_s L P w p k i j + m) x (fun q => ?_) (fun q => ?_)
          · have e : ph_om (some x) (ph_aM (ph_s L P w) p k i j (some m)) = some x := if_pos q
            rw [e] at h
            exact nm_r (nI_1 k) h
          · have e : ph_om (some x) (ph_aM (ph_s L P w) p k i j (some m)) = some (ph_s L P w p k i j + m) := if_neg (by show ¬ ph_s L P w p k i j + m ≤ x; omega)
            rw [e] at h
            exact nm_r (nI_1 k) h
  · rw [if_neg z]
    rw [ph_X, if_neg z] at h
    have e : ph_om acc (ph_eF (q + 1)) = acc := ph_omr acc
    rw [e] at h
    exact br_t rfl (nm_r (nI_1 k) h)
theorem ph_omB {x y : Option Nat} {b : Nat} (hx : ∀ z, x = some z → z ≤ b) (hy : ∀ z, y = some z → z ≤ b) : ∀ z, ph_om x y = some z → z ≤ b := by
  cases x with
  | none => exact hy
  | some a =>
    cases y with
    | none => exact hx
    | some d =>
      intro z hz
      have h1 := hx a rfl
      have h2 := hy d rfl
      rw [ph_om2] at hz
      cases hz
      omega
theorem ph_XO (hc : c ≤ 4) (hn : n ≤ 8) (hL : ph_bd L 9) (hP : ph_bd P 9) (i j p k q : Nat) : ∀ z, ph_X ph_oF ph_eF ph_gF (ph_aF (ph_s L P w)) n c i j p k (q + 1) = some z → z ≤ 1000 := by
  intro z hz
  rw [ph_X] at hz
  split at hz
  · have hbo := ph_Ob (f := ph_s L P w) (ph_s18 hL hP) (n := n) (c := c) (by omega) (i + ph_le k) (j + ph_co k) k q
    have hf := ph_s18 (w := w) hL hP p k i j
    have hz' : ph_aM (ph_s L P w) p k i j (ph_O (ph_s L P w) n c (i + ph_le k) (j + ph_co k) k q) = some z := hz
    cases hO : ph_O (ph_s L P w) n c (i + ph_le k) (j + ph_co k) k q with
    | none => rw [hO] at hz'; exact nomatch hz'
    | some m =>
      have hm := hbo m hO
      rw [hO] at hz'
      have e : ph_s L P w p k i j + m = z := Option.some.inj hz'
      omega
  · exact nomatch hz
theorem ph_xoF (hc : c ≤ 4) (hn : n ≤ 8) (hL : ph_bd L 9) (hP : ph_bd P 9) (hw : ph_bd w 3) {post : Int32 → Prop} {i j p q : Nat} (hq : q ≤ 11) (hi : i ≤ n) (hj : j ≤ c) (hp : p < 3) (hT : ∀ q', q = q' + 1 → ∀ k, k < 3 → i + ph_le k ≤ n ∧ j + ph_co k ≤ c → go (q' * 135 + ph_ix (i + ph_le k) (j + ph_co k) k) = ph_e1 (ph_O (ph_s L P w) n c (i + ph_le k) (j + ph_co k) k q')) (h : post (ph_e1 (ph_O (ph_s L P w) n c i j p q))) : wpX_greatestFrom post (nI c, nI n, w, L, P, wb, wa, en, gr, fk, gc, le, go) (nI i) (nI j) (nI p) (nI q) := by
  cases q with
  | zero =>
    refine br_t rfl (ph_xend (by omega) (by omega) hn hc ?_)
    by_cases z : i = n ∧ j = c
    · rw [if_pos z]
      obtain ⟨rfl, rfl⟩ := z
      rw [ph_O, ph_Tend (ph_lawF _)] at h
      exact br_f (by decide) h
    · rw [if_neg z]
      rw [ph_O, ph_Trec (ph_lawF _) p hi hj z] at h
      refine br_t rfl ?_
      have e : ∀ k, ph_X ph_oF ph_eF ph_gF (ph_aF (ph_s L P w)) n c i j p k 0 = none := by
        intro k
        rw [ph_X]
        split <;> rfl
      have e2 : ph_oF (ph_oF (ph_oF ph_eF (ph_X ph_oF ph_eF ph_gF (ph_aF (ph_s L P w)) n c i j p 0)) (ph_X ph_oF ph_eF ph_gF (ph_aF (ph_s L P w)) n c i j p 1)) (ph_X ph_oF ph_eF ph_gF (ph_aF (ph_s L P w)) n c i j p 2) 0 = none := by
        show ph_om (ph_om (ph_om none (ph_X ph_oF ph_eF ph_gF (ph_aF (ph_s L P w)) n c i j p 0 0)) (ph_X ph_oF ph_eF ph_gF (ph_aF (ph_s L P w)) n c i j p 1 0)) (ph_X ph_oF ph_eF ph_gF (ph_aF (ph_s L P w)) n c i j p 2 0) = none
        rw [e, e, e]; rfl
      rw [e2] at h
      exact h
  | succ q =>
    refine br_f (nI_ne0 (by omega) (by omega)) (Exists.intro 4 ?_)
    have a0 : ∀ x, (none : Option Nat) = some x → x ≤ 1000 := fun x hx => nomatch hx
    have a1 := ph_omB a0 (ph_XO (w := w) hc hn hL hP i j p 0 q)
    have a2 := ph_omB a1 (ph_XO (w := w) hc hn hL hP i j p 1 q)
    refine ph_xof (k := 0) (acc := none) hc hn hL hP hw (by omega) hi hj hp (by omega) (hT q rfl 0 (by omega)) a0 (ph_xof (k := 1) hc hn hL hP hw (by omega) hi hj hp (by omega) (hT q rfl 1 (by omega)) a1 (ph_xof (k := 2) hc hn hL hP hw (by omega) hi hj hp (by omega) (hT q rfl 2 (by omega)) a2 (br_t (by decide) ?_)))
    by_cases z : i = n ∧ j = c
    · obtain ⟨rfl, rfl⟩ := z
      rw [ph_X, ph_X, ph_X, if_neg (by rw [ph_le0]; omega), if_neg (by rw [ph_le1]; omega), if_neg (by rw [ph_co2]; omega)]
      rw [ph_O, ph_Tend (ph_lawF _)] at h
      exact h
    · rw [ph_O, ph_Trec (ph_lawF _) p hi hj z] at h
      exact h
theorem ph_xfo (hc : c ≤ 4) (hn : n ≤ 8) (hL : ph_bd L 9) (hP : ph_bd P 9) (hw : ph_bd w 3) {post : SX → Prop} {q : Nat} (hq : q ≤ 11) (hT : ∀ r i j p, r < q → i ≤ n → j ≤ c → p < 3 → go (r * 135 + ph_ix i j p) = ph_e1 (ph_O (ph_s L P w) n c i j p r)) (h : ∀ go' : Nat → Int32, (∀ r i j p, r < q + 1 → i ≤ n → j ≤ c → p < 3 → go' (r * 135 + ph_ix i j p) = ph_e1 (ph_O (ph_s L P w) n c i j p r)) → post (nI c, nI n, w, L, P, wb, wa, en, gr, fk, gc, le, go')) : wpX_fillGreatestOf post (nI c, nI n, w, L, P, wb, wa, en, gr, fk, gc, le, go) (nI q) := by
  refine ph_up (N := n) (C := c) hn hc
    (fun m x go => wX_fillGreatestOf_2 post (nI q) (nI c) (nI n) m x w L P wb wa en gr fk gc le go)
    (fun m1 x m y go => wX_fillGreatestOf_12 post (wX_fillGreatestOf_2 post (nI q) (nI c) (nI n) m1) (nI q) x (nI c) (nI n) m y w L P wb wa en gr fk gc le go)
    (fun m1 x m y r z go => wX_fillGreatestOf_23 post (wX_fillGreatestOf_2 post (nI q) (nI c) (nI n) m1) (wX_fillGreatestOf_12 post (wX_fillGreatestOf_2 post (nI q) (nI c) (nI n) m1) (nI q) x (nI c) (nI n) m) (nI q) x y (nI c) (nI n) r z w L P wb wa en gr fk gc le go)
    (fun go => post (nI c, nI n, w, L, P, wb, wa, en, gr, fk, gc, le, go))
    (fun i j p go => (∀ r i j p, r < q → i ≤ n → j ≤ c → p < 3 → go (r * 135 + ph_ix i j p) = ph_e1 (ph_O (ph_s L P w) n c i j p r)) ∧ ph_U (fun i j p => ph_e1 (ph_O (ph_s L P w) n c i j p q)) n c i j p (fun x => go (q * 135 + x)))
    (fun _ _ _ hx hp => br_t hx hp) (fun _ _ _ hx hp => br_f hx hp) (fun _ _ _ _ _ hx hp => br_t hx (nm_e hp)) (fun _ _ _ _ _ hx hp => br_f hx hp) (fun _ _ _ _ _ _ _ hx hp => br_t hx (nm_e hp))
    ?_ (fun _ _ _ _ _ h => ⟨h.1, ph_Ut1 h.2⟩) (fun _ _ _ h => ⟨h.1, ph_Ut2 h.2⟩) (fun s hs => h s (fun r i j p h1 h2 h3 h4 => ?_)) go ⟨hT, ph_U0⟩
  · intro m1 i m j r p s hi hj hp hI hk
    have hb := ph_ixb (i := i) (j := j) (p := p) (by omega) (by omega) hp
    have ie : nI q * 135 + nI (ph_ix i j p) = nI (q * 135 + ph_ix i j p) := ph_x135 _ _
    refine br_f (nI_ge (b := 3) hp (by decide)) (ph_xpt (ph_xoF hc hn hL hP hw hq hi hj hp (fun q' e k hk z => hI.1 q' _ _ k (by omega) z.1 z.2 hk) (And.intro (by rw [ie]; exact vp_in_nI (by omega) (by decide)) (nm_r (e' := upd s (q * 135 + ph_ix i j p) (ph_e1 (ph_O (ph_s L P w) n c i j p q))) (by rw [ie, nI_clamp (by omega)]) (nm_r (nI_1 p) (hk _ ⟨fun r i' j' p' h1 h2 h3 h4 => ?_, ph_Up hc hj hp hI.2 pk_us (fun x hx => pk_un (by omega))⟩))))))
    have hb' := ph_ixb (i := i') (j := j') (p := p') (by omega) (by omega) h4
    rw [pk_un (by omega)]
    exact hI.1 r i' j' p' h1 h2 h3 h4
  · by_cases z : r = q
    · subst z; exact ph_Ut3 hs.2 i j p h2 h3 h4
    · exact hs.1 r i j p (by omega) h2 h3 h4
theorem ph_xbo15 (hc : c ≤ 4) (hn : n ≤ 8) (hL : ph_bd L 9) (hP : ph_bd P 9) (hw : ph_bd w 3) {post : Int32 → SX → Prop} {q : Nat} (hq : q ≤ 11) (h : ∀ go' : Nat → Int32, post (ph_e1 (ph_O (ph_s L P w) n c 0 0 0 q)) (nI c, nI n, w, L, P, wb, wa, en, gr, fk, gc, le, go')) : ∀ (d r : Nat) (go : Nat → Int32), r + d = q + 1 → (∀ r' i j p, r' < r → i ≤ n → j ≤ c → p < 3 → go (r' * 135 + ph_ix i j p) = ph_e1 (ph_O (ph_s L P w) n c i j p r')) → wX_bestOf_15 post (nI q) (d + 1) (nI r) (nI c) (nI n) w L P wb wa en gr fk gc le go := by
  intro d
  induction d with
  | zero =>
    intro r go hr hT
    have ie : nI q * 135 + nI (ph_ix 0 0 0) = nI (q * 135 + ph_ix 0 0 0) := ph_x135 _ _
    have hb := ph_ixb (i := 0) (j := 0) (p := 0) (by omega) (by omega) (by omega)
    refine br_t (nI_lt (by omega) (by omega)) (ph_xpt (i := 0) (j := 0) (p := 0) (And.intro (by rw [ie]; exact vp_in_nI (by omega) (by decide)) ?_))
    have e : go (nI q * 135 + nI (ph_ix 0 0 0)).toNatClampNeg = ph_e1 (ph_O (ph_s L P w) n c 0 0 0 q) := by
      rw [ie, nI_clamp (by omega)]
      exact hT q 0 0 0 (by omega) (by omega) (by omega) (by omega)
    rw [e]
    exact h go
  | succ d ih =>
    intro r go hr hT
    refine br_f (nI_nlt (by omega) (by omega)) (ph_xfo hc hn hL hP hw (by omega) hT (fun go' hT' => nm_r (nI_1 r) (ih (r + 1) go' (by omega) hT')))
theorem ph_Ohi {f : Nat → Nat → Nat → Nat → Nat} {r : Nat} (hr : n + c < r) : ph_O f n c 0 0 0 r = none := by
  rw [ph_OT]
  refine ph_lfp (fun o => o = none) rfl (fun x y hx hy => by rw [hx, hy]; rfl) _ (fun t ht => ?_)
  have := ph_vdl t _ _ (ph_vdw _ _ t ht)
  exact if_neg (by omega)
end
theorem ph_bof {c n : Nat} {w L P : Nat → Int32} {wb wa : Nat → Int64} {en gr fk gc le go : Nat → Int32} (hc : c ≤ 4) (hn : n ≤ 7) (hL : ph_bd L 9) (hP : ph_bd P 9) (hw : ph_bd w 3) {post : SX → SY → Prop} {v1 x y z : Int32} {st : Nat → Int32} (h : ∀ (go' : Nat → Int32) (x y z : Int32) (st' : Nat → Int32), post (nI c, nI n, w, L, P, wb, wa, en, gr, fk, gc, le, go') (nI c, nI n, x, y, z, L, P, w, st')) : wpX_bestOf (fun r u' => wpY_bestOf (fun r' v' => r' = r ∧ post u' v') (nI c, nI n, x, y, z, L, P, w, st) v1) (nI c, nI n, w, L, P, wb, wa, en, gr, fk, gc, le, go) v1 := by
  by_cases hv : v1 < 0
  · exact br_t hv (br_f (Int32.not_le.mpr hv) ⟨rfl, h _ _ _ _ _⟩)
  · obtain ⟨q, hq, rfl⟩ := nI_of hv
    have hp : (0 : Int32) ≤ nI q := nI_pos' hq
    by_cases hq11 : q ≤ 11
    · refine br_f hv (br_t (nI_le (b := 11) hq11 (by decide)) (Exists.intro _ (ph_xbo15 hc (by omega) hL hP hw hq11 (fun go' => ?_) (q + 1) 0 go (by omega) (fun r' i j p h1 => absurd h1 (Nat.not_lt_zero _)))))
      exact br_t hp (ph_ygr hc (by omega) hL hP hw (fun st' => ⟨ph_GO hL hP (by omega) hq, h _ _ _ _ _⟩))
    · refine br_f hv (br_f (nI_ge (a := 11) (by omega) hq) ?_)
      refine br_t hp (ph_ygr hc (by omega) hL hP hw (fun st' => ⟨?_, h _ _ _ _ _⟩))
      rw [ph_GO hL hP (by omega) hq, ph_Ohi (by omega)]
      rfl
