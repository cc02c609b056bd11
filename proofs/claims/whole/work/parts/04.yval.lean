/-! what the reference reckons of one way -/
def ph_bd (f : Nat → Int32) (b : Nat) : Prop := ∀ x, ∃ a, a ≤ b ∧ f x = nI a
theorem ph_bdv {f : Nat → Int32} {b : Nat} (h : ph_bd f b) (hb : b < 2 ^ 31) (x : Nat) : f x = nI (f x).toNatClampNeg ∧ (f x).toNatClampNeg ≤ b := by
  obtain ⟨a, ha, e⟩ := h x
  rw [e, nI_clamp (by omega)]
  exact ⟨rfl, ha⟩
def ph_pa (P : Nat → Int32) (p k : Nat) : Nat := (P (p * 3 + k)).toNatClampNeg
def ph_li (L w : Nat → Int32) (i j : Nat) : Nat := (L ((j + 1) * 4 + (w i).toNatClampNeg)).toNatClampNeg
def ph_f (L P w : Nat → Int32) (p k i j : Nat) : Nat := if k = 0 then ph_pa P p k * ph_li L w i j else ph_pa P p k
def ph_s (L P w : Nat → Int32) (p k i j : Nat) : Nat := if k = 0 then ph_pa P p k + ph_li L w i j else ph_pa P p k
def ph_wt (f : Nat → Nat → Nat → Nat → Nat) : Nat → Nat → Nat → List Nat → Nat
  | _, _, _, [] => 1
  | i, j, p, k :: t => f p k i j * ph_wt f (i + ph_le k) (j + ph_co k) k t
def ph_sc (f : Nat → Nat → Nat → Nat → Nat) : Nat → Nat → Nat → List Nat → Nat
  | _, _, _, [] => 0
  | i, j, p, k :: t => f p k i j + ph_sc f (i + ph_le k) (j + ph_co k) k t
def ph_has (mk : Nat → Nat → Nat → Bool) : Nat → Nat → List Nat → Bool
  | _, _, [] => false
  | i, j, k :: t => mk k i j || ph_has mk (i + ph_le k) (j + ph_co k) t
def ph_mk (ka : Nat) (jx ix : Int32) (k i j : Nat) : Bool := decide (k = ka ∧ (jx < 0 ∨ nI (j + ph_co k) = jx) ∧ (ix < 0 ∨ nI i = ix))
theorem ph_paP {P : Nat → Int32} (hP : ph_bd P 9) (p k : Nat) : P (p * 3 + k) = nI (ph_pa P p k) := (ph_bdv hP (by omega) _).1
theorem ph_pa9 {P : Nat → Int32} (hP : ph_bd P 9) (p k : Nat) : ph_pa P p k ≤ 9 := (ph_bdv hP (by omega) _).2
theorem ph_liL {L w : Nat → Int32} (hL : ph_bd L 9) (i j : Nat) : L ((j + 1) * 4 + (w i).toNatClampNeg) = nI (ph_li L w i j) := (ph_bdv hL (by omega) _).1
theorem ph_li9 {L w : Nat → Int32} (hL : ph_bd L 9) (i j : Nat) : ph_li L w i j ≤ 9 := (ph_bdv hL (by omega) _).2
theorem ph_f81 {L P w : Nat → Int32} (hL : ph_bd L 9) (hP : ph_bd P 9) (p k i j : Nat) : ph_f L P w p k i j ≤ 81 := by
  unfold ph_f
  have h1 := ph_pa9 hP p k
  have h2 := ph_li9 (w := w) hL i j
  split
  · exact Nat.le_trans (Nat.mul_le_mul h1 h2) (by omega)
  · omega
theorem ph_s18 {L P w : Nat → Int32} (hL : ph_bd L 9) (hP : ph_bd P 9) (p k i j : Nat) : ph_s L P w p k i j ≤ 18 := by
  unfold ph_s
  have h1 := ph_pa9 hP p k
  have h2 := ph_li9 (w := w) hL i j
  split <;> omega
theorem ph_n3 : (3 : Int32) = nI 3 := rfl
theorem ph_n4 : (4 : Int32) = nI 4 := rfl
theorem ph_n15 : (15 : Int32) = nI 15 := rfl
theorem ph_n135 : (135 : Int32) = nI 135 := rfl
theorem ph_i3 (p k : Nat) : 3 * nI p + nI k = nI (p * 3 + k) := by rw [ph_n3, pk_mul, nI_add, Nat.mul_comm]
theorem ph_i3' (p k : Nat) : nI p * 3 + nI k = nI (p * 3 + k) := by rw [ph_n3, pk_mul, nI_add]
theorem ph_i4 (p k : Nat) : 4 * nI p + nI k = nI (p * 4 + k) := by rw [ph_n4, pk_mul, nI_add, Nat.mul_comm]
theorem ph_i4' (p k : Nat) : nI p * 4 + nI k = nI (p * 4 + k) := by rw [ph_n4, pk_mul, nI_add]
section
variable {c n : Nat} {L P w : Nat → Int32}
theorem ph_y89 {post : Int64 → Prop} {J : Int64 → Int32 → Int32 → Int32 → Int32 → Prop} {i k s : Nat} {x3 sz co le : Int32} {z : Int64} {st : Nat → Int32} (hk : k < 3) (h : J z x3 (nI (i + ph_le k)) (nI k) (nI (s + 1))) : wY_weight_89 post J x3 (nI i) (nI s) (nI k) z (nI c) (nI n) sz co le L P w st := by
  rcases ph_k3 hk with rfl | rfl | rfl
  · exact br_f (by decide) (nm_r (nI_1 i) (nm_r (nI_1 s) h))
  · exact br_f (by decide) (nm_r (nI_1 i) (nm_r (nI_1 s) h))
  · exact br_t (by decide) (nm_r (nI_1 s) h)
theorem ph_y44 (hc : c ≤ 4) (hn : n ≤ 8) (hL : ph_bd L 9) (hP : ph_bd P 9) (hw : ph_bd w 3) {post : Int64 → Prop} {J : Int64 → Int32 → Int32 → Int32 → Int32 → Prop} {acc i j p k s : Nat} {sz co le : Int32} {st : Nat → Int32} (hk : k < 3) (hp : p < 3) (hk0 : k = 0 → i < n ∧ j < c) (h : J (lN (acc * ph_f L P w p k i j)) (nI (j + ph_co k)) (nI (i + ph_le k)) (nI k) (nI (s + 1))) : wY_weight_44 post J (lN acc) (nI i) (nI p) (nI s) (nI k) (nI (j + ph_co k)) (nI c) (nI n) sz co le L P w st := by
  have hpa := ph_pa9 hP p k
  have hli := ph_li9 (w := w) hL i j
  have ix : 3 * nI p + nI k = nI (p * 3 + k) := ph_i3 p k
  refine And.intro ?_ ?_
  · rw [ix]; exact vp_in_nI (by omega) (by omega)
  · refine nm_r (e' := lN (acc * ph_pa P p k)) ?_ ?_
    · rw [ix, nI_clamp (by omega), ph_paP hP, nI_l (by omega), lN_mul]
    · rcases ph_k3 hk with rfl | rfl | rfl
      · obtain ⟨h1, h2⟩ := hk0 rfl
        obtain ⟨hwe, hw3⟩ := ph_bdv hw (by omega) i
        have iy : 4 * nI (j + ph_co 0) + w (nI i).toNatClampNeg = nI ((j + 1) * 4 + (w i).toNatClampNeg) := by
          rw [nI_clamp (by omega), ph_co0, hwe, ph_i4, nI_clamp (by omega)]
        have e : lN (acc * ph_pa P p 0) * (L (4 * nI (j + ph_co 0) + w (nI i).toNatClampNeg).toNatClampNeg).toInt64 = lN (acc * ph_f L P w p 0 i j) := by
          rw [iy, nI_clamp (by omega), ph_liL hL, nI_l (by omega), lN_mul, ph_f, if_pos rfl, Nat.mul_assoc]
        refine br_t rfl (And.intro (vp_in_nI (by omega) (by omega)) (And.intro (by rw [iy]; exact vp_in_nI (by omega) (by omega)) ?_))
        rw [e]
        exact ph_y89 (by omega) h
      · exact br_f (by decide) (ph_y89 (by omega) h)
      · exact br_f (by decide) (ph_y89 (by omega) h)
theorem ph_yw (hc : c ≤ 4) (hn : n ≤ 8) (hL : ph_bd L 9) (hP : ph_bd P 9) (hw : ph_bd w 3) {post : Int64 → Prop} {sz : Nat} {co le : Int32} {st : Nat → Int32} (hsz : sz ≤ 12) : ∀ (t : List Nat) (a b i j p s acc : Nat), ph_vd a b t → i + a = n → j + b = c → ph_hs st s t → s + t.length = sz → p < 3 → post (lN (acc * ph_wt (ph_f L P w) i j p t)) → wY_weight_13 post (nI c) (nI n) (nI sz) co le L P w st (t.length + 1) (lN acc) (nI j) (nI i) (nI p) (nI s) := by
  intro t
  induction t with
  | nil =>
    intro a b i j p s acc hv hi hj hh hs hp h
    refine br_t (nI_le (by rw [← hs]; exact Nat.le_refl _) (by rw [List.length_nil] at hs; omega)) ?_
    rw [ph_wt, Nat.mul_one] at h
    exact h
  | cons k t ih =>
    intro a b i j p s acc hv hi hj hh hs hp h
    obtain ⟨hk, hva, hvb, hv⟩ := hv
    rw [List.length_cons] at hs
    have hk0 : k = 0 → i < n ∧ j < c := by
      intro z; subst z; rw [ph_le0] at hva; rw [ph_co0] at hvb; omega
    have key : wY_weight_44 post (wY_weight_13 post (nI c) (nI n) (nI sz) co le L P w st (t.length + 1)) (lN acc) (nI i) (nI p) (nI s) (nI k) (nI (j + ph_co k)) (nI c) (nI n) (nI sz) co le L P w st := by
      refine ph_y44 hc hn hL hP hw hk hp hk0 ?_
      refine ih (a - ph_le k) (b - ph_co k) (i + ph_le k) (j + ph_co k) k (s + 1) _ hv (by omega) (by omega) hh.2 (by omega) hk ?_
      rw [ph_wt] at h
      rw [Nat.mul_assoc]
      exact h
    refine br_f (nI_ge (by omega) (by omega)) (And.intro (vp_in_nI (by omega) (by omega)) (nm_r (e' := nI k) (by rw [nI_clamp (by omega)]; exact hh.1) ?_))
    rcases ph_k3 hk with rfl | rfl | rfl
    · have e : nI j + 1 = nI (j + ph_co 0) := nI_1 j
      rw [e]
      exact br_f (by decide) key
    · exact br_t (by decide) key
    · have e : nI j + 1 = nI (j + ph_co 2) := nI_1 j
      rw [e]
      exact br_f (by decide) key
theorem ph_ywt (hc : c ≤ 4) (hn : n ≤ 8) (hL : ph_bd L 9) (hP : ph_bd P 9) (hw : ph_bd w 3) {post : Int64 → Prop} {co le : Int32} {st : Nat → Int32} {t : List Nat} (hv : ph_vd n c t) (hh : ph_hs st 0 t) (h : post (lN (ph_wt (ph_f L P w) 0 0 0 t))) : wpY_weight post (nI c, nI n, nI t.length, co, le, L, P, w, st) := by
  have hl := ph_vdl t n c hv
  exact Exists.intro _ (ph_yw hc hn hL hP hw (by omega) t n c 0 0 0 0 1 hv (by omega) (by omega) hh (by omega) (by omega) (by rw [Nat.one_mul]; exact h))
theorem ph_z85 {post : Int32 → Prop} {J : Int32 → Int32 → Int32 → Int32 → Int32 → Prop} {i k s : Nat} {x2 z sz co le : Int32} {st : Nat → Int32} (hk : k < 3) (h : J z x2 (nI (i + ph_le k)) (nI k) (nI (s + 1))) : wY_score_85 post J x2 (nI i) (nI s) (nI k) z (nI c) (nI n) sz co le L P w st := by
  rcases ph_k3 hk with rfl | rfl | rfl
  · exact br_f (by decide) (nm_r (nI_1 i) (nm_r (nI_1 s) h))
  · exact br_f (by decide) (nm_r (nI_1 i) (nm_r (nI_1 s) h))
  · exact br_t (by decide) (nm_r (nI_1 s) h)
theorem ph_z43 (hc : c ≤ 4) (hn : n ≤ 8) (hL : ph_bd L 9) (hP : ph_bd P 9) (hw : ph_bd w 3) {post : Int32 → Prop} {J : Int32 → Int32 → Int32 → Int32 → Int32 → Prop} {acc i j p k s : Nat} {sz co le : Int32} {st : Nat → Int32} (hk : k < 3) (hp : p < 3) (hk0 : k = 0 → i < n ∧ j < c) (h : J (nI (acc + ph_s L P w p k i j)) (nI (j + ph_co k)) (nI (i + ph_le k)) (nI k) (nI (s + 1))) : wY_score_43 post J (nI acc) (nI i) (nI p) (nI s) (nI k) (nI (j + ph_co k)) (nI c) (nI n) sz co le L P w st := by
  have hpa := ph_pa9 hP p k
  have hli := ph_li9 (w := w) hL i j
  have ix : 3 * nI p + nI k = nI (p * 3 + k) := ph_i3 p k
  refine And.intro ?_ ?_
  · rw [ix]; exact vp_in_nI (by omega) (by omega)
  · refine nm_r (e' := nI (acc + ph_pa P p k)) ?_ ?_
    · rw [ix, nI_clamp (by omega), ph_paP hP, nI_add]
    · rcases ph_k3 hk with rfl | rfl | rfl
      · obtain ⟨h1, h2⟩ := hk0 rfl
        obtain ⟨hwe, hw3⟩ := ph_bdv hw (by omega) i
        have iy : 4 * nI (j + ph_co 0) + w (nI i).toNatClampNeg = nI ((j + 1) * 4 + (w i).toNatClampNeg) := by
          rw [nI_clamp (by omega), ph_co0, hwe, ph_i4, nI_clamp (by omega)]
        have e : nI (acc + ph_pa P p 0) + (L (4 * nI (j + ph_co 0) + w (nI i).toNatClampNeg).toNatClampNeg) = nI (acc + ph_s L P w p 0 i j) := by
          rw [iy, nI_clamp (by omega), ph_liL hL, nI_add, ph_s, if_pos rfl, Nat.add_assoc]
        refine br_t rfl (And.intro (vp_in_nI (by omega) (by omega)) (And.intro (by rw [iy]; exact vp_in_nI (by omega) (by omega)) ?_))
        rw [e]
        exact ph_z85 (by omega) h
      · exact br_f (by decide) (ph_z85 (by omega) h)
      · exact br_f (by decide) (ph_z85 (by omega) h)
theorem ph_zw (hc : c ≤ 4) (hn : n ≤ 8) (hL : ph_bd L 9) (hP : ph_bd P 9) (hw : ph_bd w 3) {post : Int32 → Prop} {sz : Nat} {co le : Int32} {st : Nat → Int32} (hsz : sz ≤ 12) : ∀ (t : List Nat) (a b i j p s acc : Nat), ph_vd a b t → i + a = n → j + b = c → ph_hs st s t → s + t.length = sz → p < 3 → post (nI (acc + ph_sc (ph_s L P w) i j p t)) → wY_score_12 post (nI c) (nI n) (nI sz) co le L P w st (t.length + 1) (nI acc) (nI j) (nI i) (nI p) (nI s) := by
  intro t
  induction t with
  | nil =>
    intro a b i j p s acc hv hi hj hh hs hp h
    refine br_t (nI_le (by rw [← hs]; exact Nat.le_refl _) (by rw [List.length_nil] at hs; omega)) ?_
    rw [ph_sc, Nat.add_zero] at h
    exact h
  | cons k t ih =>
    intro a b i j p s acc hv hi hj hh hs hp h
    obtain ⟨hk, hva, hvb, hv⟩ := hv
    rw [List.length_cons] at hs
    have hk0 : k = 0 → i < n ∧ j < c := by
      intro z; subst z; rw [ph_le0] at hva; rw [ph_co0] at hvb; omega
    have key : wY_score_43 post (wY_score_12 post (nI c) (nI n) (nI sz) co le L P w st (t.length + 1)) (nI acc) (nI i) (nI p) (nI s) (nI k) (nI (j + ph_co k)) (nI c) (nI n) (nI sz) co le L P w st := by
      refine ph_z43 hc hn hL hP hw hk hp hk0 ?_
      refine ih (a - ph_le k) (b - ph_co k) (i + ph_le k) (j + ph_co k) k (s + 1) _ hv (by omega) (by omega) hh.2 (by omega) hk ?_
      rw [ph_sc] at h
      rw [Nat.add_assoc]
      exact h
    refine br_f (nI_ge (by omega) (by omega)) (And.intro (vp_in_nI (by omega) (by omega)) (nm_r (e' := nI k) (by rw [nI_clamp (by omega)]; exact hh.1) ?_))
    rcases ph_k3 hk with rfl | rfl | rfl
    · have e : nI j + 1 = nI (j + ph_co 0) := nI_1 j
      rw [e]
      exact br_f (by decide) key
    · exact br_t (by decide) key
    · have e : nI j + 1 = nI (j + ph_co 2) := nI_1 j
      rw [e]
      exact br_f (by decide) key
theorem ph_zsc (hc : c ≤ 4) (hn : n ≤ 8) (hL : ph_bd L 9) (hP : ph_bd P 9) (hw : ph_bd w 3) {post : Int32 → Prop} {co le : Int32} {st : Nat → Int32} {t : List Nat} (hv : ph_vd n c t) (hh : ph_hs st 0 t) (h : post (nI (ph_sc (ph_s L P w) 0 0 0 t))) : wpY_score post (nI c, nI n, nI t.length, co, le, L, P, w, st) := by
  have hl := ph_vdl t n c hv
  exact Exists.intro _ (ph_zw hc hn hL hP hw (by omega) t n c 0 0 0 0 0 hv (by omega) (by omega) hh (by omega) (by omega) (by rw [Nat.zero_add]; exact h))
theorem ph_h73 {post : Int32 → Prop} {J : Int32 → Int32 → Int32 → Prop} {i k s : Nat} {x1 x2 x3 x4 sz co le : Int32} {st : Nat → Int32} (hs : s < 12) (hst : st s = nI k) (hk : k < 3) (h : J x4 (nI (i + ph_le k)) (nI (s + 1))) : wY_hasStep_73 post J x1 x2 x3 x4 (nI i) (nI s) (nI c) (nI n) sz co le L P w st := by
  have e : st (nI s).toNatClampNeg = nI k := by rw [nI_clamp (by omega)]; exact hst
  refine And.intro (vp_in_nI hs (by omega)) ?_
  rw [e]
  rcases ph_k3 hk with rfl | rfl | rfl
  · exact br_f (by decide) (nm_r (nI_1 i) (nm_r (nI_1 s) h))
  · exact br_f (by decide) (nm_r (nI_1 i) (nm_r (nI_1 s) h))
  · exact br_t (by decide) (nm_r (nI_1 s) h)
theorem ph_h38 {post : Int32 → Prop} {J : Int32 → Int32 → Int32 → Prop} {i j k s ka : Nat} {x2 x3 sz co le : Int32} {st : Nat → Int32} (hs : s < 12) (hst : st s = nI k) (hk : k < 3) (hka : ka < 3) (h1 : ph_mk ka x2 x3 k i j = true → post 1) (h : ph_mk ka x2 x3 k i j = false → J (nI (j + ph_co k)) (nI (i + ph_le k)) (nI (s + 1))) : wY_hasStep_38 post J (nI ka) x2 x3 (nI i) (nI s) (nI (j + ph_co k)) (nI c) (nI n) sz co le L P w st := by
  have e : st (nI s).toNatClampNeg = nI k := by rw [nI_clamp (by omega)]; exact hst
  have hf : ¬ (k = ka ∧ (x2 < 0 ∨ nI (j + ph_co k) = x2) ∧ (x3 < 0 ∨ nI i = x3)) → wY_hasStep_73 post J (nI ka) x2 x3 (nI (j + ph_co k)) (nI i) (nI s) (nI c) (nI n) sz co le L P w st := fun z => ph_h73 hs hst hk (h (decide_eq_false z))
  have ht : (k = ka ∧ (x2 < 0 ∨ nI (j + ph_co k) = x2) ∧ (x3 < 0 ∨ nI i = x3)) → post 1 := fun z => h1 (decide_eq_true z)
  have h61 : k = ka → (x2 < 0 ∨ nI (j + ph_co k) = x2) → wY_hasStep_61 post J (nI ka) x2 x3 (nI (j + ph_co k)) (nI i) (nI s) (nI c) (nI n) sz co le L P w st := fun z1 z2 => br_c (fun q => ht ⟨z1, z2, Or.inl q⟩) (fun q => br_c (fun q' => ht ⟨z1, z2, Or.inr q'⟩) (fun q' => hf (fun z => z.2.2.elim q q')))
  refine And.intro (vp_in_nI hs (by omega)) ?_
  rw [e]
  refine pk_eq k ka (fun z => br_c (fun q => h61 z (Or.inl q)) (fun q => br_c (fun q' => h61 z (Or.inr q')) (fun q' => hf (fun z => z.2.1.elim q q')))) (fun z => hf (fun z' => z z'.1))
theorem ph_yh {post : Int32 → Prop} {sz ka : Nat} {x2 x3 co le : Int32} {st : Nat → Int32} (hsz : sz ≤ 12) (hka : ka < 3) : ∀ (t : List Nat) (a b i j s : Nat), ph_vd a b t → ph_hs st s t → s + t.length = sz → post (if ph_has (ph_mk ka x2 x3) i j t then 1 else 0) → wY_hasStep_9 post (nI ka) x2 x3 (nI c) (nI n) (nI sz) co le L P w st (t.length + 1) (nI j) (nI i) (nI s) := by
  intro t
  induction t with
  | nil =>
    intro a b i j s hv hh hs h
    exact br_t (nI_le (by rw [← hs]; exact Nat.le_refl _) (by rw [List.length_nil] at hs; omega)) h
  | cons k t ih =>
    intro a b i j s hv hh hs h
    obtain ⟨hk, hva, hvb, hv⟩ := hv
    rw [List.length_cons] at hs
    rw [ph_has] at h
    have key : wY_hasStep_38 post (wY_hasStep_9 post (nI ka) x2 x3 (nI c) (nI n) (nI sz) co le L P w st (t.length + 1)) (nI ka) x2 x3 (nI i) (nI s) (nI (j + ph_co k)) (nI c) (nI n) (nI sz) co le L P w st := by
      refine ph_h38 (by omega) hh.1 hk hka (fun z => ?_) (fun z => ?_)
      · rw [z, Bool.true_or] at h; exact h
      · rw [z, Bool.false_or] at h
        exact ih _ _ _ _ _ hv hh.2 (by omega) h
    have e : st (nI s).toNatClampNeg = nI k := by rw [nI_clamp (by omega)]; exact hh.1
    refine br_f (nI_ge (by omega) (by omega)) (And.intro (vp_in_nI (by omega) (by omega)) ?_)
    rw [e]
    rcases ph_k3 hk with rfl | rfl | rfl
    · have e : nI j + 1 = nI (j + ph_co 0) := nI_1 j
      rw [e]
      exact br_f (by decide) key
    · exact br_t (by decide) key
    · have e : nI j + 1 = nI (j + ph_co 2) := nI_1 j
      rw [e]
      exact br_f (by decide) key
theorem ph_yhs (hc : c ≤ 4) (hn : n ≤ 8) {post : Int32 → Prop} {ka : Nat} {x2 x3 co le : Int32} {st : Nat → Int32} {t : List Nat} (hka : ka < 3) (hv : ph_vd n c t) (hh : ph_hs st 0 t) (h : post (if ph_has (ph_mk ka x2 x3) 0 0 t then 1 else 0)) : wpY_hasStep post (nI c, nI n, nI t.length, co, le, L, P, w, st) (nI ka) x2 x3 := by
  have hl := ph_vdl t n c hv
  exact Exists.intro _ (ph_yh (by omega) hka t n c 0 0 0 hv hh (by omega) h)
end
