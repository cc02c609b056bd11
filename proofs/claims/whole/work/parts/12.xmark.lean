/-! the class's matched, deleted, inserted -/
def ph_pm (i0 j0 k i j : Nat) : Bool := decide (k = 0 ∧ i = i0 ∧ j = j0)
def ph_pd (j0 k _ j : Nat) : Bool := decide (k = 2 ∧ j = j0)
def ph_pi (i0 k i _ : Nat) : Bool := decide (k = 1 ∧ i = i0)
theorem ph_hasc {mk mk' : Nat → Nat → Nat → Bool} : ∀ (t : List Nat) (a b i j : Nat), ph_vd a b t → (∀ k i' j', k < 3 → i' ≤ i + a → j' ≤ j + b → mk k i' j' = mk' k i' j') → ph_has mk i j t = ph_has mk' i j t := by
  intro t
  induction t with
  | nil => intro a b i j _ _; rfl
  | cons k t ih =>
    intro a b i j hv h
    obtain ⟨hk, h1, h2, hv⟩ := hv
    rw [ph_has, ph_has, h k i j hk (by omega) (by omega), ih _ _ _ _ hv (fun k' i' j' a1 a2 a3 => h k' i' j' a1 (by omega) (by omega))]
theorem ph_lfcm {M : Type} {op : M → M → M} {e : M} {g g' : List Nat → M} : ∀ l : List (List Nat), (∀ t, t ∈ l → g t = g' t) → ph_lf op e g l = ph_lf op e g' l := by
  intro l
  induction l with
  | nil => intro _; rfl
  | cons t l ih => intro h; show op (g t) (ph_lf op e g l) = op (g' t) (ph_lf op e g' l); rw [h t List.mem_cons_self, ih (fun q hq => h q (List.mem_cons_of_mem _ hq))]
theorem ph_SwQ {L P w : Nat → Int32} {mk mk' : Nat → Nat → Nat → Bool} {n c : Nat} (h : ∀ k i' j', k < 3 → i' ≤ n → j' ≤ c → mk k i' j' = mk' k i' j') : ph_Sw L P w mk n c = (ph_Q (ph_f L P w) mk' n c 0 0 0).2 := by
  have e : (fun (a : Nat) (t : List Nat) => if ph_has mk 0 0 t then a + ph_wt (ph_f L P w) 0 0 0 t else a) = (fun a t => Nat.add a (if ph_has mk 0 0 t then ph_wt (ph_f L P w) 0 0 0 t else 0)) := by
    funext a t
    by_cases z : ph_has mk 0 0 t = true
    · rw [if_pos z, if_pos z]; rfl
    · rw [if_neg z, if_neg z]; rfl
  rw [ph_Sw, e, ph_fl (op := Nat.add) (e := 0) Nat.add_assoc Nat.add_zero, ph_Q2, Nat.sub_zero, Nat.sub_zero]
  refine (Nat.zero_add _).trans (ph_lfcm _ (fun t ht => ?_))
  rw [ph_hasc t n c 0 0 (ph_vdw n c t ht) (fun k i' j' a1 a2 a3 => h k i' j' a1 (by omega) (by omega))]
theorem ph_s20 {g : Nat → Nat → Nat} (n c : Nat) (h : ∀ i j, g i j = 0) : ph_s2 g n c = 0 := ph_smz _ (fun i _ => ph_smz _ (fun j _ => h i j))
section
variable {f : Nat → Nat → Nat → Nat → Nat} {n c : Nat}
theorem ph_Qm {i0 j0 : Nat} (hi : i0 < n) (hj : j0 < c) : (ph_Q f (ph_pm i0 j0) n c 0 0 0).2 = ph_tp f (ph_F f i0 j0) 0 i0 j0 * ph_B f n c (i0 + 1) (j0 + 1) 0 := by
  rw [ph_meet]
  · have e1 : ph_s2 (ph_Sx f (ph_pm i0 j0) n c 1) n c = 0 := ph_s20 n c (fun i j => if_neg (fun z => by have := of_decide_eq_true z.2; omega))
    have e2 : ph_s2 (ph_Sx f (ph_pm i0 j0) n c 2) n c = 0 := ph_s20 n c (fun i j => if_neg (fun z => by have := of_decide_eq_true z.2; omega))
    rw [e1, e2, Nat.add_zero, Nat.add_zero]
    have h1 : ph_s2 (ph_Sx f (ph_pm i0 j0) n c 0) n c = ph_sm (fun j => ph_Sx f (ph_pm i0 j0) n c 0 i0 j) (c + 1) :=
      ph_sm1 (f := fun i => ph_sm (fun j => ph_Sx f (ph_pm i0 j0) n c 0 i j) (c + 1)) (n + 1) (by omega) (fun x _ hx => ph_smz _ (fun j _ => if_neg (fun z => by have := of_decide_eq_true z.2; omega)))
    have h2 : ph_sm (fun j => ph_Sx f (ph_pm i0 j0) n c 0 i0 j) (c + 1) = ph_Sx f (ph_pm i0 j0) n c 0 i0 j0 :=
      ph_sm1 (f := fun j => ph_Sx f (ph_pm i0 j0) n c 0 i0 j) (c + 1) (by omega) (fun x _ hx => if_neg (fun z => by have := of_decide_eq_true z.2; omega))
    rw [h1, h2, ph_Sx, if_pos ⟨by rw [ph_le0, ph_co0]; omega, decide_eq_true ⟨rfl, rfl, rfl⟩⟩]
    rfl
  · intro k i j h k' i' j' h1 h2
    obtain ⟨rfl, rfl, rfl⟩ := of_decide_eq_true h
    rw [ph_le0] at h1
    exact decide_eq_false (by omega)
theorem ph_Qd {j0 : Nat} (hj : j0 < c) : (ph_Q f (ph_pd j0) n c 0 0 0).2 = ph_sm (fun i => ph_tp f (ph_F f i j0) 2 i j0 * ph_B f n c i (j0 + 1) 2) (n + 1) := by
  rw [ph_meet]
  · have e1 : ph_s2 (ph_Sx f (ph_pd j0) n c 0) n c = 0 := ph_s20 n c (fun i j => if_neg (fun z => by have := of_decide_eq_true z.2; omega))
    have e2 : ph_s2 (ph_Sx f (ph_pd j0) n c 1) n c = 0 := ph_s20 n c (fun i j => if_neg (fun z => by have := of_decide_eq_true z.2; omega))
    rw [e1, e2, Nat.zero_add]
    refine ph_smc (n + 1) (fun i hi => ?_)
    have h2 : ph_sm (fun j => ph_Sx f (ph_pd j0) n c 2 i j) (c + 1) = ph_Sx f (ph_pd j0) n c 2 i j0 :=
      ph_sm1 (f := fun j => ph_Sx f (ph_pd j0) n c 2 i j) (c + 1) (by omega) (fun x _ hx => if_neg (fun z => by have := of_decide_eq_true z.2; omega))
    rw [h2, ph_Sx, if_pos ⟨by rw [ph_le2, ph_co2]; omega, decide_eq_true ⟨rfl, rfl⟩⟩]
    rfl
  · intro k i j h k' i' j' h1 h2
    obtain ⟨rfl, rfl⟩ := of_decide_eq_true h
    rw [ph_co2] at h2
    exact decide_eq_false (by omega)
theorem ph_Qi {i0 : Nat} (hi : i0 < n) : (ph_Q f (ph_pi i0) n c 0 0 0).2 = ph_sm (fun j => ph_tp f (ph_F f i0 j) 1 i0 j * ph_B f n c (i0 + 1) j 1) (c + 1) := by
  rw [ph_meet]
  · have e1 : ph_s2 (ph_Sx f (ph_pi i0) n c 0) n c = 0 := ph_s20 n c (fun i j => if_neg (fun z => by have := of_decide_eq_true z.2; omega))
    have e2 : ph_s2 (ph_Sx f (ph_pi i0) n c 2) n c = 0 := ph_s20 n c (fun i j => if_neg (fun z => by have := of_decide_eq_true z.2; omega))
    rw [e1, e2, Nat.zero_add, Nat.add_zero]
    have h1 : ph_s2 (ph_Sx f (ph_pi i0) n c 1) n c = ph_sm (fun j => ph_Sx f (ph_pi i0) n c 1 i0 j) (c + 1) :=
      ph_sm1 (f := fun i => ph_sm (fun j => ph_Sx f (ph_pi i0) n c 1 i j) (c + 1)) (n + 1) (by omega) (fun x _ hx => ph_smz _ (fun j _ => if_neg (fun z => by have := of_decide_eq_true z.2; omega)))
    rw [h1]
    refine ph_smc (c + 1) (fun j hj => ?_)
    rw [ph_Sx, if_pos ⟨by rw [ph_le1, ph_co1]; omega, decide_eq_true ⟨rfl, rfl⟩⟩]
    rfl
  · intro k i j h k' i' j' h1 h2
    obtain ⟨rfl, rfl⟩ := of_decide_eq_true h
    rw [ph_le1] at h1
    exact decide_eq_false (by omega)
end
/-! the class's walk -/
section
variable {c n : Nat} {w L P : Nat → Int32} {wb wa : Nat → Int64} {en gr fk gc le go : Nat → Int32}
theorem ph_xu54 (hL : ph_bd L 9) (hP : ph_bd P 9) (hw : ph_bd w 3) {post : Int64 → Prop} {fc fl : Int32} {i j k r p acc : Nat} (hi : i ≤ 8) (hj : j ≤ 4) (hk : k < 3) (hp : p < 3) (hk0 : k = 0 → i < 8 ∧ j < 4) (hT : wb (ph_ix i j p) = lN (ph_F (ph_f L P w) i j p)) (h : wX_weightUpTo_54 post (nI k) (nI i) (nI j) fc fl w L P wb wa en gr fk gc le go r (lN (acc + ph_F (ph_f L P w) i j p * ph_f L P w p k i j)) (nI (p + 1))) : wX_weightUpTo_54 post (nI k) (nI i) (nI j) fc fl w L P wb wa en gr fk gc le go (r + 1) (lN acc) (nI p) := by
  have hb := ph_ixb hi hj hp
  have hf := ph_f81 (w := w) hL hP p k i j
  refine br_f (nI_ge (b := 3) hp (by decide)) (ph_xpt (And.intro (vp_in_nI hb (by decide)) (ph_xfac hL hP hw hp hk hk0 (nm_r ?_ (nm_r (nI_1 p) h)))))
  rw [nI_clamp (by omega), hT, nI_l (by omega), lN_mul, lN_add]
theorem ph_xu18 (hL : ph_bd L 9) (hP : ph_bd P 9) (hw : ph_bd w 3) {post : Int64 → Prop} {fc fl : Int32} {i j k : Nat} (hi : i ≤ 8) (hj : j ≤ 4) (hk : k < 3) (hne : ¬ (i = 0 ∧ j = 0)) (hT : ph_le k ≤ i → ph_co k ≤ j → ∀ p, p < 3 → wb (ph_ix (i - ph_le k) (j - ph_co k) p) = lN (ph_F (ph_f L P w) (i - ph_le k) (j - ph_co k) p)) (h : post (lN (ph_F (ph_f L P w) i j k))) : wX_weightUpTo_18 post (nI i) (nI j) (nI k) fc fl w L P wb wa en gr fk gc le go := by
  have hle := ph_leL k
  have hco := ph_coL k
  unfold wX_weightUpTo_18
  refine ph_xlet hk ?_
  by_cases h1 : ph_le k ≤ i
  · refine nm_r (pk_sub h1) (ph_xcol hk ?_)
    by_cases h2 : ph_co k ≤ j
    · refine nm_r (pk_sub h2) (br_f (nI_pos (by omega)) (br_t (nI_pos' (by omega)) (Exists.intro 4 ?_)))
      have hk0 : k = 0 → i - ph_le k < 8 ∧ j - ph_co k < 4 := by
        intro z; subst z; rw [ph_le0] at h1 ⊢; rw [ph_co0] at h2 ⊢; omega
      rw [ph_Feq _ hk hne h1 h2, ph_tp] at h
      exact ph_xu54 (p := 0) (acc := 0) hL hP hw (by omega) (by omega) hk (by omega) hk0 (hT h1 h2 0 (by omega)) (ph_xu54 (p := 1) hL hP hw (by omega) (by omega) hk (by omega) hk0 (hT h1 h2 1 (by omega)) (ph_xu54 (p := 2) hL hP hw (by omega) (by omega) hk (by omega) hk0 (hT h1 h2 2 (by omega)) (br_t (by decide) (by rw [Nat.zero_add]; exact h))))
    · rw [ph_Feq0 _ hk hne (Or.inr (by omega))] at h
      exact nm_e (br_f (nI_pos (by omega)) (br_f (Int32.not_le.mpr (pk_sneg (by omega) (by omega))) h))
  · rw [ph_Feq0 _ hk hne (Or.inl (by omega))] at h
    exact nm_e (ph_xcol hk (nm_e (br_t (pk_sneg (by omega) (by omega)) h)))
theorem ph_xwu (hL : ph_bd L 9) (hP : ph_bd P 9) (hw : ph_bd w 3) {post : Int64 → Prop} {fc fl : Int32} {i j k : Nat} (hi : i ≤ 8) (hj : j ≤ 4) (hk : k < 3) (hT : ph_le k ≤ i → ph_co k ≤ j → ∀ p, p < 3 → wb (ph_ix (i - ph_le k) (j - ph_co k) p) = lN (ph_F (ph_f L P w) (i - ph_le k) (j - ph_co k) p)) (h : post (lN (ph_F (ph_f L P w) i j k))) : wpX_weightUpTo post (fc, fl, w, L, P, wb, wa, en, gr, fk, gc, le, go) (nI i) (nI j) (nI k) := by
  refine pk_eq i 0 (fun z => pk_eq j 0 (fun z' => ?_) (fun z' => ?_)) (fun z => ?_)
  · subst z; subst z'
    rw [ph_F00] at h
    refine pk_eq k 0 (fun y => ?_) (fun y => ?_)
    · rw [if_pos y] at h; exact h
    · rw [if_neg y] at h; exact h
  · exact ph_xu18 hL hP hw hi hj hk (fun q => z' q.2) hT h
  · exact ph_xu18 hL hP hw hi hj hk (fun q => z q.1) hT h
theorem ph_xfb (hc : c ≤ 4) (hn : n ≤ 8) (hL : ph_bd L 9) (hP : ph_bd P 9) (hw : ph_bd w 3) {post : SX → Prop} (h : ∀ wb' : Nat → Int64, (∀ i j p, i ≤ n → j ≤ c → p < 3 → wb' (ph_ix i j p) = lN (ph_F (ph_f L P w) i j p)) → post (nI c, nI n, w, L, P, wb', wa, en, gr, fk, gc, le, go)) : wpX_fillWeightBefore post (nI c, nI n, w, L, P, wb, wa, en, gr, fk, gc, le, go) := by
  refine ph_up (N := n) (C := c) hn hc
    (fun m x wb => wX_fillWeightBefore_2 post (nI c) (nI n) m x w L P wb wa en gr fk gc le go)
    (fun m1 x m y wb => wX_fillWeightBefore_12 post (wX_fillWeightBefore_2 post (nI c) (nI n) m1) x (nI c) (nI n) m y w L P wb wa en gr fk gc le go)
    (fun m1 x m y r z wb => wX_fillWeightBefore_22 post (wX_fillWeightBefore_2 post (nI c) (nI n) m1) (wX_fillWeightBefore_12 post (wX_fillWeightBefore_2 post (nI c) (nI n) m1) x (nI c) (nI n) m) x y (nI c) (nI n) r z w L P wb wa en gr fk gc le go)
    (fun wb => post (nI c, nI n, w, L, P, wb, wa, en, gr, fk, gc, le, go))
    (ph_U (fun i j p => lN (ph_F (ph_f L P w) i j p)) n c)
    (fun _ _ _ hx hp => br_t hx hp) (fun _ _ _ hx hp => br_f hx hp) (fun _ _ _ _ _ hx hp => br_t hx (nm_e hp)) (fun _ _ _ _ _ hx hp => br_f hx hp) (fun _ _ _ _ _ _ _ hx hp => br_t hx (nm_e hp))
    ?_ (fun _ _ _ _ _ h => ph_Ut1 h) (fun _ _ _ h => ph_Ut2 h) (fun s hs => h s (ph_Ut3 hs)) wb ph_U0
  intro m1 i m j r p s hi hj hp hI hk
  have hb := ph_ixb (i := i) (j := j) (p := p) (by omega) (by omega) hp
  refine br_f (nI_ge (b := 3) hp (by decide)) (ph_xpt (ph_xwu hL hP hw (by omega) (by omega) hp (fun a1 a2 p' hp' => hI _ _ p' (by omega) (by omega) hp' (by have := ph_lc p; omega)) (And.intro (vp_in_nI hb (by decide)) (nm_r (e' := vp_updL s (ph_ix i j p) (lN (ph_F (ph_f L P w) i j p))) (by rw [nI_clamp (by omega)]) (nm_r (nI_1 p) (hk _ (ph_Up hc hj hp hI pk_uLs (fun x hx => pk_uLn hx))))))))
theorem ph_xt6 (hL : ph_bd L 9) (hP : ph_bd P 9) (hw : ph_bd w 3) {post : Int64 → Prop} {fc fl : Int32} {i j k r p acc : Nat} (hi : i ≤ 8) (hj : j ≤ 4) (hk : k < 3) (hp : p < 3) (hk0 : k = 0 → i < 8 ∧ j < 4) (hT : wb (ph_ix i j p) = lN (ph_F (ph_f L P w) i j p)) (h : wX_weightThrough_6 post (nI k) (nI i) (nI j) fc fl w L P wb wa en gr fk gc le go r (lN (acc + ph_F (ph_f L P w) i j p * ph_f L P w p k i j)) (nI (p + 1))) : wX_weightThrough_6 post (nI k) (nI i) (nI j) fc fl w L P wb wa en gr fk gc le go (r + 1) (lN acc) (nI p) := by
  have hb := ph_ixb hi hj hp
  have hf := ph_f81 (w := w) hL hP p k i j
  refine br_f (nI_ge (b := 3) hp (by decide)) (ph_xpt (And.intro (vp_in_nI hb (by decide)) (ph_xfac hL hP hw hp hk hk0 (nm_r ?_ (nm_r (nI_1 p) h)))))
  rw [nI_clamp (by omega), hT, nI_l (by omega), lN_mul, lN_add]
theorem ph_xwt (hc : c ≤ 4) (hn : n ≤ 8) (hL : ph_bd L 9) (hP : ph_bd P 9) (hw : ph_bd w 3) {post : Int64 → Prop} {i j k : Nat} (hk : k < 3) (hi : i + ph_le k ≤ n) (hj : j + ph_co k ≤ c) (hB : ∀ i j p, i ≤ n → j ≤ c → p < 3 → wb (ph_ix i j p) = lN (ph_F (ph_f L P w) i j p)) (hA : ∀ i j p, i ≤ n → j ≤ c → p < 3 → wa (ph_ix i j p) = lN (ph_B (ph_f L P w) n c i j p)) (h : post (lN (ph_tp (ph_f L P w) (ph_F (ph_f L P w) i j) k i j * ph_B (ph_f L P w) n c (i + ph_le k) (j + ph_co k) k))) : wpX_weightThrough post (nI c, nI n, w, L, P, wb, wa, en, gr, fk, gc, le, go) (nI k) (nI i) (nI j) := by
  have hk0 : k = 0 → i < 8 ∧ j < 4 := by
    intro z; subst z; rw [ph_le0] at hi; rw [ph_co0] at hj; omega
  have hb := ph_ixb (i := i + ph_le k) (j := j + ph_co k) (p := k) (by omega) (by omega) hk
  refine Exists.intro 4 (ph_xt6 (p := 0) (acc := 0) hL hP hw (by omega) (by omega) hk (by omega) hk0 (hB i j 0 (by omega) (by omega) (by omega)) (ph_xt6 (p := 1) hL hP hw (by omega) (by omega) hk (by omega) hk0 (hB i j 1 (by omega) (by omega) (by omega)) (ph_xt6 (p := 2) hL hP hw (by omega) (by omega) hk (by omega) hk0 (hB i j 2 (by omega) (by omega) (by omega)) (br_t (by decide) (ph_xpa hk (And.intro (vp_in_nI hb (by decide)) ?_))))))
  rw [nI_clamp (by omega), hA _ _ k hi hj hk, lN_mul, Nat.zero_add]
  exact h
theorem ph_xd27 (hc : c ≤ 4) (hn : n ≤ 8) (hL : ph_bd L 9) (hP : ph_bd P 9) (hw : ph_bd w 3) {post : Int64 → SX → Prop} {j0 : Nat} (hj : j0 < c) (hB : ∀ i j p, i ≤ n → j ≤ c → p < 3 → wb (ph_ix i j p) = lN (ph_F (ph_f L P w) i j p)) (hA : ∀ i j p, i ≤ n → j ≤ c → p < 3 → wa (ph_ix i j p) = lN (ph_B (ph_f L P w) n c i j p)) (h : post (lN (ph_sm (fun i => ph_tp (ph_f L P w) (ph_F (ph_f L P w) i j0) 2 i j0 * ph_B (ph_f L P w) n c i (j0 + 1) 2) (n + 1))) (nI c, nI n, w, L, P, wb, wa, en, gr, fk, gc, le, go)) : ∀ d i, i + d = n + 1 → wX_deleted_27 post (nI (j0 + 1)) (nI c) (nI n) w L P wb wa en gr fk gc le go (d + 1) (lN (ph_sm (fun i => ph_tp (ph_f L P w) (ph_F (ph_f L P w) i j0) 2 i j0 * ph_B (ph_f L P w) n c i (j0 + 1) 2) i)) (nI i) := by
  intro d
  induction d with
  | zero =>
    intro i hi
    obtain rfl : i = n + 1 := by omega
    exact br_t (nI_lt (by omega) (by omega)) h
  | succ d ih =>
    intro i hi
    refine br_f (nI_nlt (by omega) (by omega)) ?_
    rw [nI_pred]
    exact ph_xwt (k := 2) hc hn hL hP hw (by omega) (by rw [ph_le2]; omega) (by rw [ph_co2]; omega) hB hA (nm_r (lN_add _ _) (nm_r (nI_1 i) (ih (i + 1) (by omega))))
theorem ph_xi27 (hc : c ≤ 4) (hn : n ≤ 8) (hL : ph_bd L 9) (hP : ph_bd P 9) (hw : ph_bd w 3) {post : Int64 → SX → Prop} {i0 : Nat} (hi0 : i0 < n) (hB : ∀ i j p, i ≤ n → j ≤ c → p < 3 → wb (ph_ix i j p) = lN (ph_F (ph_f L P w) i j p)) (hA : ∀ i j p, i ≤ n → j ≤ c → p < 3 → wa (ph_ix i j p) = lN (ph_B (ph_f L P w) n c i j p)) (h : post (lN (ph_sm (fun j => ph_tp (ph_f L P w) (ph_F (ph_f L P w) i0 j) 1 i0 j * ph_B (ph_f L P w) n c (i0 + 1) j 1) (c + 1))) (nI c, nI n, w, L, P, wb, wa, en, gr, fk, gc, le, go)) : ∀ d j, j + d = c + 1 → wX_inserted_27 post (nI i0) (nI c) (nI n) w L P wb wa en gr fk gc le go (d + 1) (lN (ph_sm (fun j => ph_tp (ph_f L P w) (ph_F (ph_f L P w) i0 j) 1 i0 j * ph_B (ph_f L P w) n c (i0 + 1) j 1) j)) (nI j) := by
  intro d
  induction d with
  | zero =>
    intro j hj
    obtain rfl : j = c + 1 := by omega
    exact br_t (nI_lt (by omega) (by omega)) h
  | succ d ih =>
    intro j hj
    refine br_f (nI_nlt (by omega) (by omega)) ?_
    exact ph_xwt (k := 1) hc hn hL hP hw (by omega) (by rw [ph_le1]; omega) (by rw [ph_co1]; omega) hB hA (nm_r (lN_add _ _) (nm_r (nI_1 j) (ih (j + 1) (by omega))))
end
