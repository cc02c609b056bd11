/-! the class's small methods, and its threefold loops -/
def ph_ix (i j p : Nat) : Nat := i * 15 + j * 3 + p
section
variable {c : Nat} {fl : Int32} {w L P : Nat → Int32} {wb wa : Nat → Int64} {en gr fk gc le go : Nat → Int32}
theorem ph_xlet {post : Int32 → Prop} {u : SX} {k : Nat} (hk : k < 3) (h : post (nI (ph_le k))) : wpX_lettersOf post u (nI k) := by
  obtain ⟨u1, u2, u3, u4, u5, u6, u7, u8, u9, u10, u11, u12, u13⟩ := u
  rcases ph_k3 hk with rfl | rfl | rfl
  · exact br_f (by decide) h
  · exact br_f (by decide) h
  · exact br_t (by decide) h
theorem ph_xcol {post : Int32 → Prop} {u : SX} {k : Nat} (hk : k < 3) (h : post (nI (ph_co k))) : wpX_columnsOf post u (nI k) := by
  obtain ⟨u1, u2, u3, u4, u5, u6, u7, u8, u9, u10, u11, u12, u13⟩ := u
  rcases ph_k3 hk with rfl | rfl | rfl
  · exact br_f (by decide) h
  · exact br_t (by decide) h
  · exact br_f (by decide) h
theorem ph_xcan {post : Int32 → Prop} {i j k m : Nat} (hk : k < 3) (hi : i ≤ 8) (hj : j ≤ 4) (hm : m ≤ 8) (hc : c ≤ 4) (h : post (if i + ph_le k ≤ m ∧ j + ph_co k ≤ c then 1 else 0)) : wpX_canStep post (nI c, fl, w, L, P, wb, wa, en, gr, fk, gc, le, go) (nI k) (nI i) (nI j) (nI m) := by
  have h1 := ph_leL k
  have h2 := ph_coL k
  unfold wpX_canStep
  dsimp only
  refine ph_xlet hk ?_
  refine pk_lt m (i + ph_le k) (fun q => ?_) (fun q => ?_) (hy := nI_add _ _)
  · rw [if_neg (by omega)] at h; exact h
  · refine ph_xcol hk ?_
    refine pk_lt c (j + ph_co k) (fun q => ?_) (fun q => ?_) (hy := nI_add _ _)
    · rw [if_neg (by omega)] at h; exact h
    · rw [if_pos (by omega)] at h; exact h
theorem ph_xpe (i j p : Nat) : nI i * 15 + nI j * 3 + nI p = nI (ph_ix i j p) := by
  rw [ph_n15, ph_n3, pk_mul, pk_mul, nI_add, nI_add]; rfl
theorem ph_xpt {post : Int32 → Prop} {u : SX} {i j p : Nat} (h : post (nI (ph_ix i j p))) : wpX_pointAt post u (nI i) (nI j) (nI p) := by
  obtain ⟨u1, u2, u3, u4, u5, u6, u7, u8, u9, u10, u11, u12, u13⟩ := u
  unfold wpX_pointAt
  dsimp only
  rw [ph_xpe]
  exact h
theorem ph_xpa {post : Int32 → Prop} {u : SX} {i j k : Nat} (hk : k < 3) (h : post (nI (ph_ix (i + ph_le k) (j + ph_co k) k))) : wpX_pointAfter post u (nI k) (nI i) (nI j) := by
  obtain ⟨u1, u2, u3, u4, u5, u6, u7, u8, u9, u10, u11, u12, u13⟩ := u
  unfold wpX_pointAfter
  dsimp only
  refine ph_xlet hk ?_
  refine nm_r (nI_add _ _) ?_
  refine ph_xcol hk ?_
  refine nm_r (nI_add _ _) ?_
  exact ph_xpt h
theorem ph_xend {post : Int32 → Prop} {i j m : Nat} (hi : i ≤ 8) (hj : j ≤ 4) (hm : m ≤ 8) (hc : c ≤ 4) (h : post (if i = m ∧ j = c then 1 else 0)) : wpX_isEnd post (nI c, fl, w, L, P, wb, wa, en, gr, fk, gc, le, go) (nI i) (nI j) (nI m) := by
  refine pk_eq i m (fun q => pk_eq j c (fun q' => ?_) (fun q' => ?_)) (fun q => ?_)
  · rw [if_pos ⟨q, q'⟩] at h; exact h
  · rw [if_neg (fun z => q' z.2)] at h; exact h
  · rw [if_neg (fun z => q z.1)] at h; exact h
theorem ph_xli (hL : ph_bd L 9) (hw : ph_bd w 3) {post : Int32 → Prop} {fc : Int32} {i j : Nat} (hi : i < 8) (hj : j < 4) (h : post (nI (ph_li L w i j))) : wpX_likingAt post (fc, fl, w, L, P, wb, wa, en, gr, fk, gc, le, go) (nI i) (nI j) := by
  obtain ⟨hwe, hw3⟩ := ph_bdv hw (by omega) i
  have iy : (nI j + 1) * 4 + w (nI i).toNatClampNeg = nI ((j + 1) * 4 + (w i).toNatClampNeg) := by
    rw [nI_clamp (by omega), nI_1, hwe, ph_i4', nI_clamp (by omega)]
  unfold wpX_likingAt
  dsimp only
  rw [iy, nI_clamp (by omega), ph_liL hL]
  exact ⟨vp_in_nI hi (by omega), vp_in_nI (by omega) (by omega), h⟩
theorem ph_xfac (hL : ph_bd L 9) (hP : ph_bd P 9) (hw : ph_bd w 3) {post : Int32 → Prop} {fc : Int32} {p k i j : Nat} (hp : p < 3) (hk : k < 3) (hk0 : k = 0 → i < 8 ∧ j < 4) (h : post (nI (ph_f L P w p k i j))) : wpX_factorOf post (fc, fl, w, L, P, wb, wa, en, gr, fk, gc, le, go) (nI p) (nI k) (nI i) (nI j) := by
  unfold wpX_factorOf
  dsimp only
  rw [ph_i3', nI_clamp (by omega), ph_paP hP]
  refine ⟨vp_in_nI (by omega) (by omega), nm_e (pk_eq k 0 (fun z => ?_) (fun z => ?_))⟩
  · subst z
    refine ph_xli hL hw (hk0 rfl).1 (hk0 rfl).2 ?_
    rw [ph_f, if_pos rfl] at h
    rw [pk_mul]
    exact h
  · rw [ph_f, if_neg z] at h
    exact h
theorem ph_xsco (hL : ph_bd L 9) (hP : ph_bd P 9) (hw : ph_bd w 3) {post : Int32 → Prop} {fc : Int32} {p k i j : Nat} (hp : p < 3) (hk : k < 3) (hk0 : k = 0 → i < 8 ∧ j < 4) (h : post (nI (ph_s L P w p k i j))) : wpX_scoreOf post (fc, fl, w, L, P, wb, wa, en, gr, fk, gc, le, go) (nI p) (nI k) (nI i) (nI j) := by
  unfold wpX_scoreOf
  dsimp only
  rw [ph_i3', nI_clamp (by omega), ph_paP hP]
  refine ⟨vp_in_nI (by omega) (by omega), nm_e (pk_eq k 0 (fun z => ?_) (fun z => ?_))⟩
  · subst z
    refine ph_xli hL hw (hk0 rfl).1 (hk0 rfl).2 ?_
    rw [ph_s, if_pos rfl] at h
    rw [nI_add]
    exact h
  · rw [ph_s, if_neg z] at h
    exact h
end
theorem ph_dn {σ : Type} {N C : Nat} (hN : N ≤ 8) (hC : C ≤ 4) (W1 : Nat → Int32 → σ → Prop) (W2 : Nat → Int32 → Nat → Int32 → σ → Prop) (W3 : Nat → Int32 → Nat → Int32 → Nat → Int32 → σ → Prop) (Post : σ → Prop) (I : Nat → Nat → Nat → σ → Prop)
    (h1x : ∀ m x s, x < 0 → Post s → W1 (m + 1) x s)
    (h1 : ∀ m x s, ¬ x < 0 → (∃ q, W2 m x q (nI C) s) → W1 (m + 1) x s)
    (h2x : ∀ m x q y s, y < 0 → W1 m (x + (-1)) s → W2 m x (q + 1) y s)
    (h2 : ∀ m x q y s, ¬ y < 0 → (∃ r, W3 m x q y r 0 s) → W2 m x (q + 1) y s)
    (h3x : ∀ m x q y r z s, 3 ≤ z → W2 m x q (y + (-1)) s → W3 m x q y (r + 1) z s)
    (h3 : ∀ m i q j r p s, i ≤ N → j ≤ C → p < 3 → I i j p s → (∀ s', I i j (p + 1) s' → W3 m (nI i) q (nI j) r (nI (p + 1)) s') → W3 m (nI i) q (nI j) (r + 1) (nI p) s)
    (t1 : ∀ i j s, i ≤ N → j + 1 ≤ C → I i (j + 1) 3 s → I i j 0 s)
    (t2 : ∀ i s, i + 1 ≤ N → I (i + 1) 0 3 s → I i C 0 s)
    (t3 : ∀ s, I 0 0 3 s → Post s) : ∀ s, I N C 0 s → ∃ m, W1 m (nI N) s := by
  have lp : ∀ m i q j, i ≤ N → j ≤ C → (∀ s, I i j 3 s → W2 m (nI i) q (nI j + (-1)) s) → ∀ d p s, p + d = 3 → I i j p s → W3 m (nI i) q (nI j) (d + 1) (nI p) s := by
    intro m i q j hi hj hk d
    induction d with
    | zero =>
      intro p s hp hI
      obtain rfl : p = 3 := by omega
      exact h3x _ _ _ _ _ _ _ (by decide) (hk s hI)
    | succ d ih =>
      intro p s hp hI
      exact h3 _ _ _ _ _ _ _ hi hj (by omega) hI (fun s' hI' => ih (p + 1) s' (by omega) hI')
  have lj : ∀ m i, i ≤ N → (∀ s, I i 0 3 s → W1 m (nI i + (-1)) s) → ∀ j, j ≤ C → ∀ s, I i j 0 s → W2 m (nI i) (j + 2) (nI j) s := by
    intro m i hi hk j
    induction j with
    | zero =>
      intro hj s hI
      exact h2 _ _ _ _ _ (by decide) ⟨4, lp m i 1 0 hi hj (fun s hs => h2x _ _ _ _ _ (by decide) (hk s hs)) 3 0 s rfl hI⟩
    | succ j ih =>
      intro hj s hI
      exact h2 _ _ _ _ _ (nI_pos (by omega)) ⟨4, lp m i (j + 2) (j + 1) hi hj (fun s hs => by rw [pk_m1]; exact ih (by omega) s (t1 i j s hi hj hs)) 3 0 s rfl hI⟩
  have li : ∀ i, i ≤ N → ∀ s, I i C 0 s → W1 (i + 2) (nI i) s := by
    intro i
    induction i with
    | zero =>
      intro hi s hI
      exact h1 _ _ _ (by decide) ⟨C + 2, lj 1 0 hi (fun s hs => h1x _ _ _ (by decide) (t3 s hs)) C (Nat.le_refl _) s hI⟩
    | succ i ih =>
      intro hi s hI
      exact h1 _ _ _ (nI_pos (by omega)) ⟨C + 2, lj (i + 2) (i + 1) hi (fun s hs => by rw [pk_m1]; exact ih (by omega) s (t2 i s hi hs)) C (Nat.le_refl _) s hI⟩
  intro s hI
  exact ⟨N + 2, li N (Nat.le_refl _) s hI⟩
theorem ph_up {σ : Type} {N C : Nat} (hN : N ≤ 8) (hC : C ≤ 4) (W1 : Nat → Int32 → σ → Prop) (W2 : Nat → Int32 → Nat → Int32 → σ → Prop) (W3 : Nat → Int32 → Nat → Int32 → Nat → Int32 → σ → Prop) (Post : σ → Prop) (I : Nat → Nat → Nat → σ → Prop)
    (h1x : ∀ m x s, nI N < x → Post s → W1 (m + 1) x s)
    (h1 : ∀ m x s, ¬ nI N < x → (∃ q, W2 m x q 0 s) → W1 (m + 1) x s)
    (h2x : ∀ m x q y s, nI C < y → W1 m (x + 1) s → W2 m x (q + 1) y s)
    (h2 : ∀ m x q y s, ¬ nI C < y → (∃ r, W3 m x q y r 0 s) → W2 m x (q + 1) y s)
    (h3x : ∀ m x q y r z s, 3 ≤ z → W2 m x q (y + 1) s → W3 m x q y (r + 1) z s)
    (h3 : ∀ m i q j r p s, i ≤ N → j ≤ C → p < 3 → I i j p s → (∀ s', I i j (p + 1) s' → W3 m (nI i) q (nI j) r (nI (p + 1)) s') → W3 m (nI i) q (nI j) (r + 1) (nI p) s)
    (t1 : ∀ i j s, i ≤ N → j ≤ C → I i j 3 s → I i (j + 1) 0 s)
    (t2 : ∀ i s, i ≤ N → I i (C + 1) 0 s → I (i + 1) 0 0 s)
    (t3 : ∀ s, I (N + 1) 0 0 s → Post s) : ∀ s, I 0 0 0 s → ∃ m, W1 m 0 s := by
  have lp : ∀ m i q j, i ≤ N → j ≤ C → (∀ s, I i j 3 s → W2 m (nI i) q (nI j + 1) s) → ∀ d p s, p + d = 3 → I i j p s → W3 m (nI i) q (nI j) (d + 1) (nI p) s := by
    intro m i q j hi hj hk d
    induction d with
    | zero =>
      intro p s hp hI
      obtain rfl : p = 3 := by omega
      exact h3x _ _ _ _ _ _ _ (by decide) (hk s hI)
    | succ d ih =>
      intro p s hp hI
      exact h3 _ _ _ _ _ _ _ hi hj (by omega) hI (fun s' hI' => ih (p + 1) s' (by omega) hI')
  have lj : ∀ m i, i ≤ N → (∀ s, I i (C + 1) 0 s → W1 m (nI i + 1) s) → ∀ d j, j + d = C + 1 → ∀ s, I i j 0 s → W2 m (nI i) (d + 1) (nI j) s := by
    intro m i hi hk d
    induction d with
    | zero =>
      intro j hj s hI
      obtain rfl : j = C + 1 := by omega
      exact h2x _ _ _ _ _ (nI_lt (by omega) (by omega)) (hk s hI)
    | succ d ih =>
      intro j hj s hI
      exact h2 _ _ _ _ _ (nI_nlt (by omega) (by omega)) ⟨4, lp m i (d + 1) j hi (by omega) (fun s hs => by rw [nI_1]; exact ih (j + 1) (by omega) s (t1 i j s hi (by omega) hs)) 3 0 s rfl hI⟩
  have li : ∀ d i, i + d = N + 1 → ∀ s, I i 0 0 s → W1 (d + 1) (nI i) s := by
    intro d
    induction d with
    | zero =>
      intro i hi s hI
      obtain rfl : i = N + 1 := by omega
      exact h1x _ _ _ (nI_lt (by omega) (by omega)) (t3 s hI)
    | succ d ih =>
      intro i hi s hI
      exact h1 _ _ _ (nI_nlt (by omega) (by omega)) ⟨C + 2, lj (d + 1) i (by omega) (fun s hs => by rw [nI_1]; exact ih (i + 1) (by omega) s (t2 i s (by omega) hs)) (C + 1) 0 (by omega) s hI⟩
  intro s hI
  exact ⟨N + 2, li (N + 1) 0 (by omega) s hI⟩
def ph_D {α : Type} (v : Nat → Nat → Nat → α) (N C i j p : Nat) (T : Nat → α) : Prop := ∀ i' j' p', i' ≤ N → j' ≤ C → p' < 3 → (i < i' ∨ (i = i' ∧ (j < j' ∨ (j = j' ∧ p' < p)))) → T (ph_ix i' j' p') = v i' j' p'
def ph_U {α : Type} (v : Nat → Nat → Nat → α) (N C i j p : Nat) (T : Nat → α) : Prop := ∀ i' j' p', i' ≤ N → j' ≤ C → p' < 3 → (i' < i ∨ (i = i' ∧ (j' < j ∨ (j = j' ∧ p' < p)))) → T (ph_ix i' j' p') = v i' j' p'
theorem ph_ixi {i j p i' j' p' : Nat} (hj : j ≤ 4) (hj' : j' ≤ 4) (hp : p < 3) (hp' : p' < 3) (h : ph_ix i' j' p' = ph_ix i j p) : i' = i ∧ j' = j ∧ p' = p := by
  unfold ph_ix at h; omega
theorem ph_ixb {i j p : Nat} (hi : i ≤ 8) (hj : j ≤ 4) (hp : p < 3) : ph_ix i j p < 135 := by
  unfold ph_ix; omega
section
variable {α : Type} {v : Nat → Nat → Nat → α} {N C : Nat}
theorem ph_Dt1 {i j : Nat} {T : Nat → α} (h : ph_D v N C i (j + 1) 3 T) : ph_D v N C i j 0 T := fun i' j' p' h1 h2 h3 h4 => h i' j' p' h1 h2 h3 (by omega)
theorem ph_Dt2 {i : Nat} {T : Nat → α} (h : ph_D v N C (i + 1) 0 3 T) : ph_D v N C i C 0 T := fun i' j' p' h1 h2 h3 h4 => h i' j' p' h1 h2 h3 (by omega)
theorem ph_Dt3 {T : Nat → α} (h : ph_D v N C 0 0 3 T) : ∀ i j p, i ≤ N → j ≤ C → p < 3 → T (ph_ix i j p) = v i j p := fun i' j' p' h1 h2 h3 => h i' j' p' h1 h2 h3 (by omega)
theorem ph_D0 {T : Nat → α} : ph_D v N C N C 0 T := fun i' j' p' h1 h2 h3 h4 => by omega
theorem ph_Ut1 {i j : Nat} {T : Nat → α} (h : ph_U v N C i j 3 T) : ph_U v N C i (j + 1) 0 T := fun i' j' p' h1 h2 h3 h4 => h i' j' p' h1 h2 h3 (by omega)
theorem ph_Ut2 {i : Nat} {T : Nat → α} (h : ph_U v N C i (C + 1) 0 T) : ph_U v N C (i + 1) 0 0 T := fun i' j' p' h1 h2 h3 h4 => h i' j' p' h1 h2 h3 (by omega)
theorem ph_Ut3 {T : Nat → α} (h : ph_U v N C (N + 1) 0 0 T) : ∀ i j p, i ≤ N → j ≤ C → p < 3 → T (ph_ix i j p) = v i j p := fun i' j' p' h1 h2 h3 => h i' j' p' h1 h2 h3 (by omega)
theorem ph_U0 {T : Nat → α} : ph_U v N C 0 0 0 T := fun i' j' p' h1 h2 h3 h4 => by omega
theorem ph_Dp {i j p : Nat} {T T' : Nat → α} (hC : C ≤ 4) (hj : j ≤ C) (hp : p < 3) (h : ph_D v N C i j p T) (h1 : T' (ph_ix i j p) = v i j p) (h2 : ∀ x, x ≠ ph_ix i j p → T' x = T x) : ph_D v N C i j (p + 1) T' := by
  intro i' j' p' a1 a2 a3 a4
  by_cases z : ph_ix i' j' p' = ph_ix i j p
  · obtain ⟨rfl, rfl, rfl⟩ := ph_ixi (by omega) (by omega) hp a3 z
    exact h1
  · rw [h2 _ z]
    refine h i' j' p' a1 a2 a3 ?_
    have : ¬ (i = i' ∧ j = j' ∧ p' = p) := fun q => z (by rw [q.1, q.2.1, q.2.2])
    omega
theorem ph_Up {i j p : Nat} {T T' : Nat → α} (hC : C ≤ 4) (hj : j ≤ C) (hp : p < 3) (h : ph_U v N C i j p T) (h1 : T' (ph_ix i j p) = v i j p) (h2 : ∀ x, x ≠ ph_ix i j p → T' x = T x) : ph_U v N C i j (p + 1) T' := by
  intro i' j' p' a1 a2 a3 a4
  by_cases z : ph_ix i' j' p' = ph_ix i j p
  · obtain ⟨rfl, rfl, rfl⟩ := ph_ixi (by omega) (by omega) hp a3 z
    exact h1
  · rw [h2 _ z]
    refine h i' j' p' a1 a2 a3 ?_
    have : ¬ (i = i' ∧ j = j' ∧ p' = p) := fun q => z (by rw [q.1, q.2.1, q.2.2])
    omega
end
