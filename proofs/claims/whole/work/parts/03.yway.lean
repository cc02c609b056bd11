/-! the reference walks from way to way -/
def ph_hs (st : Nat → Int32) : Nat → List Nat → Prop
  | _, [] => True
  | s, k :: t => st s = nI k ∧ ph_hs st (s + 1) t
section
variable {c n : Nat} {L P w : Nat → Int32}
theorem ph_may {post : Int32 → Prop} {i j k : Nat} {st : Nat → Int32} {sz : Int32} (hc : c ≤ 4) (hn : n ≤ 8) (hk : k < 3) (hi : i ≤ n) (hj : j ≤ c) (h : post (if i + ph_le k ≤ n ∧ j + ph_co k ≤ c then 1 else 0)) : wpY_mayTake post (nI c, nI n, sz, nI j, nI i, L, P, w, st) (nI k) := by
  rcases ph_k3 hk with rfl | rfl | rfl
  · rw [ph_le0, ph_co0] at h
    refine br_f (by decide) (pk_le c j (fun q => ?_) (fun q => br_f (by decide) (pk_le n i (fun q' => ?_) (fun q' => ?_))))
    · rw [if_neg (by omega)] at h; exact h
    · rw [if_neg (by omega)] at h; exact h
    · rw [if_pos (by omega)] at h; exact h
  · rw [ph_le1, ph_co1] at h
    refine br_t (by decide) (br_f (by decide) (pk_le n i (fun q' => ?_) (fun q' => ?_)))
    · rw [if_neg (by omega)] at h; exact h
    · rw [if_pos (by omega)] at h; exact h
  · rw [ph_le2, ph_co2] at h
    refine br_f (by decide) (pk_le c j (fun q => ?_) (fun q => br_t (by decide) ?_))
    · rw [if_neg (by omega)] at h; exact h
    · rw [if_pos (by omega)] at h; exact h
theorem ph_take {post : SY → Prop} {s i j k : Nat} {st : Nat → Int32} (hs : s < 12) (hk : k < 3) (h : post (nI c, nI n, nI (s + 1), nI (j + ph_co k), nI (i + ph_le k), L, P, w, upd st s (nI k))) : wpY_take post (nI c, nI n, nI s, nI j, nI i, L, P, w, st) (nI k) := by
  refine And.intro (vp_in_nI hs (by omega)) (nm_r (e' := upd st s (nI k)) (by rw [nI_clamp (by omega)]) (nm_r (nI_1 s) ?_))
  rcases ph_k3 hk with rfl | rfl | rfl
  · have h1 : post (nI c, nI n, nI (s + 1), nI j + 1, nI (i + 1), L, P, w, upd st s (nI 0)) := by rw [nI_1 j]; exact h
    exact br_f (by decide) (br_f (by decide) (nm_r (nI_1 i) h1))
  · exact br_t (by decide) (br_f (by decide) (nm_r (nI_1 i) h))
  · have h1 : post (nI c, nI n, nI (s + 1), nI j + 1, nI i, L, P, w, upd st s (nI 2)) := by rw [nI_1 j]; exact h
    exact br_f (by decide) (br_t (by decide) h1)
theorem ph_fill (hc : c ≤ 4) (hn : n ≤ 8) {post : SY → Prop} : ∀ (d a b s i j : Nat) (st : Nat → Int32), a + b ≤ d → i + a = n → j + b = c → s + a + b ≤ 12 → (∀ st' : Nat → Int32, (∀ x, x < s → st' x = st x) → ph_hs st' s (ph_hd a b) → post (nI c, nI n, nI (s + (ph_hd a b).length), nI c, nI n, L, P, w, st')) → wY_fill_0 post (d + 1) (nI c) (nI n) (nI s) (nI j) (nI i) L P w st := by
  intro d
  have h00 : ∀ (d s i j : Nat) (st : Nat → Int32), i + 0 = n → j + 0 = c → (∀ st' : Nat → Int32, (∀ x, x < s → st' x = st x) → ph_hs st' s (ph_hd 0 0) → post (nI c, nI n, nI (s + (ph_hd 0 0).length), nI c, nI n, L, P, w, st')) → wY_fill_0 post (d + 1) (nI c) (nI n) (nI s) (nI j) (nI i) L P w st := by
    intro d s i j st hi hj h
    obtain rfl : i = n := by omega
    obtain rfl : j = c := by omega
    exact br_f (nI_nlt (by omega) (by omega)) (br_t (nI_le (by omega) (by omega)) (h st (fun _ _ => rfl) trivial))
  induction d with
  | zero =>
    intro a b s i j st hd hi hj hs h
    obtain rfl : a = 0 := by omega
    obtain rfl : b = 0 := by omega
    exact h00 0 s i j st hi hj h
  | succ d ih =>
    intro a b s i j st hd hi hj hs h
    have key : ∀ k a' b', k < 3 → ph_hd a b = k :: ph_hd a' b' → a' + ph_le k = a → b' + ph_co k = b → wY_fill_47 post (wY_fill_0 post (d + 1)) (nI k) (nI c) (nI n) (nI s) (nI j) (nI i) L P w st := by
      intro k a' b' hk he ha hb
      have hlc := ph_lc k
      refine ph_take (by omega) hk ?_
      refine ih a' b' (s + 1) (i + ph_le k) (j + ph_co k) _ (by omega) (by omega) (by omega) (by omega) ?_
      intro st' h1 h2
      have e := h st' (fun x hx => (h1 x (by omega)).trans (pk_un (by omega)))
      rw [he] at e
      rw [Nat.add_assoc, Nat.add_comm 1]
      exact e ⟨(h1 s (by omega)).trans pk_us, h2⟩
    cases a with
    | zero =>
      cases b with
      | zero => exact h00 (d + 1) s i j st hi hj h
      | succ b =>
        refine br_t (nI_lt (by omega) (by omega)) ?_
        refine ph_may (k := 0) hc hn (by omega) (by omega) (by omega) ?_
        rw [ph_le0, ph_co0, if_neg (by omega)]
        refine br_t rfl ?_
        refine ph_may (k := 1) hc hn (by omega) (by omega) (by omega) ?_
        rw [ph_le1, ph_co1, if_neg (by omega)]
        exact br_t rfl (key 2 0 b (by omega) (ph_hd0b b) rfl rfl)
    | succ a =>
      cases b with
      | zero =>
        refine br_f (nI_nlt (by omega) (by omega)) (br_f (nI_ge (by omega) (by omega)) ?_)
        refine ph_may (k := 0) hc hn (by omega) (by omega) (by omega) ?_
        rw [ph_le0, ph_co0, if_neg (by omega)]
        refine br_t rfl ?_
        refine ph_may (k := 1) hc hn (by omega) (by omega) (by omega) ?_
        rw [ph_le1, ph_co1, if_pos (by omega)]
        exact br_f (by decide) (key 1 a 0 (by omega) (ph_hda0 a) rfl rfl)
      | succ b =>
        refine br_t (nI_lt (by omega) (by omega)) ?_
        refine ph_may (k := 0) hc hn (by omega) (by omega) (by omega) ?_
        rw [ph_le0, ph_co0, if_pos (by omega)]
        exact br_f (by decide) (key 0 a b (by omega) (ph_hdab a b) rfl rfl)
theorem ph_tf (hc : c ≤ 4) (hn : n ≤ 8) {post : Int32 → SY → Prop} {s i j k a b : Nat} {st : Nat → Int32} (hk : k < 3) (hi : i + ph_le k + a = n) (hj : j + ph_co k + b = c) (hs : s + 1 + a + b ≤ 12) (h : ∀ st' : Nat → Int32, (∀ x, x < s → st' x = st x) → ph_hs st' s (k :: ph_hd a b) → post 1 (nI c, nI n, nI (s + (k :: ph_hd a b).length), nI c, nI n, L, P, w, st')) : wpY_take (fun u => match u with | (f_columns_24, f_length_25, f_size_26, f_column_27, f_letters_28, a_likings_29, a_passages_30, a_word_31, a_steps_32) => (wpY_fill (fun u => match u with | (f_columns_34, f_length_35, f_size_36, f_column_37, f_letters_38, a_likings_39, a_passages_40, a_word_41, a_steps_42) => (post 1 (f_columns_34, f_length_35, f_size_36, f_column_37, f_letters_38, a_likings_39, a_passages_40, a_word_41, a_steps_42))) (f_columns_24, f_length_25, f_size_26, f_column_27, f_letters_28, a_likings_29, a_passages_30, a_word_31, a_steps_32))) (nI c, nI n, nI s, nI j, nI i, L, P, w, st) (nI k) := by
  refine ph_take (by omega) hk ?_
  refine Exists.intro (a + b + 1) (ph_fill hc hn (a + b) a b (s + 1) (i + ph_le k) (j + ph_co k) _ (Nat.le_refl _) (by omega) (by omega) (by omega) ?_)
  intro st' h1 h2
  have e := h st' (fun x hx => (h1 x (by omega)).trans (pk_un (by omega))) ⟨(h1 s (by omega)).trans pk_us, h2⟩
  rw [Nat.add_assoc, Nat.add_comm 1]
  exact e
theorem ph_first (hc : c ≤ 4) (hn : n ≤ 8) {post : SY → Prop} {st : Nat → Int32} {x y z : Int32} (h : ∀ st' : Nat → Int32, ph_hs st' 0 (ph_hd n c) → post (nI c, nI n, nI (ph_hd n c).length, nI c, nI n, L, P, w, st')) : wpY_firstWay post (nI c, nI n, x, y, z, L, P, w, st) := by
  refine Exists.intro (n + c + 1) (ph_fill hc hn (n + c) n c 0 0 0 st (Nat.le_refl _) (by omega) (by omega) (by omega) ?_)
  intro st' _ h2
  have e := h st' h2
  rw [Nat.zero_add]
  exact e
theorem ph_bt {post : Int32 → SY → Prop} {m s i j k : Nat} {st : Nat → Int32} (hs : s < 12) (hk : k < 3) (hst : st s = nI k) (h : ∃ n75, wY_nextWay_75 post (wY_nextWay_0 post (nI c) (nI n) L P w st m) (nI c) (nI n) (nI s) (nI j) (nI i) L P w st n75 (nI (k + 1))) : wY_nextWay_0 post (nI c) (nI n) L P w st (m + 1) (nI (s + 1)) (nI (j + ph_co k)) (nI (i + ph_le k)) := by
  refine br_f (nI_nle (by omega) (by omega)) (nm_r (nI_pred s) (And.intro (vp_in_nI hs (by omega)) (nm_r (e' := nI k) (by rw [nI_clamp (by omega)]; exact hst) ?_)))
  rcases ph_k3 hk with rfl | rfl | rfl
  · have e1 : nI (j + ph_co 0) - 1 = nI j := nI_pred j
    have e2 : nI (i + ph_le 0) - 1 = nI i := nI_pred i
    rw [e1]
    exact br_f (by decide) (br_f (by decide) (nm_r e2 (nm_r (nI_1 0) h)))
  · have e2 : nI (i + ph_le 1) - 1 = nI i := nI_pred i
    exact br_t (by decide) (br_f (by decide) (nm_r e2 (nm_r (nI_1 1) h)))
  · have e1 : nI (j + ph_co 2) - 1 = nI j := nI_pred j
    rw [e1]
    exact br_f (by decide) (br_t (by decide) (nm_r (nI_1 2) h))
theorem ph_nw (hc : c ≤ 4) (hn : n ≤ 8) {post : Int32 → SY → Prop} {st : Nat → Int32} : ∀ (q : List Nat) (a b i j s m : Nat), ph_vd a b q → ph_hs st s q → i + a = n → j + b = c → s + a + b ≤ 12 → (ph_nx a b q = none → wY_nextWay_0 post (nI c) (nI n) L P w st m (nI s) (nI j) (nI i)) → (∀ q', ph_nx a b q = some q' → ∀ st' : Nat → Int32, (∀ x, x < s → st' x = st x) → ph_hs st' s q' → post 1 (nI c, nI n, nI (s + q'.length), nI c, nI n, L, P, w, st')) → wY_nextWay_0 post (nI c) (nI n) L P w st (m + q.length) (nI (s + q.length)) (nI c) (nI n) := by
  intro q
  induction q with
  | nil =>
    intro a b i j s m hv hh hi hj hs h0 h1
    obtain ⟨rfl, rfl⟩ := hv
    obtain rfl : i = n := by omega
    obtain rfl : j = c := by omega
    exact h0 rfl
  | cons k q ih =>
    intro a b i j s m hv hh hi hj hs h0 h1
    obtain ⟨hk, hva, hvb, hv⟩ := hv
    have hlc := ph_lc k
    have e1 : s + (k :: q).length = (s + 1) + q.length := by rw [List.length_cons]; omega
    have e2 : m + (k :: q).length = (m + 1) + q.length := by rw [List.length_cons]; omega
    rw [e1, e2]
    refine ih (a - ph_le k) (b - ph_co k) (i + ph_le k) (j + ph_co k) (s + 1) (m + 1) hv hh.2 (by omega) (by omega) (by omega) ?_ ?_
    · intro hnn
      have hx := ph_nxN (a := a) (b := b) (k := k) hnn
      refine ph_bt (by omega) hk hh.1 ?_
      rcases ph_k3 hk with rfl | rfl | rfl
      · rw [if_pos rfl] at hx
        rw [ph_le0] at hva
        rw [ph_co0] at hvb
        refine ⟨1, br_f (by decide) (ph_may (k := 1) hc hn (by omega) (by omega) (by omega) ?_)⟩
        rw [ph_le1, ph_co1, if_pos (by omega)]
        exact br_f (by decide) (ph_tf (k := 1) (a := a - 1) (b := b) hc hn (by omega) (by rw [ph_le1]; omega) (by rw [ph_co1]; omega) (by omega) (h1 _ hx))
      · rw [if_neg (by omega)] at hx
        by_cases hb : 0 < b
        · rw [if_pos ⟨rfl, hb⟩] at hx
          refine ⟨1, br_f (by decide) (ph_may (k := 2) hc hn (by omega) (by omega) (by omega) ?_)⟩
          rw [ph_le2, ph_co2, if_pos (by omega)]
          exact br_f (by decide) (ph_tf (k := 2) (a := a) (b := b - 1) hc hn (by omega) (by rw [ph_le2]; omega) (by rw [ph_co2]; omega) (by omega) (h1 _ hx))
        · rw [if_neg (by omega)] at hx
          refine ⟨2, br_f (by decide) (ph_may (k := 2) hc hn (by omega) (by omega) (by omega) ?_)⟩
          rw [ph_le2, ph_co2, if_neg (by omega)]
          exact br_t rfl (nm_r (nI_1 2) (br_t (by decide) (h0 hx)))
      · rw [if_neg (by omega), if_neg (by omega)] at hx
        exact ⟨1, br_t (by decide) (h0 hx)⟩
    · intro q' hq' st' hb hh'
      have hx := ph_nxS (a := a) (b := b) (k := k) hq'
      have e := h1 _ hx st' (fun x hx => hb x (by omega)) ⟨(hb s (by omega)).trans hh.1, hh'⟩
      rw [List.length_cons] at e
      rw [Nat.add_assoc, Nat.add_comm 1]
      exact e
theorem ph_next (hc : c ≤ 4) (hn : n ≤ 8) {post : Int32 → SY → Prop} {st : Nat → Int32} {q : List Nat} (hv : ph_vd n c q) (hh : ph_hs st 0 q) (h0 : ph_nx n c q = none → post 0 (nI c, nI n, 0, 0, 0, L, P, w, st)) (h1 : ∀ q', ph_nx n c q = some q' → ∀ st' : Nat → Int32, ph_hs st' 0 q' → post 1 (nI c, nI n, nI q'.length, nI c, nI n, L, P, w, st')) : wpY_nextWay post (nI c, nI n, nI q.length, nI c, nI n, L, P, w, st) := by
  have e := ph_nw (L := L) (P := P) (w := w) (post := post) hc hn q n c 0 0 0 1 hv hh (by omega) (by omega) (by omega) (fun z => br_t (by decide) (h0 z)) (fun q' z st' _ hh' => by have := h1 q' z st' hh'; rw [Nat.zero_add]; exact this)
  rw [Nat.zero_add] at e
  exact Exists.intro _ e
end
