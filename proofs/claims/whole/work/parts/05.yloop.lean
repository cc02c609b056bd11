/-! the reference's loops over all ways -/
theorem ph_yl {A : Type} {c n : Nat} (W : Nat → A → Int32 → Int32 → Int32 → Int32 → (Nat → Int32) → Prop) (step : A → List Nat → A) (hstep : ∀ m a t st, ph_vd n c t → ph_hs st 0 t → (ph_nx n c t = none → W m (step a t) 0 0 0 0 st) → (∀ q', ph_nx n c t = some q' → ∀ st' : Nat → Int32, ph_hs st' 0 q' → W m (step a t) 1 (nI q'.length) (nI c) (nI n) st') → W (m + 1) a 1 (nI t.length) (nI c) (nI n) st) : ∀ (l : List (List Nat)) (t : List Nat) (a : A) (st : Nat → Int32), ph_ch (ph_nx n c) (t :: l) none → (∀ q, q ∈ t :: l → ph_vd n c q) → ph_hs st 0 t → (∀ m st', W (m + 1) ((t :: l).foldl step a) 0 0 0 0 st') → W (l.length + 2) a 1 (nI t.length) (nI c) (nI n) st := by
  intro l
  induction l with
  | nil =>
    intro t a st hc hv hh h
    refine hstep 1 a t st (hv t (List.mem_cons_self)) hh (fun _ => h 0 st) (fun q' hq => ?_)
    have h1 : ph_nx n c t = none := hc.1
    rw [h1] at hq
    exact nomatch hq
  | cons t' l ih =>
    intro t a st hc hv hh h
    have h1 : ph_nx n c t = some t' := hc.1
    refine hstep (l.length + 2) a t st (hv t (List.mem_cons_self)) hh (fun z => ?_) (fun q' hq st' hh' => ?_)
    · rw [h1] at z; exact nomatch z
    · rw [h1] at hq
      cases hq
      exact ih t' (step a t) st' hc.2 (fun q hq => hv q (List.mem_cons_of_mem _ hq)) hh' h
theorem ph_yl' {A : Type} {c n : Nat} (W : Nat → A → Int32 → Int32 → Int32 → Int32 → (Nat → Int32) → Prop) (step : A → List Nat → A) (hstep : ∀ m a t st, ph_vd n c t → ph_hs st 0 t → (ph_nx n c t = none → W m (step a t) 0 0 0 0 st) → (∀ q', ph_nx n c t = some q' → ∀ st' : Nat → Int32, ph_hs st' 0 q' → W m (step a t) 1 (nI q'.length) (nI c) (nI n) st') → W (m + 1) a 1 (nI t.length) (nI c) (nI n) st) (a : A) (st : Nat → Int32) (hh : ph_hs st 0 (ph_hd n c)) (h : ∀ m st', W (m + 1) ((ph_ways n c).foldl step a) 0 0 0 0 st') : ∃ m, W m a 1 (nI (ph_hd n c).length) (nI c) (nI n) st := by
  obtain ⟨l, e⟩ := ph_cons n c
  refine ⟨l.length + 2, ph_yl W step hstep l (ph_hd n c) a st ?_ ?_ hh ?_⟩
  · rw [← e]; exact ph_chw n c
  · rw [← e]; exact ph_vdw n c
  · rw [← e]; exact h
def ph_S (L P w : Nat → Int32) (n c : Nat) : Nat := (ph_ways n c).foldl (fun a t => a + ph_wt (ph_f L P w) 0 0 0 t) 0
def ph_Sw (L P w : Nat → Int32) (mk : Nat → Nat → Nat → Bool) (n c : Nat) : Nat := (ph_ways n c).foldl (fun a t => if ph_has mk 0 0 t then a + ph_wt (ph_f L P w) 0 0 0 t else a) 0
def ph_G (L P w : Nat → Int32) (x : Int32) (n c : Nat) : Int32 := (ph_ways n c).foldl (fun a t => if (x = -1 ∨ nI t.length = x) ∧ ¬ nI (ph_sc (ph_s L P w) 0 0 0 t) ≤ a then nI (ph_sc (ph_s L P w) 0 0 0 t) else a) (-4)
def ph_Ti (L P w : Nat → Int32) (x : Int32) (n c : Nat) : Int32 := (ph_ways n c).foldl (fun a t => if nI (ph_sc (ph_s L P w) 0 0 0 t) = x then a + 1 else a) 0
def ph_Wo (L P w : Nat → Int32) (n c : Nat) : Int32 := (ph_ways n c).foldl (fun a t => if a ≤ nI (ph_sc (ph_s L P w) 0 0 0 t) then a else nI (ph_sc (ph_s L P w) 0 0 0 t)) 1000000
theorem ph_fp {α : Type} {p : α → Bool} {q : α} {l : List α} (h : p q = true) : (q :: l).find? p = some q := by
  rw [List.find?, h]
theorem ph_fn {α : Type} {p : α → Bool} {q : α} {l : List α} (h : p q = false) : (q :: l).find? p = l.find? p := by
  rw [List.find?, h]
section
variable {c n : Nat} {L P w : Nat → Int32}
theorem ph_ysum (hc : c ≤ 4) (hn : n ≤ 8) (hL : ph_bd L 9) (hP : ph_bd P 9) (hw : ph_bd w 3) {post : Int64 → SY → Prop} {x y z : Int32} {st : Nat → Int32} (h : ∀ st', post (lN (ph_S L P w n c)) (nI c, nI n, 0, 0, 0, L, P, w, st')) : wpY_sum post (nI c, nI n, x, y, z, L, P, w, st) := by
  unfold wpY_sum
  dsimp only
  refine ph_first hc hn (fun st' hh => ?_)
  exact ph_yl' (fun m a r sz co le st => wY_sum_8 post m (lN a) r (nI c) (nI n) sz co le L P w st) (fun a t => a + ph_wt (ph_f L P w) 0 0 0 t) (fun m a t st hv hh h0 h1 => br_f (by decide) (ph_ywt hc hn hL hP hw hv hh (nm_r (lN_add _ _) (ph_next hc hn hv hh h0 h1)))) 0 st' hh (fun m st' => br_t rfl (h st'))
theorem ph_ysw (hc : c ≤ 4) (hn : n ≤ 8) (hL : ph_bd L 9) (hP : ph_bd P 9) (hw : ph_bd w 3) {post : Int64 → SY → Prop} {x y z jx ix : Int32} {ka : Nat} {st : Nat → Int32} (hka : ka < 3) (h : ∀ st', post (lN (ph_Sw L P w (ph_mk ka jx ix) n c)) (nI c, nI n, 0, 0, 0, L, P, w, st')) : wpY_sumWith post (nI c, nI n, x, y, z, L, P, w, st) (nI ka) jx ix := by
  unfold wpY_sumWith
  dsimp only
  refine ph_first hc hn (fun st' hh => ?_)
  refine ph_yl' (fun m a r sz co le st => wY_sumWith_10 post (nI ka) jx ix m (lN a) r (nI c) (nI n) sz co le L P w st) (fun a t => if ph_has (ph_mk ka jx ix) 0 0 t then a + ph_wt (ph_f L P w) 0 0 0 t else a) (fun m a t st hv hh h0 h1 => br_f (by decide) (ph_yhs hc hn hka hv hh ?_)) 0 st' hh (fun m st' => br_t rfl (h st'))
  by_cases hs : ph_has (ph_mk ka jx ix) 0 0 t = true
  · simp only [if_pos hs] at h0 h1
    rw [if_pos hs]
    exact br_f (by decide) (ph_ywt hc hn hL hP hw hv hh (nm_r (lN_add _ _) (ph_next hc hn hv hh h0 h1)))
  · simp only [if_neg hs] at h0 h1
    rw [if_neg hs]
    exact br_t rfl (ph_next hc hn hv hh h0 h1)
theorem ph_yways (hc : c ≤ 4) (hn : n ≤ 8) {post : Int32 → SY → Prop} {x y z : Int32} {st : Nat → Int32} (h : ∀ st', post (nI ((ph_ways n c).foldl (fun a _ => a + 1) 0)) (nI c, nI n, 0, 0, 0, L, P, w, st')) : wpY_ways post (nI c, nI n, x, y, z, L, P, w, st) := by
  unfold wpY_ways
  dsimp only
  refine ph_first hc hn (fun st' hh => ?_)
  exact ph_yl' (fun m a r sz co le st => wY_ways_8 post m (nI a) r (nI c) (nI n) sz co le L P w st) (fun a _ => a + 1) (fun m a t st hv hh h0 h1 => br_f (by decide) (nm_r (nI_1 a) (ph_next hc hn hv hh h0 h1))) 0 st' hh (fun m st' => br_t rfl (h st'))
theorem ph_ygr (hc : c ≤ 4) (hn : n ≤ 8) (hL : ph_bd L 9) (hP : ph_bd P 9) (hw : ph_bd w 3) {post : Int32 → SY → Prop} {x y z sx : Int32} {st : Nat → Int32} (h : ∀ st', post (ph_G L P w sx n c) (nI c, nI n, 0, 0, 0, L, P, w, st')) : wpY_greatest post (nI c, nI n, x, y, z, L, P, w, st) sx := by
  unfold wpY_greatest
  dsimp only
  refine ph_first hc hn (fun st' hh => ?_)
  refine ph_yl' (fun m a r sz co le st => wY_greatest_9 post sx m a r (nI c) (nI n) sz co le L P w st) (fun a t => if (sx = -1 ∨ nI t.length = sx) ∧ ¬ nI (ph_sc (ph_s L P w) 0 0 0 t) ≤ a then nI (ph_sc (ph_s L P w) 0 0 0 t) else a) (fun m a t st hv hh h0 h1 => br_f (by decide) (ph_zsc hc hn hL hP hw hv hh ?_)) (-4) st' hh (fun m st' => br_t rfl (h st'))
  have h32 : (sx = -1 ∨ nI t.length = sx) → wY_greatest_32 post (wY_greatest_9 post sx m) sx a (nI (ph_sc (ph_s L P w) 0 0 0 t)) (nI c) (nI n) (nI t.length) (nI c) (nI n) L P w st := by
    intro hx
    refine br_c (fun q => ?_) (fun q => ?_)
    · simp only [if_neg (fun z : (sx = -1 ∨ nI t.length = sx) ∧ ¬ nI (ph_sc (ph_s L P w) 0 0 0 t) ≤ a => z.2 q)] at h0 h1
      exact ph_next hc hn hv hh h0 h1
    · simp only [if_pos (And.intro hx q)] at h0 h1
      exact ph_next hc hn hv hh h0 h1
  refine br_c (fun q => h32 (Or.inl q)) (fun q => br_c (fun q' => h32 (Or.inr q')) (fun q' => ?_))
  simp only [if_neg (fun z : (sx = -1 ∨ nI t.length = sx) ∧ ¬ nI (ph_sc (ph_s L P w) 0 0 0 t) ≤ a => z.1.elim q q')] at h0 h1
  exact ph_next hc hn hv hh h0 h1
theorem ph_yti (hc : c ≤ 4) (hn : n ≤ 8) (hL : ph_bd L 9) (hP : ph_bd P 9) (hw : ph_bd w 3) {post : Int32 → SY → Prop} {x y z : Int32} {st : Nat → Int32} (h : ∀ st', post (ph_Ti L P w (ph_G L P w (-1) n c) n c) (nI c, nI n, 0, 0, 0, L, P, w, st')) : wpY_ties post (nI c, nI n, x, y, z, L, P, w, st) := by
  unfold wpY_ties wpY_best
  dsimp only
  refine ph_ygr hc hn hL hP hw (fun st' => ?_)
  refine ph_first hc hn (fun st' hh => ?_)
  refine ph_yl' (fun m a r sz co le st => wY_ties_13 post (ph_G L P w (-1) n c) m a r (nI c) (nI n) sz co le L P w st) (fun a t => if nI (ph_sc (ph_s L P w) 0 0 0 t) = (ph_G L P w (-1) n c) then a + 1 else a) (fun m a t st hv hh h0 h1 => br_f (by decide) (ph_zsc hc hn hL hP hw hv hh (br_c (fun q => ?_) (fun q => ?_)))) 0 st' hh (fun m st' => br_t rfl (h st'))
  · simp only [if_pos q] at h0 h1
    exact ph_next hc hn hv hh h0 h1
  · simp only [if_neg q] at h0 h1
    exact ph_next hc hn hv hh h0 h1
theorem ph_ywo (hc : c ≤ 4) (hn : n ≤ 8) (hL : ph_bd L 9) (hP : ph_bd P 9) (hw : ph_bd w 3) {post : Int32 → SY → Prop} {x y z : Int32} {st : Nat → Int32} (h : ∀ st', post (ph_Wo L P w n c) (nI c, nI n, 0, 0, 0, L, P, w, st')) : wpY_worst post (nI c, nI n, x, y, z, L, P, w, st) := by
  unfold wpY_worst
  dsimp only
  refine ph_first hc hn (fun st' hh => ?_)
  refine ph_yl' (fun m a r sz co le st => wY_worst_9 post m a r (nI c) (nI n) sz co le L P w st) (fun a t => if a ≤ nI (ph_sc (ph_s L P w) 0 0 0 t) then a else nI (ph_sc (ph_s L P w) 0 0 0 t)) (fun m a t st hv hh h0 h1 => br_f (by decide) (ph_zsc hc hn hL hP hw hv hh (br_c (fun q => ?_) (fun q => ?_)))) 1000000 st' hh (fun m st' => br_t rfl (h st'))
  · simp only [if_pos q] at h0 h1
    exact ph_next hc hn hv hh h0 h1
  · simp only [if_neg q] at h0 h1
    exact ph_next hc hn hv hh h0 h1
theorem ph_yb11 (hc : c ≤ 4) (hn : n ≤ 8) (hL : ph_bd L 9) (hP : ph_bd P 9) (hw : ph_bd w 3) {post : Int32 → SY → Prop} {x1 mo : Int32} {t : List Nat} (h : ∀ st', ph_hs st' 0 t → wY_bestStep_31 post x1 (nI c) (nI n) (nI t.length) (nI c) (nI n) L P w st') : ∀ (l : List (List Nat)) (q : List Nat) (st : Nat → Int32), ph_ch (ph_nx n c) (q :: l) none → (∀ r, r ∈ q :: l → ph_vd n c r) → ph_hs st 0 q → (q :: l).find? (fun r => decide (mo ≤ nI (ph_sc (ph_s L P w) 0 0 0 r))) = some t → wY_bestStep_11 post x1 mo (l.length + 1) 1 (nI c) (nI n) (nI q.length) (nI c) (nI n) L P w st := by
  intro l
  induction l with
  | nil =>
    intro q st hch hv hh hf
    refine br_f (by decide) (ph_zsc hc hn hL hP hw (hv q List.mem_cons_self) hh (br_c (fun z => ?_) (fun z => ?_)))
    · rw [ph_fp (p := fun r => decide (mo ≤ nI (ph_sc (ph_s L P w) 0 0 0 r))) (decide_eq_true z)] at hf
      cases hf
      exact h st hh
    · rw [ph_fn (p := fun r => decide (mo ≤ nI (ph_sc (ph_s L P w) 0 0 0 r))) (decide_eq_false z)] at hf
      exact nomatch hf
  | cons q' l ih =>
    intro q st hch hv hh hf
    refine br_f (by decide) (ph_zsc hc hn hL hP hw (hv q List.mem_cons_self) hh (br_c (fun z => ?_) (fun z => ?_)))
    · rw [ph_fp (p := fun r => decide (mo ≤ nI (ph_sc (ph_s L P w) 0 0 0 r))) (decide_eq_true z)] at hf
      cases hf
      exact h st hh
    · rw [ph_fn (p := fun r => decide (mo ≤ nI (ph_sc (ph_s L P w) 0 0 0 r))) (decide_eq_false z)] at hf
      have h1 : ph_nx n c q = some q' := hch.1
      refine ph_next hc hn (hv q List.mem_cons_self) hh (fun z => ?_) (fun r hr st' hh' => ?_)
      · rw [h1] at z; exact nomatch z
      · rw [h1] at hr
        cases hr
        exact ih q' st' hch.2 (fun r hr => hv r (List.mem_cons_of_mem _ hr)) hh' hf
theorem ph_ybs (hc : c ≤ 4) (hn : n ≤ 8) (hL : ph_bd L 9) (hP : ph_bd P 9) (hw : ph_bd w 3) {post : Int32 → SY → Prop} {x y z x1 : Int32} {st : Nat → Int32} {t : List Nat} (hf : (ph_ways n c).find? (fun r => decide (ph_G L P w (-1) n c ≤ nI (ph_sc (ph_s L P w) 0 0 0 r))) = some t) (h : ∀ st', ph_hs st' 0 t → wY_bestStep_31 post x1 (nI c) (nI n) (nI t.length) (nI c) (nI n) L P w st') : wpY_bestStep post (nI c, nI n, x, y, z, L, P, w, st) x1 := by
  unfold wpY_bestStep wpY_best
  dsimp only
  refine ph_ygr hc hn hL hP hw (fun st' => ?_)
  refine ph_first hc hn (fun st' hh => ?_)
  obtain ⟨l, e⟩ := ph_cons n c
  refine Exists.intro (l.length + 1) (ph_yb11 hc hn hL hP hw h l (ph_hd n c) st' ?_ ?_ hh ?_)
  · rw [← e]; exact ph_chw n c
  · rw [← e]; exact ph_vdw n c
  · rw [← e]; exact hf
end
def ph_ww (w : Nat → Int32) (n : Nat) : Nat → Nat → Int32
  | 0 => w
  | a + 1 => upd (ph_ww w n a) n (nI a)
def ph_ns (L P w : Nat → Int32) (n c : Nat) : Nat → Nat
  | 0 => 0
  | a + 1 => ph_ns L P w n c a + ph_S L P (ph_ww w n (a + 1)) (n + 1) c
theorem ph_bdu {f : Nat → Int32} {b k a : Nat} (h : ph_bd f b) (ha : a ≤ b) : ph_bd (upd f k (nI a)) b := by
  intro x
  by_cases z : x = k
  · subst z; exact ⟨a, ha, pk_us⟩
  · rw [pk_un z]; exact h x
theorem ph_bdw {w : Nat → Int32} (hw : ph_bd w 3) (n : Nat) : ∀ a, a ≤ 4 → ph_bd (ph_ww w n a) 3 := by
  intro a
  induction a with
  | zero => intro _; exact hw
  | succ a ih => intro h; exact ph_bdu (ih (by omega)) (by omega)
section
variable {c n : Nat} {L P w : Nat → Int32}
theorem ph_ynx (hc : c ≤ 4) (hn : n ≤ 7) (hL : ph_bd L 9) (hP : ph_bd P 9) (hw : ph_bd w 3) {post : Int64 → SY → Prop} (h : ∀ x y z st', post (lN (ph_ns L P w n c 4)) (nI c, nI n, x, y, z, L, P, ph_ww w n 4, st')) : ∀ (d a : Nat) (x y z : Int32) (st : Nat → Int32), a + d = 4 → wY_next_14 post (d + 1) (lN (ph_ns L P w n c a)) (nI a) (nI c) (nI (n + 1)) x y z L P (ph_ww w n a) st := by
  intro d
  induction d with
  | zero =>
    intro a x y z st ha
    obtain rfl : a = 4 := by omega
    exact br_t (by decide) (nm_r (nI_pred n) (h x y z st))
  | succ d ih =>
    intro a x y z st ha
    refine br_f (nI_ge (b := 4) (by omega) (by decide)) (And.intro ?_ (nm_r (e' := ph_ww w n (a + 1)) ?_ ?_))
    · rw [nI_pred]; exact vp_in_nI (by omega) (by omega)
    · rw [nI_pred, nI_clamp (by omega)]; rfl
    · exact ph_ysum hc (by omega) hL hP (ph_bdw hw n (a + 1) (by omega)) (fun st' => nm_r (lN_add _ _) (nm_r (nI_1 a) (ih (a + 1) 0 0 0 st' (by omega))))
theorem ph_ynext (hc : c ≤ 4) (hn : n ≤ 7) (hL : ph_bd L 9) (hP : ph_bd P 9) (hw : ph_bd w 3) {post : Int64 → SY → Prop} {x y z : Int32} {st : Nat → Int32} (h : ∀ x y z st', post (lN (ph_ns L P w n c 4)) (nI c, nI n, x, y, z, L, P, ph_ww w n 4, st')) : wpY_next post (nI c, nI n, x, y, z, L, P, w, st) := by
  exact nm_r (nI_1 n) (Exists.intro 5 (ph_ynx hc hn hL hP hw h 4 0 x y z st rfl))
end
