/-! greatest, least and first of the scores, as folds -/
def ph_om : Option Nat → Option Nat → Option Nat
  | none, y => y
  | some a, none => some a
  | some a, some b => if b ≤ a then some a else some b
def ph_on : Option Nat → Option Nat → Option Nat
  | none, y => y
  | some a, none => some a
  | some a, some b => if a ≤ b then some a else some b
def ph_e1 : Option Nat → Int32
  | none => -4
  | some m => nI m
theorem ph_omr (x : Option Nat) : ph_om x none = x := by cases x <;> rfl
theorem ph_onr (x : Option Nat) : ph_on x none = x := by cases x <;> rfl
theorem ph_om2 (a b : Nat) : ph_om (some a) (some b) = some (max a b) := by
  show (if b ≤ a then some a else some b) = _
  split
  · next h => rw [Nat.max_eq_left h]
  · next h => rw [Nat.max_eq_right (by omega)]
theorem ph_oma (x y z : Option Nat) : ph_om (ph_om x y) z = ph_om x (ph_om y z) := by
  cases x with
  | none => rfl
  | some a =>
    cases y with
    | none => rfl
    | some b =>
      cases z with
      | none => rw [ph_omr, ph_omr]
      | some d => rw [ph_om2, ph_om2, ph_om2, ph_om2, Nat.max_assoc]
theorem ph_on2 (a b : Nat) : ph_on (some a) (some b) = some (min a b) := by
  show (if a ≤ b then some a else some b) = _
  split
  · next h => rw [Nat.min_eq_left h]
  · next h => rw [Nat.min_eq_right (by omega)]
theorem ph_ona (x y z : Option Nat) : ph_on (ph_on x y) z = ph_on x (ph_on y z) := by
  cases x with
  | none => rfl
  | some a =>
    cases y with
    | none => rfl
    | some b =>
      cases z with
      | none => rw [ph_onr, ph_onr]
      | some d => rw [ph_on2, ph_on2, ph_on2, ph_on2, Nat.min_assoc]
def ph_aM (f : Nat → Nat → Nat → Nat → Nat) (p k i j : Nat) (x : Option Nat) : Option Nat := x.map (fun m => f p k i j + m)
theorem ph_omd (f : Nat → Nat → Nat → Nat → Nat) (p k i j : Nat) (x y : Option Nat) : ph_aM f p k i j (ph_om x y) = ph_om (ph_aM f p k i j x) (ph_aM f p k i j y) := by
  cases x with
  | none => rfl
  | some a =>
    cases y with
    | none => rfl
    | some b =>
      simp only [ph_om, ph_aM, Option.map_some]
      split <;> split <;> first | rfl | (exfalso; omega)
theorem ph_ond (f : Nat → Nat → Nat → Nat → Nat) (p k i j : Nat) (x y : Option Nat) : ph_aM f p k i j (ph_on x y) = ph_on (ph_aM f p k i j x) (ph_aM f p k i j y) := by
  cases x with
  | none => rfl
  | some a =>
    cases y with
    | none => rfl
    | some b =>
      simp only [ph_on, ph_aM, Option.map_some]
      split <;> split <;> first | rfl | (exfalso; omega)
theorem ph_lawN (f : Nat → Nat → Nat → Nat → Nat) : ph_law ph_on none (ph_aM f) := ⟨ph_ona, fun _ => rfl, ph_onr, ph_ond f, fun _ _ _ _ => rfl⟩
/-! by length -/
def ph_oF (x y : Nat → Option Nat) (r : Nat) : Option Nat := ph_om (x r) (y r)
def ph_eF (_ : Nat) : Option Nat := none
def ph_gF (r : Nat) : Option Nat := if r = 0 then some 0 else none
def ph_aF (f : Nat → Nat → Nat → Nat → Nat) (p k i j : Nat) (x : Nat → Option Nat) : Nat → Option Nat
  | 0 => none
  | r + 1 => ph_aM f p k i j (x r)
theorem ph_lawF (f : Nat → Nat → Nat → Nat → Nat) : ph_law ph_oF ph_eF (ph_aF f) := by
  refine ⟨fun x y z => funext fun r => ph_oma _ _ _, fun x => rfl, fun x => funext fun r => ph_omr _, fun p k i j x y => funext fun r => ?_, fun p k i j => funext fun r => ?_⟩
  · cases r with
    | zero => rfl
    | succ r => exact ph_omd f p k i j _ _
  · cases r <;> rfl
theorem ph_gvF (f : Nat → Nat → Nat → Nat → Nat) : ∀ (t : List Nat) (i j p r : Nat), ph_gv ph_gF (ph_aF f) i j p t r = if t.length = r then some (ph_sc f i j p t) else none := by
  intro t
  induction t with
  | nil =>
    intro i j p r
    show (if r = 0 then some 0 else none) = if 0 = r then some 0 else none
    by_cases z : r = 0
    · rw [if_pos z, if_pos z.symm]
    · rw [if_neg z, if_neg (fun q => z q.symm)]
  | cons k t ih =>
    intro i j p r
    cases r with
    | zero => rw [List.length_cons, if_neg (by omega)]; rfl
    | succ r =>
      show ph_aM f p k i j (ph_gv ph_gF (ph_aF f) (i + ph_le k) (j + ph_co k) k t r) = _
      rw [ih, List.length_cons]
      by_cases z : t.length = r
      · rw [if_pos z, if_pos (by omega)]; rfl
      · rw [if_neg z, if_neg (by omega)]; rfl
theorem ph_gvN (f : Nat → Nat → Nat → Nat → Nat) : ∀ (t : List Nat) (i j p : Nat), ph_gv (some 0) (ph_aM f) i j p t = some (ph_sc f i j p t) := by
  intro t
  induction t with
  | nil => intro i j p; rfl
  | cons k t ih =>
    intro i j p
    show ph_aM f p k i j (ph_gv (some 0) (ph_aM f) (i + ph_le k) (j + ph_co k) k t) = _
    rw [ih]; rfl
/-! records: greatest score, the first way that has it, how many have it -/
def ph_ro : Option (Nat × List Nat × Nat) → Option (Nat × List Nat × Nat) → Option (Nat × List Nat × Nat)
  | none, y => y
  | some x, none => some x
  | some x, some y => if x.1 < y.1 then some y else if y.1 = x.1 then some (x.1, x.2.1, x.2.2 + y.2.2) else some x
def ph_aR (f : Nat → Nat → Nat → Nat → Nat) (p k i j : Nat) (x : Option (Nat × List Nat × Nat)) : Option (Nat × List Nat × Nat) := x.map (fun y => (f p k i j + y.1, k :: y.2.1, y.2.2))
theorem ph_ror (x : Option (Nat × List Nat × Nat)) : ph_ro x none = x := by cases x <;> rfl
theorem ph_roa (x y z : Option (Nat × List Nat × Nat)) : ph_ro (ph_ro x y) z = ph_ro x (ph_ro y z) := by
  cases x with
  | none => rfl
  | some a =>
    cases y with
    | none => rfl
    | some b =>
      cases z with
      | none => rw [ph_ror, ph_ror]
      | some d =>
        obtain ⟨a1, a2, a3⟩ := a
        obtain ⟨b1, b2, b3⟩ := b
        obtain ⟨d1, d2, d3⟩ := d
        rcases Nat.lt_trichotomy a1 b1 with h1 | h1 | h1 <;> rcases Nat.lt_trichotomy b1 d1 with h2 | h2 | h2 <;> rcases Nat.lt_trichotomy a1 d1 with h3 | h3 | h3 <;> first
          | (exfalso; omega)
          | (simp only [ph_ro]
             repeat (first | rw [if_pos (by omega)] | rw [if_neg (by omega)] | simp only [ph_ro])
             try first | rfl | (rw [Nat.add_assoc]))
theorem ph_rod (f : Nat → Nat → Nat → Nat → Nat) (p k i j : Nat) (x y : Option (Nat × List Nat × Nat)) : ph_aR f p k i j (ph_ro x y) = ph_ro (ph_aR f p k i j x) (ph_aR f p k i j y) := by
  cases x with
  | none => rfl
  | some a =>
    cases y with
    | none => rfl
    | some b =>
      obtain ⟨a1, a2, a3⟩ := a
      obtain ⟨b1, b2, b3⟩ := b
      simp only [ph_ro, ph_aR, Option.map_some]
      rcases Nat.lt_trichotomy a1 b1 with h1 | h1 | h1
      · rw [if_pos h1, if_pos (by omega)]; rfl
      · rw [if_neg (by omega), if_pos h1.symm, if_neg (by omega), if_pos (by omega)]; rfl
      · rw [if_neg (by omega), if_neg (by omega), if_neg (by omega), if_neg (by omega)]; rfl
theorem ph_lawR (f : Nat → Nat → Nat → Nat → Nat) : ph_law ph_ro none (ph_aR f) := ⟨ph_roa, fun _ => rfl, ph_ror, ph_rod f, fun _ _ _ _ => rfl⟩
theorem ph_gvR (f : Nat → Nat → Nat → Nat → Nat) : ∀ (t : List Nat) (i j p : Nat), ph_gv (some (0, [], 1)) (ph_aR f) i j p t = some (ph_sc f i j p t, t, 1) := by
  intro t
  induction t with
  | nil => intro i j p; rfl
  | cons k t ih =>
    intro i j p
    show ph_aR f p k i j (ph_gv (some (0, [], 1)) (ph_aR f) (i + ph_le k) (j + ph_co k) k t) = _
    rw [ih]; rfl
theorem ph_Rc (sc : List Nat → Nat) : ∀ (l : List (List Nat)), l ≠ [] → ∃ s t d, ph_lf ph_ro none (fun q => some (sc q, q, 1)) l = some (s, t, d) ∧ (∀ q, q ∈ l → sc q ≤ s) ∧ l.find? (fun r => decide (s ≤ sc r)) = some t ∧ l.countP (fun r => decide (sc r = s)) = d ∧ sc t = s ∧ t ∈ l := by
  intro l
  induction l with
  | nil => intro h; exact absurd rfl h
  | cons q l ih =>
    intro _
    cases l with
    | nil =>
      refine ⟨sc q, q, 1, rfl, ?_, ph_fp (decide_eq_true (Nat.le_refl _)), ?_, rfl, List.mem_cons_self⟩
      · intro r hr
        rw [List.mem_singleton] at hr
        rw [hr]; exact Nat.le_refl _
      · rw [List.countP_cons_of_pos (by simp)]; rfl
    | cons q' l' =>
      obtain ⟨s, t, d, h1, h2, h3, h4, h5, h6⟩ := ih (List.cons_ne_nil _ _)
      generalize q' :: l' = l at h1 h2 h3 h4 h6 ⊢
      have e : ph_lf ph_ro none (fun q => some (sc q, q, 1)) (q :: l) = ph_ro (some (sc q, q, 1)) (some (s, t, d)) := by
        show ph_ro (some (sc q, q, 1)) _ = _
        rw [h1]
      rw [e]
      rcases Nat.lt_trichotomy (sc q) s with z | z | z
      · refine ⟨s, t, d, if_pos z, ?_, ?_, ?_, h5, List.mem_cons_of_mem _ h6⟩
        · intro r hr
          rcases List.mem_cons.mp hr with rfl | hr
          · omega
          · exact h2 r hr
        · rw [ph_fn (p := fun r => decide (s ≤ sc r)) (decide_eq_false (by omega))]; exact h3
        · rw [List.countP_cons_of_neg (by rw [decide_eq_true_eq]; omega)]; exact h4
      · refine ⟨sc q, q, 1 + d, (if_neg (by show ¬ sc q < s; omega)).trans (if_pos z.symm), ?_, ph_fp (decide_eq_true (Nat.le_refl _)), ?_, rfl, List.mem_cons_self⟩
        · intro r hr
          rcases List.mem_cons.mp hr with rfl | hr
          · exact Nat.le_refl _
          · have := h2 r hr; omega
        · rw [List.countP_cons_of_pos (by simp), z, h4, Nat.add_comm]
      · refine ⟨sc q, q, 1, (if_neg (by show ¬ sc q < s; omega)).trans (if_neg (by show ¬ s = sc q; omega)), ?_, ph_fp (decide_eq_true (Nat.le_refl _)), ?_, rfl, List.mem_cons_self⟩
        · intro r hr
          rcases List.mem_cons.mp hr with rfl | hr
          · exact Nat.le_refl _
          · have := h2 r hr; omega
        · rw [List.countP_cons_of_pos (by simp)]
          have : l.countP (fun r => decide (sc r = sc q)) = 0 := by
            rw [List.countP_eq_zero]
            intro r hr
            have := h2 r hr
            rw [decide_eq_true_eq]; omega
          rw [this]
/-! bounds -/
theorem ph_sc18 {f : Nat → Nat → Nat → Nat → Nat} (hf : ∀ p k i j, f p k i j ≤ 18) : ∀ (t : List Nat) (i j p : Nat), ph_sc f i j p t ≤ 18 * t.length := by
  intro t
  induction t with
  | nil => intro i j p; exact Nat.zero_le _
  | cons k t ih =>
    intro i j p
    have h1 := hf p k i j
    have h2 := ih (i + ph_le k) (j + ph_co k) k
    rw [ph_sc, List.length_cons]
    omega
theorem ph_sc216 {f : Nat → Nat → Nat → Nat → Nat} (hf : ∀ p k i j, f p k i j ≤ 18) {a b : Nat} (hab : a + b ≤ 12) {t : List Nat} (ht : t ∈ ph_ways a b) (i j p : Nat) : ph_sc f i j p t ≤ 216 := by
  have h1 := ph_sc18 hf t i j p
  have h2 := ph_vdl t a b (ph_vdw a b t ht)
  omega
theorem ph_lfp {M : Type} {op : M → M → M} {e : M} {g : List Nat → M} (Pr : M → Prop) (he : Pr e) (hop : ∀ x y, Pr x → Pr y → Pr (op x y)) : ∀ (l : List (List Nat)), (∀ t, t ∈ l → Pr (g t)) → Pr (ph_lf op e g l) := by
  intro l
  induction l with
  | nil => intro _; exact he
  | cons t l ih => intro h; exact hop _ _ (h t List.mem_cons_self) (ih (fun q hq => h q (List.mem_cons_of_mem _ hq)))
def ph_bo (o : Option Nat) : Prop := ∀ m, o = some m → m ≤ 216
theorem ph_boM {x y : Option Nat} (hx : ph_bo x) (hy : ph_bo y) : ph_bo (ph_om x y) := by
  cases x with
  | none => exact hy
  | some a =>
    cases y with
    | none => exact hx
    | some b => simp only [ph_om]; split <;> assumption
theorem ph_boN {x y : Option Nat} (hx : ph_bo x) (hy : ph_bo y) : ph_bo (ph_on x y) := by
  cases x with
  | none => exact hy
  | some a =>
    cases y with
    | none => exact hx
    | some b => simp only [ph_on]; split <;> assumption
theorem ph_bo0 : ph_bo none := fun _ h => nomatch h
theorem ph_n4l {m : Nat} (h : m < 2 ^ 31) : ¬ nI m ≤ -4 := by
  intro z
  rw [Int32.le_iff_toInt_le, nI_toInt h, show (-4 : Int32).toInt = -4 from by decide] at z
  omega
theorem ph_n4e {m : Nat} (h : m < 2 ^ 31) : ¬ nI m = -4 := fun z => ph_n4l h (by rw [z]; decide)
theorem ph_Gf (cond : List Nat → Prop) (dc : ∀ t, Decidable (cond t)) (sc : List Nat → Nat) : ∀ (l : List (List Nat)) (o : Option Nat), (∀ t, t ∈ l → sc t ≤ 216) → ph_bo o → l.foldl (fun a t => if cond t ∧ ¬ nI (sc t) ≤ a then nI (sc t) else a) (ph_e1 o) = ph_e1 (ph_om o (ph_lf ph_om none (fun t => if cond t then some (sc t) else none) l)) := by
  intro l
  induction l with
  | nil => intro o _ _; show ph_e1 o = ph_e1 (ph_om o none); rw [ph_omr]
  | cons t l ih =>
    intro o hs ho
    have h1 := hs t List.mem_cons_self
    have hgb : ph_bo (if cond t then some (sc t) else none) := by
      split
      · intro m hm; cases hm; exact h1
      · exact ph_bo0
    have e : (if cond t ∧ ¬ nI (sc t) ≤ ph_e1 o then nI (sc t) else ph_e1 o) = ph_e1 (ph_om o (if cond t then some (sc t) else none)) := by
      by_cases z : cond t
      · rw [if_pos z]
        cases o with
        | none => rw [if_pos ⟨z, ph_n4l (by omega)⟩]; rfl
        | some m =>
          have hm := ho m rfl
          show (if cond t ∧ ¬ nI (sc t) ≤ nI m then nI (sc t) else nI m) = ph_e1 (if sc t ≤ m then some m else some (sc t))
          by_cases q : sc t ≤ m
          · rw [if_pos q, if_neg (fun y => y.2 (nI_le q (by omega)))]; rfl
          · rw [if_neg q, if_pos ⟨z, nI_ge (by omega) (by omega)⟩]; rfl
      · rw [if_neg z, if_neg (fun y => z y.1), ph_omr]
    show l.foldl _ (if cond t ∧ ¬ nI (sc t) ≤ ph_e1 o then nI (sc t) else ph_e1 o) = ph_e1 (ph_om o (ph_om (if cond t then some (sc t) else none) _))
    rw [e, ih _ (fun q hq => hs q (List.mem_cons_of_mem _ hq)) (ph_boM ho hgb), ph_oma]
theorem ph_Wf (sc : List Nat → Nat) : ∀ (l : List (List Nat)) (a : Nat), a ≤ 1000000 → (∀ t, t ∈ l → sc t ≤ 216) → l.foldl (fun a t => if a ≤ nI (sc t) then a else nI (sc t)) (nI a) = ph_e1 (ph_on (some a) (ph_lf ph_on none (fun t => some (sc t)) l)) := by
  intro l
  induction l with
  | nil => intro a _ _; rfl
  | cons t l ih =>
    intro a ha hs
    have h1 := hs t List.mem_cons_self
    show l.foldl _ (if nI a ≤ nI (sc t) then nI a else nI (sc t)) = ph_e1 (ph_on (some a) (ph_on (some (sc t)) _))
    rw [← ph_ona]
    by_cases q : a ≤ sc t
    · rw [if_pos (nI_le q (by omega)), ih a ha (fun q hq => hs q (List.mem_cons_of_mem _ hq))]
      show _ = ph_e1 (ph_on (if a ≤ sc t then some a else some (sc t)) _)
      rw [if_pos q]
    · rw [if_neg (nI_ge (by omega) (by omega)), ih (sc t) (by omega) (fun q hq => hs q (List.mem_cons_of_mem _ hq))]
      show _ = ph_e1 (ph_on (if a ≤ sc t then some a else some (sc t)) _)
      rw [if_neg q]
theorem ph_Tf (sc : List Nat → Nat) {x : Nat} (hx : x ≤ 216) : ∀ (l : List (List Nat)) (a : Nat), (∀ t, t ∈ l → sc t ≤ 216) → l.foldl (fun a t => if nI (sc t) = nI x then a + 1 else a) (nI a) = nI (a + l.countP (fun r => decide (sc r = x))) := by
  intro l
  induction l with
  | nil => intro a _; rfl
  | cons t l ih =>
    intro a hs
    have h1 := hs t List.mem_cons_self
    show l.foldl _ (if nI (sc t) = nI x then nI a + 1 else nI a) = _
    by_cases q : sc t = x
    · rw [if_pos (by rw [q]), nI_1, ih _ (fun q hq => hs q (List.mem_cons_of_mem _ hq)), List.countP_cons_of_pos (p := fun r => decide (sc r = x)) (decide_eq_true q), Nat.add_assoc, Nat.add_comm 1]
    · rw [if_neg (fun z => q ((nI_eq (by omega) (by omega)).mp z)), ih _ (fun q hq => hs q (List.mem_cons_of_mem _ hq)), List.countP_cons_of_neg (by rw [decide_eq_true_eq]; exact q)]
theorem ph_Rm (sc : List Nat → Nat) : ∀ (l : List (List Nat)), ph_lf ph_om none (fun t => some (sc t)) l = (ph_lf ph_ro none (fun q => some (sc q, q, 1)) l).map (fun x => x.1) := by
  intro l
  induction l with
  | nil => rfl
  | cons t l ih =>
    show ph_om (some (sc t)) (ph_lf ph_om none (fun t => some (sc t)) l) = (ph_ro (some (sc t, t, 1)) (ph_lf ph_ro none (fun q => some (sc q, q, 1)) l)).map (fun x => x.1)
    rw [ih]
    cases ph_lf ph_ro none (fun q => some (sc q, q, 1)) l with
    | none => rfl
    | some y =>
      show (if y.1 ≤ sc t then some (sc t) else some y.1) = (if sc t < y.1 then some y else if y.1 = sc t then some (sc t, t, 1 + y.2.2) else some (sc t, t, 1)).map (fun x => x.1)
      rcases Nat.lt_trichotomy (sc t) y.1 with z | z | z
      · rw [if_neg (by omega), if_pos z]; rfl
      · rw [if_pos (by omega), if_neg (by omega), if_pos z.symm]; rfl
      · rw [if_pos (by omega), if_neg (by omega), if_neg (by omega)]; rfl
