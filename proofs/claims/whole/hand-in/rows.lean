section
/-! rows of kit/rows, pasted -/
theorem pk_us {f : Nat → Int32} {k : Nat} {x : Int32} : upd f k x k = x := if_pos rfl
theorem pk_un {f : Nat → Int32} {k j : Nat} {x : Int32} (h : j ≠ k) : upd f k x j = f j := if_neg h
theorem pk_uLs {f : Nat → Int64} {k : Nat} {x : Int64} : vp_updL f k x k = x := if_pos rfl
theorem pk_uLn {f : Nat → Int64} {k j : Nat} {x : Int64} (h : j ≠ k) : vp_updL f k x j = f j := if_neg h
theorem pk_sub {a b : Nat} (h : b ≤ a) : nI a - nI b = nI (a - b) := by
  obtain ⟨c, rfl⟩ : ∃ c, a = c + b := ⟨a - b, by omega⟩
  rw [← nI_add, Int32.add_sub_cancel, Nat.add_sub_cancel]
theorem pk_m1 (n : Nat) : nI (n + 1) + (-1) = nI n := by
  rw [← nI_1, Int32.add_assoc, show (1 : Int32) + (-1) = 0 from rfl, Int32.add_zero]
theorem pk_mul (a b : Nat) : nI a * nI b = nI (a * b) := (Int32.ofNat_mul a b).symm
theorem pk_sub_toInt {a b : Nat} (ha : a < 2 ^ 30) (hb : b < 2 ^ 30) : (nI a - nI b).toInt = (a : Int) - b := by
  rw [Int32.toInt_sub, nI_toInt (by omega), nI_toInt (by omega)]
  exact Int.bmod_eq_of_le (by omega) (by omega)
theorem pk_sneg {a b : Nat} (hb : b < 2 ^ 30) (h : a < b) : nI a - nI b < 0 := by
  rw [Int32.lt_iff_toInt_lt, pk_sub_toInt (by omega) hb, show (0 : Int32).toInt = 0 from by decide]
  omega
theorem pk_ix (x : Int32) {n : Nat} (hn : n < 2 ^ 31) : x < 0 ∨ nI n ≤ x ∨ ∃ j : Nat, j < n ∧ x = nI j := by
  by_cases h : x < 0
  · exact Or.inl h
  · obtain ⟨j, hj, rfl⟩ := nI_of h
    by_cases h2 : j < n
    · exact Or.inr (Or.inr ⟨j, h2, rfl⟩)
    · exact Or.inr (Or.inl (nI_le (by omega) hj))
theorem pk_le {x y : Int32} {A B : Prop} (a b : Nat) (f : a ≤ b → A) (g : b < a → B) (hx : x = nI a := by rfl) (hy : y = nI b := by rfl) (ha : a < 2 ^ 31 := by omega) (hb : b < 2 ^ 31 := by omega) : (x ≤ y → A) ∧ (¬ x ≤ y → B) := by
  subst hx hy
  rw [nI_leI ha hb]
  exact ⟨f, fun z => g (by omega)⟩
theorem pk_lt {x y : Int32} {A B : Prop} (a b : Nat) (f : a < b → A) (g : b ≤ a → B) (hx : x = nI a := by rfl) (hy : y = nI b := by rfl) (ha : a < 2 ^ 31 := by omega) (hb : b < 2 ^ 31 := by omega) : (x < y → A) ∧ (¬ x < y → B) := by
  subst hx hy
  rw [nI_ltI ha hb]
  exact ⟨f, fun z => g (by omega)⟩
theorem pk_eq {x y : Int32} {A B : Prop} (a b : Nat) (f : a = b → A) (g : a ≠ b → B) (hx : x = nI a := by rfl) (hy : y = nI b := by rfl) (ha : a < 2 ^ 31 := by omega) (hb : b < 2 ^ 31 := by omega) : (x = y → A) ∧ (¬ x = y → B) := by
  subst hx hy
  rw [nI_eq ha hb]
  exact ⟨f, g⟩
theorem pk_in {x : Int32} (n N : Nat) (h : n < N) (hx : x = nI n := by rfl) (hN : N < 2 ^ 31 := by omega) : vp_in x N := by
  subst hx
  exact vp_in_nI h hN
theorem pk_cl {x : Int32} (n : Nat) (hx : x = nI n := by rfl) (h : n < 2 ^ 31 := by omega) : x.toNatClampNeg = n := by
  subst hx
  exact nI_clamp h
end
section
/-! the ways as lists of kinds, in dictionary order -/
def ph_le (k : Nat) : Nat := if k = 2 then 0 else 1
def ph_co (k : Nat) : Nat := if k = 1 then 0 else 1
theorem ph_le0 : ph_le 0 = 1 := rfl
theorem ph_le1 : ph_le 1 = 1 := rfl
theorem ph_le2 : ph_le 2 = 0 := rfl
theorem ph_co0 : ph_co 0 = 1 := rfl
theorem ph_co1 : ph_co 1 = 0 := rfl
theorem ph_co2 : ph_co 2 = 1 := rfl
theorem ph_leL (k : Nat) : ph_le k ≤ 1 := by unfold ph_le; split <;> omega
theorem ph_coL (k : Nat) : ph_co k ≤ 1 := by unfold ph_co; split <;> omega
theorem ph_k3 {k : Nat} (h : k < 3) : k = 0 ∨ k = 1 ∨ k = 2 := by omega
def ph_w0 : Nat → List (List Nat)
  | 0 => [[]]
  | b + 1 => (ph_w0 b).map (fun t => 2 :: t)
def ph_wr (pr : Nat → List (List Nat)) : Nat → List (List Nat)
  | 0 => (pr 0).map (fun t => 1 :: t)
  | b + 1 => (pr b).map (fun t => 0 :: t) ++ ((pr (b + 1)).map (fun t => 1 :: t) ++ (ph_wr pr b).map (fun t => 2 :: t))
def ph_ways : Nat → Nat → List (List Nat)
  | 0 => ph_w0
  | a + 1 => ph_wr (ph_ways a)
theorem ph_ways00 : ph_ways 0 0 = [[]] := rfl
theorem ph_waysa0 (a : Nat) : ph_ways (a + 1) 0 = (ph_ways a 0).map (fun t => 1 :: t) := rfl
theorem ph_ways0b (b : Nat) : ph_ways 0 (b + 1) = (ph_ways 0 b).map (fun t => 2 :: t) := rfl
theorem ph_waysab (a b : Nat) : ph_ways (a + 1) (b + 1) = (ph_ways a b).map (fun t => 0 :: t) ++ ((ph_ways a (b + 1)).map (fun t => 1 :: t) ++ (ph_ways (a + 1) b).map (fun t => 2 :: t)) := rfl
theorem ph_ind {C : Nat → Nat → Prop} (h00 : C 0 0) (ha0 : ∀ a, C a 0 → C (a + 1) 0) (h0b : ∀ b, C 0 b → C 0 (b + 1)) (hab : ∀ a b, C a b → C a (b + 1) → C (a + 1) b → C (a + 1) (b + 1)) : ∀ a b, C a b := by
  intro a
  induction a with
  | zero =>
    intro b
    induction b with
    | zero => exact h00
    | succ b ih => exact h0b b ih
  | succ a iha =>
    intro b
    induction b with
    | zero => exact ha0 a (iha 0)
    | succ b ihb => exact hab a b (iha b) (iha (b + 1)) ihb
theorem ph_ne : ∀ a b, ph_ways a b ≠ [] := by
  apply ph_ind
  · rw [ph_ways00]; exact List.cons_ne_nil _ _
  · intro a h; rw [ph_waysa0]; intro z; exact h (List.map_eq_nil_iff.mp z)
  · intro b h; rw [ph_ways0b]; intro z; exact h (List.map_eq_nil_iff.mp z)
  · intro a b h _ _; rw [ph_waysab]; intro z; exact h (List.map_eq_nil_iff.mp (List.append_eq_nil_iff.mp z).1)
def ph_hd (a b : Nat) : List Nat := (ph_ways a b).headD []
theorem ph_cons (a b : Nat) : ∃ l, ph_ways a b = ph_hd a b :: l := by
  have h := ph_ne a b
  unfold ph_hd
  cases e : ph_ways a b with
  | nil => exact absurd e h
  | cons t l => exact ⟨l, rfl⟩
theorem ph_hd00 : ph_hd 0 0 = [] := rfl
theorem ph_hda0 (a : Nat) : ph_hd (a + 1) 0 = 1 :: ph_hd a 0 := by
  obtain ⟨l, e⟩ := ph_cons a 0
  show (ph_ways (a + 1) 0).headD [] = _
  rw [ph_waysa0, e]; rfl
theorem ph_hd0b (b : Nat) : ph_hd 0 (b + 1) = 2 :: ph_hd 0 b := by
  obtain ⟨l, e⟩ := ph_cons 0 b
  show (ph_ways 0 (b + 1)).headD [] = _
  rw [ph_ways0b, e]; rfl
theorem ph_hdab (a b : Nat) : ph_hd (a + 1) (b + 1) = 0 :: ph_hd a b := by
  obtain ⟨l, e⟩ := ph_cons a b
  show (ph_ways (a + 1) (b + 1)).headD [] = _
  rw [ph_waysab, e]; rfl
def ph_vd : Nat → Nat → List Nat → Prop
  | a, b, [] => a = 0 ∧ b = 0
  | a, b, k :: t => k < 3 ∧ ph_le k ≤ a ∧ ph_co k ≤ b ∧ ph_vd (a - ph_le k) (b - ph_co k) t
theorem ph_vdw : ∀ a b, ∀ t, t ∈ ph_ways a b → ph_vd a b t := by
  apply ph_ind
  · intro t h
    rw [ph_ways00, List.mem_singleton] at h
    subst h; exact ⟨rfl, rfl⟩
  · intro a ih t h
    rw [ph_waysa0, List.mem_map] at h
    obtain ⟨q, hq, rfl⟩ := h
    exact ⟨by omega, by rw [ph_le1]; omega, by rw [ph_co1]; omega, ih q hq⟩
  · intro b ih t h
    rw [ph_ways0b, List.mem_map] at h
    obtain ⟨q, hq, rfl⟩ := h
    exact ⟨by omega, by rw [ph_le2]; omega, by rw [ph_co2]; omega, ih q hq⟩
  · intro a b i0 i1 i2 t h
    rw [ph_waysab, List.mem_append, List.mem_append, List.mem_map, List.mem_map, List.mem_map] at h
    rcases h with ⟨q, hq, rfl⟩ | ⟨q, hq, rfl⟩ | ⟨q, hq, rfl⟩
    · exact ⟨by omega, by rw [ph_le0]; omega, by rw [ph_co0]; omega, i0 q hq⟩
    · exact ⟨by omega, by rw [ph_le1]; omega, by rw [ph_co1]; omega, i1 q hq⟩
    · exact ⟨by omega, by rw [ph_le2]; omega, by rw [ph_co2]; omega, i2 q hq⟩
theorem ph_lc (k : Nat) : 1 ≤ ph_le k + ph_co k := by unfold ph_le ph_co; split <;> split <;> omega
theorem ph_vdl : ∀ (t : List Nat) (a b : Nat), ph_vd a b t → t.length ≤ a + b := by
  intro t
  induction t with
  | nil => intro a b _; exact Nat.zero_le _
  | cons k t ih =>
    intro a b h
    obtain ⟨_, h1, h2, h3⟩ := h
    have := ih _ _ h3
    have := ph_lc k
    rw [List.length_cons]; omega
def ph_nx : Nat → Nat → List Nat → Option (List Nat)
  | _, _, [] => none
  | a, b, k :: q => match ph_nx (a - ph_le k) (b - ph_co k) q with
    | some q' => some (k :: q')
    | none => if k = 0 then some (1 :: ph_hd (a - 1) b) else if k = 1 ∧ 0 < b then some (2 :: ph_hd a (b - 1)) else none
theorem ph_nxS {a b k : Nat} {q q' : List Nat} (h : ph_nx (a - ph_le k) (b - ph_co k) q = some q') : ph_nx a b (k :: q) = some (k :: q') := by
  rw [ph_nx, h]
theorem ph_nxN {a b k : Nat} {q : List Nat} (h : ph_nx (a - ph_le k) (b - ph_co k) q = none) : ph_nx a b (k :: q) = if k = 0 then some (1 :: ph_hd (a - 1) b) else if k = 1 ∧ 0 < b then some (2 :: ph_hd a (b - 1)) else none := by
  rw [ph_nx, h]
def ph_nt (l : List (List Nat)) (e : Option (List Nat)) : Option (List Nat) := match l with
  | [] => e
  | t :: _ => some t
def ph_ch (f : List Nat → Option (List Nat)) : List (List Nat) → Option (List Nat) → Prop
  | [], _ => True
  | t :: l, e => f t = ph_nt l e ∧ ph_ch f l e
theorem ph_nta (l1 l2 : List (List Nat)) (e : Option (List Nat)) : ph_nt (l1 ++ l2) e = ph_nt l1 (ph_nt l2 e) := by
  cases l1 <;> rfl
theorem ph_cha {f : List Nat → Option (List Nat)} {l2 : List (List Nat)} {e : Option (List Nat)} (h2 : ph_ch f l2 e) : ∀ l1, ph_ch f l1 (ph_nt l2 e) → ph_ch f (l1 ++ l2) e := by
  intro l1
  induction l1 with
  | nil => intro _; exact h2
  | cons t l ih =>
    intro h
    exact ⟨h.1.trans (ph_nta l l2 e).symm, ih h.2⟩
theorem ph_chm {a b k : Nat} {E : Option (List Nat)} (hE : (if k = 0 then some (1 :: ph_hd (a - 1) b) else if k = 1 ∧ 0 < b then some (2 :: ph_hd a (b - 1)) else none) = E) : ∀ l, ph_ch (ph_nx (a - ph_le k) (b - ph_co k)) l none → ph_ch (ph_nx a b) (l.map (fun t => k :: t)) E := by
  intro l
  induction l with
  | nil => intro _; trivial
  | cons t l ih =>
    intro h
    refine ⟨?_, ih h.2⟩
    have h1 := h.1
    cases l with
    | nil => rw [ph_nxN h1]; exact hE
    | cons t' l' => exact ph_nxS h1
theorem ph_ntm (a b k : Nat) (l : List (List Nat)) (e : Option (List Nat)) : ph_nt ((ph_ways a b).map (fun t => k :: t) ++ l) e = some (k :: ph_hd a b) := by
  obtain ⟨m, h⟩ := ph_cons a b
  rw [h]; rfl
theorem ph_ntm' (a b k : Nat) (e : Option (List Nat)) : ph_nt ((ph_ways a b).map (fun t => k :: t)) e = some (k :: ph_hd a b) := by
  obtain ⟨m, h⟩ := ph_cons a b
  rw [h]; rfl
theorem ph_chw : ∀ a b, ph_ch (ph_nx a b) (ph_ways a b) none := by
  apply ph_ind
  · exact ⟨rfl, trivial⟩
  · intro a ih
    rw [ph_waysa0]
    exact ph_chm (a := a + 1) (b := 0) (k := 1) rfl _ ih
  · intro b ih
    rw [ph_ways0b]
    exact ph_chm (a := 0) (b := b + 1) (k := 2) rfl _ ih
  · intro a b i0 i1 i2
    rw [ph_waysab]
    refine ph_cha (ph_cha ?_ _ ?_) _ ?_
    · exact ph_chm (a := a + 1) (b := b + 1) (k := 2) rfl _ i2
    · rw [ph_ntm']
      exact ph_chm (a := a + 1) (b := b + 1) (k := 1) (by rw [if_neg (by omega), if_pos ⟨rfl, by omega⟩]; rfl) _ i1
    · rw [ph_ntm]
      exact ph_chm (a := a + 1) (b := b + 1) (k := 0) rfl _ i0
/-! folds over the ways -/
def ph_lf {M : Type} (op : M → M → M) (e : M) (g : List Nat → M) : List (List Nat) → M
  | [] => e
  | t :: l => op (g t) (ph_lf op e g l)
def ph_law {M : Type} (op : M → M → M) (e : M) (act : Nat → Nat → Nat → Nat → M → M) : Prop :=
  (∀ x y z, op (op x y) z = op x (op y z)) ∧ (∀ x, op e x = x) ∧ (∀ x, op x e = x) ∧ (∀ p k i j x y, act p k i j (op x y) = op (act p k i j x) (act p k i j y)) ∧ (∀ p k i j, act p k i j e = e)
def ph_gv {M : Type} (g0 : M) (act : Nat → Nat → Nat → Nat → M → M) : Nat → Nat → Nat → List Nat → M
  | _, _, _, [] => g0
  | i, j, p, k :: t => act p k i j (ph_gv g0 act (i + ph_le k) (j + ph_co k) k t)
def ph_T {M : Type} (op : M → M → M) (e g0 : M) (act : Nat → Nat → Nat → Nat → M → M) (n c i j p : Nat) : M := ph_lf op e (ph_gv g0 act i j p) (ph_ways (n - i) (c - j))
theorem ph_lfa {M : Type} {op : M → M → M} {e : M} {g : List Nat → M} (as : ∀ x y z, op (op x y) z = op x (op y z)) (il : ∀ x, op e x = x) (l2 : List (List Nat)) : ∀ l1, ph_lf op e g (l1 ++ l2) = op (ph_lf op e g l1) (ph_lf op e g l2) := by
  intro l1
  induction l1 with
  | nil => exact (il _).symm
  | cons t l ih => show op (g t) (ph_lf op e g (l ++ l2)) = op (op (g t) _) _; rw [ih, as]
theorem ph_lfm {M : Type} {op : M → M → M} {e : M} {g g' : List Nat → M} {A : M → M} (k : Nat) (di : ∀ x y, A (op x y) = op (A x) (A y)) (ae : A e = e) (hg : ∀ t, g (k :: t) = A (g' t)) : ∀ l, ph_lf op e g (l.map (fun t => k :: t)) = A (ph_lf op e g' l) := by
  intro l
  induction l with
  | nil => exact ae.symm
  | cons t l ih => show op (g (k :: t)) (ph_lf op e g (l.map (fun t => k :: t))) = A (op _ _); rw [ih, di, hg]
theorem ph_fl {M : Type} {op : M → M → M} {e : M} {g : List Nat → M} (as : ∀ x y z, op (op x y) z = op x (op y z)) (ir : ∀ x, op x e = x) : ∀ (l : List (List Nat)) (a : M), l.foldl (fun a t => op a (g t)) a = op a (ph_lf op e g l) := by
  intro l
  induction l with
  | nil => intro a; exact (ir _).symm
  | cons t l ih => intro a; show l.foldl _ (op a (g t)) = op a (op (g t) _); rw [ih, as]
section
variable {M : Type} {op : M → M → M} {e g0 : M} {act : Nat → Nat → Nat → Nat → M → M}
theorem ph_Tend (hl : ph_law op e act) (n c p : Nat) : ph_T op e g0 act n c n c p = g0 := by
  unfold ph_T
  rw [Nat.sub_self, Nat.sub_self, ph_ways00]
  exact hl.2.2.1 g0
theorem ph_Tab (hl : ph_law op e act) (a b i j p : Nat) : ph_lf op e (ph_gv g0 act i j p) (ph_ways (a + 1) (b + 1)) = op (op (op e (act p 0 i j (ph_lf op e (ph_gv g0 act (i + 1) (j + 1) 0) (ph_ways a b)))) (act p 1 i j (ph_lf op e (ph_gv g0 act (i + 1) j 1) (ph_ways a (b + 1))))) (act p 2 i j (ph_lf op e (ph_gv g0 act i (j + 1) 2) (ph_ways (a + 1) b))) := by
  obtain ⟨as, il, ir, di, ae⟩ := hl
  rw [ph_waysab, ph_lfa as il, ph_lfa as il, il, as]
  rw [ph_lfm (A := act p 0 i j) (g' := ph_gv g0 act (i + 1) (j + 1) 0) 0 (di p 0 i j) (ae _ _ _ _) (fun t => rfl)]
  rw [ph_lfm (A := act p 1 i j) (g' := ph_gv g0 act (i + 1) j 1) 1 (di p 1 i j) (ae _ _ _ _) (fun t => rfl)]
  rw [ph_lfm (A := act p 2 i j) (g' := ph_gv g0 act i (j + 1) 2) 2 (di p 2 i j) (ae _ _ _ _) (fun t => rfl)]
theorem ph_Ta0 (hl : ph_law op e act) (a i j p : Nat) : ph_lf op e (ph_gv g0 act i j p) (ph_ways (a + 1) 0) = op (op (op e e) (act p 1 i j (ph_lf op e (ph_gv g0 act (i + 1) j 1) (ph_ways a 0)))) e := by
  obtain ⟨as, il, ir, di, ae⟩ := hl
  rw [ph_waysa0, il, il, ir]
  rw [ph_lfm (A := act p 1 i j) (g' := ph_gv g0 act (i + 1) j 1) 1 (di p 1 i j) (ae _ _ _ _) (fun t => rfl)]
theorem ph_T0b (hl : ph_law op e act) (b i j p : Nat) : ph_lf op e (ph_gv g0 act i j p) (ph_ways 0 (b + 1)) = op (op (op e e) e) (act p 2 i j (ph_lf op e (ph_gv g0 act i (j + 1) 2) (ph_ways 0 b))) := by
  obtain ⟨as, il, ir, di, ae⟩ := hl
  rw [ph_ways0b, il, il, il]
  rw [ph_lfm (A := act p 2 i j) (g' := ph_gv g0 act i (j + 1) 2) 2 (di p 2 i j) (ae _ _ _ _) (fun t => rfl)]
end
/-- what a step of kind k gives from (i, j) behind p -/
def ph_X {M : Type} (op : M → M → M) (e g0 : M) (act : Nat → Nat → Nat → Nat → M → M) (n c i j p k : Nat) : M := if i + ph_le k ≤ n ∧ j + ph_co k ≤ c then act p k i j (ph_T op e g0 act n c (i + ph_le k) (j + ph_co k) k) else e
theorem ph_Trec {M : Type} {op : M → M → M} {e g0 : M} {act : Nat → Nat → Nat → Nat → M → M} (hl : ph_law op e act) {n c i j : Nat} (p : Nat) (hi : i ≤ n) (hj : j ≤ c) (hne : ¬ (i = n ∧ j = c)) : ph_T op e g0 act n c i j p = op (op (op e (ph_X op e g0 act n c i j p 0)) (ph_X op e g0 act n c i j p 1)) (ph_X op e g0 act n c i j p 2) := by
  unfold ph_X
  rw [ph_le0, ph_le1, ph_le2, ph_co0, ph_co1, ph_co2]
  simp only [show i + 0 = i from rfl, show j + 0 = j from rfl]
  by_cases h1 : i = n
  · by_cases h2 : j = c
    · exact absurd ⟨h1, h2⟩ hne
    · obtain ⟨b, hb⟩ : ∃ b, c - j = b + 1 := ⟨c - j - 1, by omega⟩
      rw [if_neg (by omega), if_neg (by omega), if_pos (by omega)]
      unfold ph_T
      rw [hb, show n - i = 0 by omega, ph_T0b hl, show c - (j + 1) = b by omega]
  · obtain ⟨a, ha⟩ : ∃ a, n - i = a + 1 := ⟨n - i - 1, by omega⟩
    by_cases h2 : j = c
    · rw [if_neg (by omega), if_pos (by omega), if_neg (by omega)]
      unfold ph_T
      rw [ha, show c - j = 0 by omega, ph_Ta0 hl, show n - (i + 1) = a by omega]
    · obtain ⟨b, hb⟩ : ∃ b, c - j = b + 1 := ⟨c - j - 1, by omega⟩
      rw [if_pos (by omega), if_pos (by omega), if_pos (by omega)]
      unfold ph_T
      rw [ha, hb, ph_Tab hl, show n - (i + 1) = a by omega, show c - (j + 1) = b by omega]
end
section
/-! the reference walks from way to way -/
def ph_hs (st : Nat → Int32) : Nat → List Nat → Prop
  | _, [] => True
  | s, k :: t => st s = nI k ∧ ph_hs st (s + 1) t
section
variable {c n : Nat} {L P w : Nat → Int32}
theorem ph_may {post : Int32 → Prop} {i j k : Nat} {st : Nat → Int32} {sz : Int32} (hc : c ≤ 4) (hn : n ≤ 8) (hk : k < 3) (hi : i ≤ n) (hj : j ≤ c) (h : post (if i + ph_le k ≤ n ∧ j + ph_co k ≤ c then 1 else 0)) : wpY_mayTake post (nI c, nI n, sz, nI j, nI i, L, P, w, st) (nI k) := by
  rcases ph_k3 hk with rfl | rfl | rfl
  · rw [ph_le0, ph_co0] at h
    refine br_f (by decide) (pk_le c j (fun q => ?_) (fun q => br_f (by decide) (pk_le n i (fun q' => ?_) (fun q' => ?_))))
    · rw [if_neg (by omega)] at h; exact h
    · rw [if_neg (by omega)] at h; exact h
    · rw [if_pos (by omega)] at h; exact h
  · rw [ph_le1, ph_co1] at h
    refine br_t (by decide) (br_f (by decide) (pk_le n i (fun q' => ?_) (fun q' => ?_)))
    · rw [if_neg (by omega)] at h; exact h
    · rw [if_pos (by omega)] at h; exact h
  · rw [ph_le2, ph_co2] at h
    refine br_f (by decide) (pk_le c j (fun q => ?_) (fun q => br_t (by decide) ?_))
    · rw [if_neg (by omega)] at h; exact h
    · rw [if_pos (by omega)] at h; exact h
theorem ph_take {post : SY → Prop} {s i j k : Nat} {st : Nat → Int32} (hs : s < 12) (hk : k < 3) (h : post (nI c, nI n, nI (s + 1), nI (j + ph_co k), nI (i + ph_le k), L, P, w, upd st s (nI k))) : wpY_take post (nI c, nI n, nI s, nI j, nI i, L, P, w, st) (nI k) := by
  refine And.intro (vp_in_nI hs (by omega)) (nm_r (e' := upd st s (nI k)) (by rw [nI_clamp (by omega)]) (nm_r (nI_1 s) ?_))
  rcases ph_k3 hk with rfl | rfl | rfl
  · have h1 : post (nI c, nI n, nI (s + 1), nI j + 1, nI (i + 1), L, P, w, upd st s (nI 0)) := by rw [nI_1 j]; exact h
    exact br_f (by decide) (br_f (by decide) (nm_r (nI_1 i) h1))
  · exact br_t (by decide) (br_f (by decide) (nm_r (nI_1 i) h))
  · have h1 : post (nI c, nI n, nI (s + 1), nI j + 1, nI i, L, P, w, upd st s (nI 2)) := by rw [nI_1 j]; exact h
    exact br_f (by decide) (br_t (by decide) h1)
theorem ph_fill (hc : c ≤ 4) (hn : n ≤ 8) {post : SY → Prop} : ∀ (d a b s i j : Nat) (st : Nat → Int32), a + b ≤ d → i + a = n → j + b = c → s + a + b ≤ 12 → (∀ st' : Nat → Int32, (∀ x, x < s → st' x = st x) → ph_hs st' s (ph_hd a b) → post (nI c, nI n, nI (s + (ph_hd a b).length), nI c, nI n, L, P, w, st')) → wY_fill_0 post (d + 1) (nI c) (nI n) (nI s) (nI j) (nI i) L P w st := by
  intro d
  have h00 : ∀ (d s i j : Nat) (st : Nat → Int32), i + 0 = n → j + 0 = c → (∀ st' : Nat → Int32, (∀ x, x < s → st' x = st x) → ph_hs st' s (ph_hd 0 0) → post (nI c, nI n, nI (s + (ph_hd 0 0).length), nI c, nI n, L, P, w, st')) → wY_fill_0 post (d + 1) (nI c) (nI n) (nI s) (nI j) (nI i) L P w st := by
    intro d s i j st hi hj h
    obtain rfl : i = n := by omega
    obtain rfl : j = c := by omega
    exact br_f (nI_nlt (by omega) (by omega)) (br_t (nI_le (by omega) (by omega)) (h st (fun _ _ => rfl) trivial))
  induction d with
  | zero =>
    intro a b s i j st hd hi hj hs h
    obtain rfl : a = 0 := by omega
    obtain rfl : b = 0 := by omega
    exact h00 0 s i j st hi hj h
  | succ d ih =>
    intro a b s i j st hd hi hj hs h
    have key : ∀ k a' b', k < 3 → ph_hd a b = k :: ph_hd a' b' → a' + ph_le k = a → b' + ph_co k = b → wY_fill_47 post (wY_fill_0 post (d + 1)) (nI k) (nI c) (nI n) (nI s) (nI j) (nI i) L P w st := by
      intro k a' b' hk he ha hb
      have hlc := ph_lc k
      refine ph_take (by omega) hk ?_
      refine ih a' b' (s + 1) (i + ph_le k) (j + ph_co k) _ (by omega) (by omega) (by omega) (by omega) ?_
      intro st' h1 h2
      have e := h st' (fun x hx => (h1 x (by omega)).trans (pk_un (by omega)))
      rw [he] at e
      rw [Nat.add_assoc, Nat.add_comm 1]
      exact e ⟨(h1 s (by omega)).trans pk_us, h2⟩
    cases a with
    | zero =>
      cases b with
      | zero => exact h00 (d + 1) s i j st hi hj h
      | succ b =>
        refine br_t (nI_lt (by omega) (by omega)) ?_
        refine ph_may (k := 0) hc hn (by omega) (by omega) (by omega) ?_
        rw [ph_le0, ph_co0, if_neg (by omega)]
        refine br_t rfl ?_
        refine ph_may (k := 1) hc hn (by omega) (by omega) (by omega) ?_
        rw [ph_le1, ph_co1, if_neg (by omega)]
        exact br_t rfl (key 2 0 b (by omega) (ph_hd0b b) rfl rfl)
    | succ a =>
      cases b with
      | zero =>
        refine br_f (nI_nlt (by omega) (by omega)) (br_f (nI_ge (by omega) (by omega)) ?_)
        refine ph_may (k := 0) hc hn (by omega) (by omega) (by omega) ?_
        rw [ph_le0, ph_co0, if_neg (by omega)]
        refine br_t rfl ?_
        refine ph_may (k := 1) hc hn (by omega) (by omega) (by omega) ?_
        rw [ph_le1, ph_co1, if_pos (by omega)]
        exact br_f (by decide) (key 1 a 0 (by omega) (ph_hda0 a) rfl rfl)
      | succ b =>
        refine br_t (nI_lt (by omega) (by omega)) ?_
        refine ph_may (k := 0) hc hn (by omega) (by omega) (by omega) ?_
        rw [ph_le0, ph_co0, if_pos (by omega)]
        exact br_f (by decide) (key 0 a b (by omega) (ph_hdab a b) rfl rfl)
theorem ph_tf (hc : c ≤ 4) (hn : n ≤ 8) {post : Int32 → SY → Prop} {s i j k a b : Nat} {st : Nat → Int32} (hk : k < 3) (hi : i + ph_le k + a = n) (hj : j + ph_co k + b = c) (hs : s + 1 + a + b ≤ 12) (h : ∀ st' : Nat → Int32, (∀ x, x < s → st' x = st x) → ph_hs st' s (k :: ph_hd a b) → post 1 (nI c, nI n, nI (s + (k :: ph_hd a b).length), nI c, nI n, L, P, w, st')) : wpY_take (fun u => match u with | (f_columns_24, f_length_25, f_size_26, f_column_27, f_letters_28, a_likings_29, a_passages_30, a_word_31, a_steps_32) => (wpY_fill (fun u => match u with | (f_columns_34, f_length_35, f_size_36, f_column_37, f_letters_38, a_likings_39, a_passages_40, a_word_41, a_steps_42) => (post 1 (f_columns_34, f_length_35, f_size_36, f_column_37, f_letters_38, a_likings_39, a_passages_40, a_word_41, a_steps_42))) (f_columns_24, f_length_25, f_size_26, f_column_27, f_letters_28, a_likings_29, a_passages_30, a_word_31, a_steps_32))) (nI c, nI n, nI s, nI j, nI i, L, P, w, st) (nI k) := by
  refine ph_take (by omega) hk ?_
  refine Exists.intro (a + b + 1) (ph_fill hc hn (a + b) a b (s + 1) (i + ph_le k) (j + ph_co k) _ (Nat.le_refl _) (by omega) (by omega) (by omega) ?_)
  intro st' h1 h2
  have e := h st' (fun x hx => (h1 x (by omega)).trans (pk_un (by omega))) ⟨(h1 s (by omega)).trans pk_us, h2⟩
  rw [Nat.add_assoc, Nat.add_comm 1]
  exact e
theorem ph_first (hc : c ≤ 4) (hn : n ≤ 8) {post : SY → Prop} {st : Nat → Int32} {x y z : Int32} (h : ∀ st' : Nat → Int32, ph_hs st' 0 (ph_hd n c) → post (nI c, nI n, nI (ph_hd n c).length, nI c, nI n, L, P, w, st')) : wpY_firstWay post (nI c, nI n, x, y, z, L, P, w, st) := by
  refine Exists.intro (n + c + 1) (ph_fill hc hn (n + c) n c 0 0 0 st (Nat.le_refl _) (by omega) (by omega) (by omega) ?_)
  intro st' _ h2
  have e := h st' h2
  rw [Nat.zero_add]
  exact e
theorem ph_bt {post : Int32 → SY → Prop} {m s i j k : Nat} {st : Nat → Int32} (hs : s < 12) (hk : k < 3) (hst : st s = nI k) (h : ∃ n75, wY_nextWay_75 post (wY_nextWay_0 post (nI c) (nI n) L P w st m) (nI c) (nI n) (nI s) (nI j) (nI i) L P w st n75 (nI (k + 1))) : wY_nextWay_0 post (nI c) (nI n) L P w st (m + 1) (nI (s + 1)) (nI (j + ph_co k)) (nI (i + ph_le k)) := by
  refine br_f (nI_nle (by omega) (by omega)) (nm_r (nI_pred s) (And.intro (vp_in_nI hs (by omega)) (nm_r (e' := nI k) (by rw [nI_clamp (by omega)]; exact hst) ?_)))
  rcases ph_k3 hk with rfl | rfl | rfl
  · have e1 : nI (j + ph_co 0) - 1 = nI j := nI_pred j
    have e2 : nI (i + ph_le 0) - 1 = nI i := nI_pred i
    rw [e1]
    exact br_f (by decide) (br_f (by decide) (nm_r e2 (nm_r (nI_1 0) h)))
  · have e2 : nI (i + ph_le 1) - 1 = nI i := nI_pred i
    exact br_t (by decide) (br_f (by decide) (nm_r e2 (nm_r (nI_1 1) h)))
  · have e1 : nI (j + ph_co 2) - 1 = nI j := nI_pred j
    rw [e1]
    exact br_f (by decide) (br_t (by decide) (nm_r (nI_1 2) h))
theorem ph_nw (hc : c ≤ 4) (hn : n ≤ 8) {post : Int32 → SY → Prop} {st : Nat → Int32} : ∀ (q : List Nat) (a b i j s m : Nat), ph_vd a b q → ph_hs st s q → i + a = n → j + b = c → s + a + b ≤ 12 → (ph_nx a b q = none → wY_nextWay_0 post (nI c) (nI n) L P w st m (nI s) (nI j) (nI i)) → (∀ q', ph_nx a b q = some q' → ∀ st' : Nat → Int32, (∀ x, x < s → st' x = st x) → ph_hs st' s q' → post 1 (nI c, nI n, nI (s + q'.length), nI c, nI n, L, P, w, st')) → wY_nextWay_0 post (nI c) (nI n) L P w st (m + q.length) (nI (s + q.length)) (nI c) (nI n) := by
  intro q
  induction q with
  | nil =>
    intro a b i j s m hv hh hi hj hs h0 h1
    obtain ⟨rfl, rfl⟩ := hv
    obtain rfl : i = n := by omega
    obtain rfl : j = c := by omega
    exact h0 rfl
  | cons k q ih =>
    intro a b i j s m hv hh hi hj hs h0 h1
    obtain ⟨hk, hva, hvb, hv⟩ := hv
    have hlc := ph_lc k
    have e1 : s + (k :: q).length = (s + 1) + q.length := by rw [List.length_cons]; omega
    have e2 : m + (k :: q).length = (m + 1) + q.length := by rw [List.length_cons]; omega
    rw [e1, e2]
    refine ih (a - ph_le k) (b - ph_co k) (i + ph_le k) (j + ph_co k) (s + 1) (m + 1) hv hh.2 (by omega) (by omega) (by omega) ?_ ?_
    · intro hnn
      have hx := ph_nxN (a := a) (b := b) (k := k) hnn
      refine ph_bt (by omega) hk hh.1 ?_
      rcases ph_k3 hk with rfl | rfl | rfl
      · rw [if_pos rfl] at hx
        rw [ph_le0] at hva
        rw [ph_co0] at hvb
        refine ⟨1, br_f (by decide) (ph_may (k := 1) hc hn (by omega) (by omega) (by omega) ?_)⟩
        rw [ph_le1, ph_co1, if_pos (by omega)]
        exact br_f (by decide) (ph_tf (k := 1) (a := a - 1) (b := b) hc hn (by omega) (by rw [ph_le1]; omega) (by rw [ph_co1]; omega) (by omega) (h1 _ hx))
      · rw [if_neg (by omega)] at hx
        by_cases hb : 0 < b
        · rw [if_pos ⟨rfl, hb⟩] at hx
          refine ⟨1, br_f (by decide) (ph_may (k := 2) hc hn (by omega) (by omega) (by omega) ?_)⟩
          rw [ph_le2, ph_co2, if_pos (by omega)]
          exact br_f (by decide) (ph_tf (k := 2) (a := a) (b := b - 1) hc hn (by omega) (by rw [ph_le2]; omega) (by rw [ph_co2]; omega) (by omega) (h1 _ hx))
        · rw [if_neg (by omega)] at hx
          refine ⟨2, br_f (by decide) (ph_may (k := 2) hc hn (by omega) (by omega) (by omega) ?_)⟩
          rw [ph_le2, ph_co2, if_neg (by omega)]
          exact br_t rfl (nm_r (nI_1 2) (br_t (by decide) (h0 hx)))
      · rw [if_neg (by omega), if_neg (by omega)] at hx
        exact ⟨1, br_t (by decide) (h0 hx)⟩
    · intro q' hq' st' hb hh'
      have hx := ph_nxS (a := a) (b := b) (k := k) hq'
      have e := h1 _ hx st' (fun x hx => hb x (by omega)) ⟨(hb s (by omega)).trans hh.1, hh'⟩
      rw [List.length_cons] at e
      rw [Nat.add_assoc, Nat.add_comm 1]
      exact e
theorem ph_next (hc : c ≤ 4) (hn : n ≤ 8) {post : Int32 → SY → Prop} {st : Nat → Int32} {q : List Nat} (hv : ph_vd n c q) (hh : ph_hs st 0 q) (h0 : ph_nx n c q = none → post 0 (nI c, nI n, 0, 0, 0, L, P, w, st)) (h1 : ∀ q', ph_nx n c q = some q' → ∀ st' : Nat → Int32, ph_hs st' 0 q' → post 1 (nI c, nI n, nI q'.length, nI c, nI n, L, P, w, st')) : wpY_nextWay post (nI c, nI n, nI q.length, nI c, nI n, L, P, w, st) := by
  have e := ph_nw (L := L) (P := P) (w := w) (post := post) hc hn q n c 0 0 0 1 hv hh (by omega) (by omega) (by omega) (fun z => br_t (by decide) (h0 z)) (fun q' z st' _ hh' => by have := h1 q' z st' hh'; rw [Nat.zero_add]; exact this)
  rw [Nat.zero_add] at e
  exact Exists.intro _ e
end
end
section
/-! what the reference reckons of one way -/
def ph_bd (f : Nat → Int32) (b : Nat) : Prop := ∀ x, ∃ a, a ≤ b ∧ f x = nI a
theorem ph_bdv {f : Nat → Int32} {b : Nat} (h : ph_bd f b) (hb : b < 2 ^ 31) (x : Nat) : f x = nI (f x).toNatClampNeg ∧ (f x).toNatClampNeg ≤ b := by
  obtain ⟨a, ha, e⟩ := h x
  rw [e, nI_clamp (by omega)]
  exact ⟨rfl, ha⟩
def ph_pa (P : Nat → Int32) (p k : Nat) : Nat := (P (p * 3 + k)).toNatClampNeg
def ph_li (L w : Nat → Int32) (i j : Nat) : Nat := (L ((j + 1) * 4 + (w i).toNatClampNeg)).toNatClampNeg
def ph_f (L P w : Nat → Int32) (p k i j : Nat) : Nat := if k = 0 then ph_pa P p k * ph_li L w i j else ph_pa P p k
def ph_s (L P w : Nat → Int32) (p k i j : Nat) : Nat := if k = 0 then ph_pa P p k + ph_li L w i j else ph_pa P p k
def ph_wt (f : Nat → Nat → Nat → Nat → Nat) : Nat → Nat → Nat → List Nat → Nat
  | _, _, _, [] => 1
  | i, j, p, k :: t => f p k i j * ph_wt f (i + ph_le k) (j + ph_co k) k t
def ph_sc (f : Nat → Nat → Nat → Nat → Nat) : Nat → Nat → Nat → List Nat → Nat
  | _, _, _, [] => 0
  | i, j, p, k :: t => f p k i j + ph_sc f (i + ph_le k) (j + ph_co k) k t
def ph_has (mk : Nat → Nat → Nat → Bool) : Nat → Nat → List Nat → Bool
  | _, _, [] => false
  | i, j, k :: t => mk k i j || ph_has mk (i + ph_le k) (j + ph_co k) t
def ph_mk (ka : Nat) (jx ix : Int32) (k i j : Nat) : Bool := decide (k = ka ∧ (jx < 0 ∨ nI (j + ph_co k) = jx) ∧ (ix < 0 ∨ nI i = ix))
theorem ph_paP {P : Nat → Int32} (hP : ph_bd P 9) (p k : Nat) : P (p * 3 + k) = nI (ph_pa P p k) := (ph_bdv hP (by omega) _).1
theorem ph_pa9 {P : Nat → Int32} (hP : ph_bd P 9) (p k : Nat) : ph_pa P p k ≤ 9 := (ph_bdv hP (by omega) _).2
theorem ph_liL {L w : Nat → Int32} (hL : ph_bd L 9) (i j : Nat) : L ((j + 1) * 4 + (w i).toNatClampNeg) = nI (ph_li L w i j) := (ph_bdv hL (by omega) _).1
theorem ph_li9 {L w : Nat → Int32} (hL : ph_bd L 9) (i j : Nat) : ph_li L w i j ≤ 9 := (ph_bdv hL (by omega) _).2
theorem ph_f81 {L P w : Nat → Int32} (hL : ph_bd L 9) (hP : ph_bd P 9) (p k i j : Nat) : ph_f L P w p k i j ≤ 81 := by
  unfold ph_f
  have h1 := ph_pa9 hP p k
  have h2 := ph_li9 (w := w) hL i j
  split
  · exact Nat.le_trans (Nat.mul_le_mul h1 h2) (by omega)
  · omega
theorem ph_s18 {L P w : Nat → Int32} (hL : ph_bd L 9) (hP : ph_bd P 9) (p k i j : Nat) : ph_s L P w p k i j ≤ 18 := by
  unfold ph_s
  have h1 := ph_pa9 hP p k
  have h2 := ph_li9 (w := w) hL i j
  split <;> omega
theorem ph_n3 : (3 : Int32) = nI 3 := rfl
theorem ph_n4 : (4 : Int32) = nI 4 := rfl
theorem ph_n15 : (15 : Int32) = nI 15 := rfl
theorem ph_n135 : (135 : Int32) = nI 135 := rfl
theorem ph_i3 (p k : Nat) : 3 * nI p + nI k = nI (p * 3 + k) := by rw [ph_n3, pk_mul, nI_add, Nat.mul_comm]
theorem ph_i3' (p k : Nat) : nI p * 3 + nI k = nI (p * 3 + k) := by rw [ph_n3, pk_mul, nI_add]
theorem ph_i4 (p k : Nat) : 4 * nI p + nI k = nI (p * 4 + k) := by rw [ph_n4, pk_mul, nI_add, Nat.mul_comm]
theorem ph_i4' (p k : Nat) : nI p * 4 + nI k = nI (p * 4 + k) := by rw [ph_n4, pk_mul, nI_add]
section
variable {c n : Nat} {L P w : Nat → Int32}
theorem ph_y89 {post : Int64 → Prop} {J : Int64 → Int32 → Int32 → Int32 → Int32 → Prop} {i k s : Nat} {x3 sz co le : Int32} {z : Int64} {st : Nat → Int32} (hk : k < 3) (h : J z x3 (nI (i + ph_le k)) (nI k) (nI (s + 1))) : wY_weight_89 post J x3 (nI i) (nI s) (nI k) z (nI c) (nI n) sz co le L P w st := by
  rcases ph_k3 hk with rfl | rfl | rfl
  · exact br_f (by decide) (nm_r (nI_1 i) (nm_r (nI_1 s) h))
  · exact br_f (by decide) (nm_r (nI_1 i) (nm_r (nI_1 s) h))
  · exact br_t (by decide) (nm_r (nI_1 s) h)
theorem ph_y44 (hc : c ≤ 4) (hn : n ≤ 8) (hL : ph_bd L 9) (hP : ph_bd P 9) (hw : ph_bd w 3) {post : Int64 → Prop} {J : Int64 → Int32 → Int32 → Int32 → Int32 → Prop} {acc i j p k s : Nat} {sz co le : Int32} {st : Nat → Int32} (hk : k < 3) (hp : p < 3) (hk0 : k = 0 → i < n ∧ j < c) (h : J (lN (acc * ph_f L P w p k i j)) (nI (j + ph_co k)) (nI (i + ph_le k)) (nI k) (nI (s + 1))) : wY_weight_44 post J (lN acc) (nI i) (nI p) (nI s) (nI k) (nI (j + ph_co k)) (nI c) (nI n) sz co le L P w st := by
  have hpa := ph_pa9 hP p k
  have hli := ph_li9 (w := w) hL i j
  have ix : 3 * nI p + nI k = nI (p * 3 + k) := ph_i3 p k
  refine And.intro ?_ ?_
  · rw [ix]; exact vp_in_nI (by omega) (by omega)
  · refine nm_r (e' := lN (acc * ph_pa P p k)) ?_ ?_
    · rw [ix, nI_clamp (by omega), ph_paP hP, nI_l (by omega), lN_mul]
    · rcases ph_k3 hk with rfl | rfl | rfl
      · obtain ⟨h1, h2⟩ := hk0 rfl
        obtain ⟨hwe, hw3⟩ := ph_bdv hw (by omega) i
        have iy : 4 * nI (j + ph_co 0) + w (nI i).toNatClampNeg = nI ((j + 1) * 4 + (w i).toNatClampNeg) := by
          rw [nI_clamp (by omega), ph_co0, hwe, ph_i4, nI_clamp (by omega)]
        have e : lN (acc * ph_pa P p 0) * (L (4 * nI (j + ph_co 0) + w (nI i).toNatClampNeg).toNatClampNeg).toInt64 = lN (acc * ph_f L P w p 0 i j) := by
          rw [iy, nI_clamp (by omega), ph_liL hL, nI_l (by omega), lN_mul, ph_f, if_pos rfl, Nat.mul_assoc]
        refine br_t rfl (And.intro (vp_in_nI (by omega) (by omega)) (And.intro (by rw [iy]; exact vp_in_nI (by omega) (by omega)) ?_))
        rw [e]
        exact ph_y89 (by omega) h
      · exact br_f (by decide) (ph_y89 (by omega) h)
      · exact br_f (by decide) (ph_y89 (by omega) h)
theorem ph_yw (hc : c ≤ 4) (hn : n ≤ 8) (hL : ph_bd L 9) (hP : ph_bd P 9) (hw : ph_bd w 3) {post : Int64 → Prop} {sz : Nat} {co le : Int32} {st : Nat → Int32} (hsz : sz ≤ 12) : ∀ (t : List Nat) (a b i j p s acc : Nat), ph_vd a b t → i + a = n → j + b = c → ph_hs st s t → s + t.length = sz → p < 3 → post (lN (acc * ph_wt (ph_f L P w) i j p t)) → wY_weight_13 post (nI c) (nI n) (nI sz) co le L P w st (t.length + 1) (lN acc) (nI j) (nI i) (nI p) (nI s) := by
  intro t
  induction t with
  | nil =>
    intro a b i j p s acc hv hi hj hh hs hp h
    refine br_t (nI_le (by rw [← hs]; exact Nat.le_refl _) (by rw [List.length_nil] at hs; omega)) ?_
    rw [ph_wt, Nat.mul_one] at h
    exact h
  | cons k t ih =>
    intro a b i j p s acc hv hi hj hh hs hp h
    obtain ⟨hk, hva, hvb, hv⟩ := hv
    rw [List.length_cons] at hs
    have hk0 : k = 0 → i < n ∧ j < c := by
      intro z; subst z; rw [ph_le0] at hva; rw [ph_co0] at hvb; omega
    have key : wY_weight_44 post (wY_weight_13 post (nI c) (nI n) (nI sz) co le L P w st (t.length + 1)) (lN acc) (nI i) (nI p) (nI s) (nI k) (nI (j + ph_co k)) (nI c) (nI n) (nI sz) co le L P w st := by
      refine ph_y44 hc hn hL hP hw hk hp hk0 ?_
      refine ih (a - ph_le k) (b - ph_co k) (i + ph_le k) (j + ph_co k) k (s + 1) _ hv (by omega) (by omega) hh.2 (by omega) hk ?_
      rw [ph_wt] at h
      rw [Nat.mul_assoc]
      exact h
    refine br_f (nI_ge (by omega) (by omega)) (And.intro (vp_in_nI (by omega) (by omega)) (nm_r (e' := nI k) (by rw [nI_clamp (by omega)]; exact hh.1) ?_))
    rcases ph_k3 hk with rfl | rfl | rfl
    · have e : nI j + 1 = nI (j + ph_co 0) := nI_1 j
      rw [e]
      exact br_f (by decide) key
    · exact br_t (by decide) key
    · have e : nI j + 1 = nI (j + ph_co 2) := nI_1 j
      rw [e]
      exact br_f (by decide) key
theorem ph_ywt (hc : c ≤ 4) (hn : n ≤ 8) (hL : ph_bd L 9) (hP : ph_bd P 9) (hw : ph_bd w 3) {post : Int64 → Prop} {co le : Int32} {st : Nat → Int32} {t : List Nat} (hv : ph_vd n c t) (hh : ph_hs st 0 t) (h : post (lN (ph_wt (ph_f L P w) 0 0 0 t))) : wpY_weight post (nI c, nI n, nI t.length, co, le, L, P, w, st) := by
  have hl := ph_vdl t n c hv
  exact Exists.intro _ (ph_yw hc hn hL hP hw (by omega) t n c 0 0 0 0 1 hv (by omega) (by omega) hh (by omega) (by omega) (by rw [Nat.one_mul]; exact h))
theorem ph_z85 {post : Int32 → Prop} {J : Int32 → Int32 → Int32 → Int32 → Int32 → Prop} {i k s : Nat} {x2 z sz co le : Int32} {st : Nat → Int32} (hk : k < 3) (h : J z x2 (nI (i + ph_le k)) (nI k) (nI (s + 1))) : wY_score_85 post J x2 (nI i) (nI s) (nI k) z (nI c) (nI n) sz co le L P w st := by
  rcases ph_k3 hk with rfl | rfl | rfl
  · exact br_f (by decide) (nm_r (nI_1 i) (nm_r (nI_1 s) h))
  · exact br_f (by decide) (nm_r (nI_1 i) (nm_r (nI_1 s) h))
  · exact br_t (by decide) (nm_r (nI_1 s) h)
theorem ph_z43 (hc : c ≤ 4) (hn : n ≤ 8) (hL : ph_bd L 9) (hP : ph_bd P 9) (hw : ph_bd w 3) {post : Int32 → Prop} {J : Int32 → Int32 → Int32 → Int32 → Int32 → Prop} {acc i j p k s : Nat} {sz co le : Int32} {st : Nat → Int32} (hk : k < 3) (hp : p < 3) (hk0 : k = 0 → i < n ∧ j < c) (h : J (nI (acc + ph_s L P w p k i j)) (nI (j + ph_co k)) (nI (i + ph_le k)) (nI k) (nI (s + 1))) : wY_score_43 post J (nI acc) (nI i) (nI p) (nI s) (nI k) (nI (j + ph_co k)) (nI c) (nI n) sz co le L P w st := by
  have hpa := ph_pa9 hP p k
  have hli := ph_li9 (w := w) hL i j
  have ix : 3 * nI p + nI k = nI (p * 3 + k) := ph_i3 p k
  refine And.intro ?_ ?_
  · rw [ix]; exact vp_in_nI (by omega) (by omega)
  · refine nm_r (e' := nI (acc + ph_pa P p k)) ?_ ?_
    · rw [ix, nI_clamp (by omega), ph_paP hP, nI_add]
    · rcases ph_k3 hk with rfl | rfl | rfl
      · obtain ⟨h1, h2⟩ := hk0 rfl
        obtain ⟨hwe, hw3⟩ := ph_bdv hw (by omega) i
        have iy : 4 * nI (j + ph_co 0) + w (nI i).toNatClampNeg = nI ((j + 1) * 4 + (w i).toNatClampNeg) := by
          rw [nI_clamp (by omega), ph_co0, hwe, ph_i4, nI_clamp (by omega)]
        have e : nI (acc + ph_pa P p 0) + (L (4 * nI (j + ph_co 0) + w (nI i).toNatClampNeg).toNatClampNeg) = nI (acc + ph_s L P w p 0 i j) := by
          rw [iy, nI_clamp (by omega), ph_liL hL, nI_add, ph_s, if_pos rfl, Nat.add_assoc]
        refine br_t rfl (And.intro (vp_in_nI (by omega) (by omega)) (And.intro (by rw [iy]; exact vp_in_nI (by omega) (by omega)) ?_))
        rw [e]
        exact ph_z85 (by omega) h
      · exact br_f (by decide) (ph_z85 (by omega) h)
      · exact br_f (by decide) (ph_z85 (by omega) h)
theorem ph_zw (hc : c ≤ 4) (hn : n ≤ 8) (hL : ph_bd L 9) (hP : ph_bd P 9) (hw : ph_bd w 3) {post : Int32 → Prop} {sz : Nat} {co le : Int32} {st : Nat → Int32} (hsz : sz ≤ 12) : ∀ (t : List Nat) (a b i j p s acc : Nat), ph_vd a b t → i + a = n → j + b = c → ph_hs st s t → s + t.length = sz → p < 3 → post (nI (acc + ph_sc (ph_s L P w) i j p t)) → wY_score_12 post (nI c) (nI n) (nI sz) co le L P w st (t.length + 1) (nI acc) (nI j) (nI i) (nI p) (nI s) := by
  intro t
  induction t with
  | nil =>
    intro a b i j p s acc hv hi hj hh hs hp h
    refine br_t (nI_le (by rw [← hs]; exact Nat.le_refl _) (by rw [List.length_nil] at hs; omega)) ?_
    rw [ph_sc, Nat.add_zero] at h
    exact h
  | cons k t ih =>
    intro a b i j p s acc hv hi hj hh hs hp h
    obtain ⟨hk, hva, hvb, hv⟩ := hv
    rw [List.length_cons] at hs
    have hk0 : k = 0 → i < n ∧ j < c := by
      intro z; subst z; rw [ph_le0] at hva; rw [ph_co0] at hvb; omega
    have key : wY_score_43 post (wY_score_12 post (nI c) (nI n) (nI sz) co le L P w st (t.length + 1)) (nI acc) (nI i) (nI p) (nI s) (nI k) (nI (j + ph_co k)) (nI c) (nI n) (nI sz) co le L P w st := by
      refine ph_z43 hc hn hL hP hw hk hp hk0 ?_
      refine ih (a - ph_le k) (b - ph_co k) (i + ph_le k) (j + ph_co k) k (s + 1) _ hv (by omega) (by omega) hh.2 (by omega) hk ?_
      rw [ph_sc] at h
      rw [Nat.add_assoc]
      exact h
    refine br_f (nI_ge (by omega) (by omega)) (And.intro (vp_in_nI (by omega) (by omega)) (nm_r (e' := nI k) (by rw [nI_clamp (by omega)]; exact hh.1) ?_))
    rcases ph_k3 hk with rfl | rfl | rfl
    · have e : nI j + 1 = nI (j + ph_co 0) := nI_1 j
      rw [e]
      exact br_f (by decide) key
    · exact br_t (by decide) key
    · have e : nI j + 1 = nI (j + ph_co 2) := nI_1 j
      rw [e]
      exact br_f (by decide) key
theorem ph_zsc (hc : c ≤ 4) (hn : n ≤ 8) (hL : ph_bd L 9) (hP : ph_bd P 9) (hw : ph_bd w 3) {post : Int32 → Prop} {co le : Int32} {st : Nat → Int32} {t : List Nat} (hv : ph_vd n c t) (hh : ph_hs st 0 t) (h : post (nI (ph_sc (ph_s L P w) 0 0 0 t))) : wpY_score post (nI c, nI n, nI t.length, co, le, L, P, w, st) := by
  have hl := ph_vdl t n c hv
  exact Exists.intro _ (ph_zw hc hn hL hP hw (by omega) t n c 0 0 0 0 0 hv (by omega) (by omega) hh (by omega) (by omega) (by rw [Nat.zero_add]; exact h))
theorem ph_h73 {post : Int32 → Prop} {J : Int32 → Int32 → Int32 → Prop} {i k s : Nat} {x1 x2 x3 x4 sz co le : Int32} {st : Nat → Int32} (hs : s < 12) (hst : st s = nI k) (hk : k < 3) (h : J x4 (nI (i + ph_le k)) (nI (s + 1))) : wY_hasStep_73 post J x1 x2 x3 x4 (nI i) (nI s) (nI c) (nI n) sz co le L P w st := by
  have e : st (nI s).toNatClampNeg = nI k := by rw [nI_clamp (by omega)]; exact hst
  refine And.intro (vp_in_nI hs (by omega)) ?_
  rw [e]
  rcases ph_k3 hk with rfl | rfl | rfl
  · exact br_f (by decide) (nm_r (nI_1 i) (nm_r (nI_1 s) h))
  · exact br_f (by decide) (nm_r (nI_1 i) (nm_r (nI_1 s) h))
  · exact br_t (by decide) (nm_r (nI_1 s) h)
theorem ph_h38 {post : Int32 → Prop} {J : Int32 → Int32 → Int32 → Prop} {i j k s ka : Nat} {x2 x3 sz co le : Int32} {st : Nat → Int32} (hs : s < 12) (hst : st s = nI k) (hk : k < 3) (hka : ka < 3) (h1 : ph_mk ka x2 x3 k i j = true → post 1) (h : ph_mk ka x2 x3 k i j = false → J (nI (j + ph_co k)) (nI (i + ph_le k)) (nI (s + 1))) : wY_hasStep_38 post J (nI ka) x2 x3 (nI i) (nI s) (nI (j + ph_co k)) (nI c) (nI n) sz co le L P w st := by
  have e : st (nI s).toNatClampNeg = nI k := by rw [nI_clamp (by omega)]; exact hst
  have hf : ¬ (k = ka ∧ (x2 < 0 ∨ nI (j + ph_co k) = x2) ∧ (x3 < 0 ∨ nI i = x3)) → wY_hasStep_73 post J (nI ka) x2 x3 (nI (j + ph_co k)) (nI i) (nI s) (nI c) (nI n) sz co le L P w st := fun z => ph_h73 hs hst hk (h (decide_eq_false z))
  have ht : (k = ka ∧ (x2 < 0 ∨ nI (j + ph_co k) = x2) ∧ (x3 < 0 ∨ nI i = x3)) → post 1 := fun z => h1 (decide_eq_true z)
  have h61 : k = ka → (x2 < 0 ∨ nI (j + ph_co k) = x2) → wY_hasStep_61 post J (nI ka) x2 x3 (nI (j + ph_co k)) (nI i) (nI s) (nI c) (nI n) sz co le L P w st := fun z1 z2 => br_c (fun q => ht ⟨z1, z2, Or.inl q⟩) (fun q => br_c (fun q' => ht ⟨z1, z2, Or.inr q'⟩) (fun q' => hf (fun z => z.2.2.elim q q')))
  refine And.intro (vp_in_nI hs (by omega)) ?_
  rw [e]
  refine pk_eq k ka (fun z => br_c (fun q => h61 z (Or.inl q)) (fun q => br_c (fun q' => h61 z (Or.inr q')) (fun q' => hf (fun z => z.2.1.elim q q')))) (fun z => hf (fun z' => z z'.1))
theorem ph_yh {post : Int32 → Prop} {sz ka : Nat} {x2 x3 co le : Int32} {st : Nat → Int32} (hsz : sz ≤ 12) (hka : ka < 3) : ∀ (t : List Nat) (a b i j s : Nat), ph_vd a b t → ph_hs st s t → s + t.length = sz → post (if ph_has (ph_mk ka x2 x3) i j t then 1 else 0) → wY_hasStep_9 post (nI ka) x2 x3 (nI c) (nI n) (nI sz) co le L P w st (t.length + 1) (nI j) (nI i) (nI s) := by
  intro t
  induction t with
  | nil =>
    intro a b i j s hv hh hs h
    exact br_t (nI_le (by rw [← hs]; exact Nat.le_refl _) (by rw [List.length_nil] at hs; omega)) h
  | cons k t ih =>
    intro a b i j s hv hh hs h
    obtain ⟨hk, hva, hvb, hv⟩ := hv
    rw [List.length_cons] at hs
    rw [ph_has] at h
    have key : wY_hasStep_38 post (wY_hasStep_9 post (nI ka) x2 x3 (nI c) (nI n) (nI sz) co le L P w st (t.length + 1)) (nI ka) x2 x3 (nI i) (nI s) (nI (j + ph_co k)) (nI c) (nI n) (nI sz) co le L P w st := by
      refine ph_h38 (by omega) hh.1 hk hka (fun z => ?_) (fun z => ?_)
      · rw [z, Bool.true_or] at h; exact h
      · rw [z, Bool.false_or] at h
        exact ih _ _ _ _ _ hv hh.2 (by omega) h
    have e : st (nI s).toNatClampNeg = nI k := by rw [nI_clamp (by omega)]; exact hh.1
    refine br_f (nI_ge (by omega) (by omega)) (And.intro (vp_in_nI (by omega) (by omega)) ?_)
    rw [e]
    rcases ph_k3 hk with rfl | rfl | rfl
    · have e : nI j + 1 = nI (j + ph_co 0) := nI_1 j
      rw [e]
      exact br_f (by decide) key
    · exact br_t (by decide) key
    · have e : nI j + 1 = nI (j + ph_co 2) := nI_1 j
      rw [e]
      exact br_f (by decide) key
theorem ph_yhs (hc : c ≤ 4) (hn : n ≤ 8) {post : Int32 → Prop} {ka : Nat} {x2 x3 co le : Int32} {st : Nat → Int32} {t : List Nat} (hka : ka < 3) (hv : ph_vd n c t) (hh : ph_hs st 0 t) (h : post (if ph_has (ph_mk ka x2 x3) 0 0 t then 1 else 0)) : wpY_hasStep post (nI c, nI n, nI t.length, co, le, L, P, w, st) (nI ka) x2 x3 := by
  have hl := ph_vdl t n c hv
  exact Exists.intro _ (ph_yh (by omega) hka t n c 0 0 0 hv hh (by omega) h)
end
end
section
/-! the reference's loops over all ways -/
theorem ph_yl {A : Type} {c n : Nat} (W : Nat → A → Int32 → Int32 → Int32 → Int32 → (Nat → Int32) → Prop) (step : A → List Nat → A) (hstep : ∀ m a t st, ph_vd n c t → ph_hs st 0 t → (ph_nx n c t = none → W m (step a t) 0 0 0 0 st) → (∀ q', ph_nx n c t = some q' → ∀ st' : Nat → Int32, ph_hs st' 0 q' → W m (step a t) 1 (nI q'.length) (nI c) (nI n) st') → W (m + 1) a 1 (nI t.length) (nI c) (nI n) st) : ∀ (l : List (List Nat)) (t : List Nat) (a : A) (st : Nat → Int32), ph_ch (ph_nx n c) (t :: l) none → (∀ q, q ∈ t :: l → ph_vd n c q) → ph_hs st 0 t → (∀ m st', W (m + 1) ((t :: l).foldl step a) 0 0 0 0 st') → W (l.length + 2) a 1 (nI t.length) (nI c) (nI n) st := by
  intro l
  induction l with
  | nil =>
    intro t a st hc hv hh h
    refine hstep 1 a t st (hv t (List.mem_cons_self)) hh (fun _ => h 0 st) (fun q' hq => ?_)
    have h1 : ph_nx n c t = none := hc.1
    rw [h1] at hq
    exact nomatch hq
  | cons t' l ih =>
    intro t a st hc hv hh h
    have h1 : ph_nx n c t = some t' := hc.1
    refine hstep (l.length + 2) a t st (hv t (List.mem_cons_self)) hh (fun z => ?_) (fun q' hq st' hh' => ?_)
    · rw [h1] at z; exact nomatch z
    · rw [h1] at hq
      cases hq
      exact ih t' (step a t) st' hc.2 (fun q hq => hv q (List.mem_cons_of_mem _ hq)) hh' h
theorem ph_yl' {A : Type} {c n : Nat} (W : Nat → A → Int32 → Int32 → Int32 → Int32 → (Nat → Int32) → Prop) (step : A → List Nat → A) (hstep : ∀ m a t st, ph_vd n c t → ph_hs st 0 t → (ph_nx n c t = none → W m (step a t) 0 0 0 0 st) → (∀ q', ph_nx n c t = some q' → ∀ st' : Nat → Int32, ph_hs st' 0 q' → W m (step a t) 1 (nI q'.length) (nI c) (nI n) st') → W (m + 1) a 1 (nI t.length) (nI c) (nI n) st) (a : A) (st : Nat → Int32) (hh : ph_hs st 0 (ph_hd n c)) (h : ∀ m st', W (m + 1) ((ph_ways n c).foldl step a) 0 0 0 0 st') : ∃ m, W m a 1 (nI (ph_hd n c).length) (nI c) (nI n) st := by
  obtain ⟨l, e⟩ := ph_cons n c
  refine ⟨l.length + 2, ph_yl W step hstep l (ph_hd n c) a st ?_ ?_ hh ?_⟩
  · rw [← e]; exact ph_chw n c
  · rw [← e]; exact ph_vdw n c
  · rw [← e]; exact h
def ph_S (L P w : Nat → Int32) (n c : Nat) : Nat := (ph_ways n c).foldl (fun a t => a + ph_wt (ph_f L P w) 0 0 0 t) 0
def ph_Sw (L P w : Nat → Int32) (mk : Nat → Nat → Nat → Bool) (n c : Nat) : Nat := (ph_ways n c).foldl (fun a t => if ph_has mk 0 0 t then a + ph_wt (ph_f L P w) 0 0 0 t else a) 0
def ph_G (L P w : Nat → Int32) (x : Int32) (n c : Nat) : Int32 := (ph_ways n c).foldl (fun a t => if (x = -1 ∨ nI t.length = x) ∧ ¬ nI (ph_sc (ph_s L P w) 0 0 0 t) ≤ a then nI (ph_sc (ph_s L P w) 0 0 0 t) else a) (-4)
def ph_Ti (L P w : Nat → Int32) (x : Int32) (n c : Nat) : Int32 := (ph_ways n c).foldl (fun a t => if nI (ph_sc (ph_s L P w) 0 0 0 t) = x then a + 1 else a) 0
def ph_Wo (L P w : Nat → Int32) (n c : Nat) : Int32 := (ph_ways n c).foldl (fun a t => if a ≤ nI (ph_sc (ph_s L P w) 0 0 0 t) then a else nI (ph_sc (ph_s L P w) 0 0 0 t)) 1000000
theorem ph_fp {α : Type} {p : α → Bool} {q : α} {l : List α} (h : p q = true) : (q :: l).find? p = some q := by
  rw [List.find?, h]
theorem ph_fn {α : Type} {p : α → Bool} {q : α} {l : List α} (h : p q = false) : (q :: l).find? p = l.find? p := by
  rw [List.find?, h]
section
variable {c n : Nat} {L P w : Nat → Int32}
theorem ph_ysum (hc : c ≤ 4) (hn : n ≤ 8) (hL : ph_bd L 9) (hP : ph_bd P 9) (hw : ph_bd w 3) {post : Int64 → SY → Prop} {x y z : Int32} {st : Nat → Int32} (h : ∀ st', post (lN (ph_S L P w n c)) (nI c, nI n, 0, 0, 0, L, P, w, st')) : wpY_sum post (nI c, nI n, x, y, z, L, P, w, st) := by
  unfold wpY_sum
  dsimp only
  refine ph_first hc hn (fun st' hh => ?_)
  exact ph_yl' (fun m a r sz co le st => wY_sum_8 post m (lN a) r (nI c) (nI n) sz co le L P w st) (fun a t => a + ph_wt (ph_f L P w) 0 0 0 t) (fun m a t st hv hh h0 h1 => br_f (by decide) (ph_ywt hc hn hL hP hw hv hh (nm_r (lN_add _ _) (ph_next hc hn hv hh h0 h1)))) 0 st' hh (fun m st' => br_t rfl (h st'))
theorem ph_ysw (hc : c ≤ 4) (hn : n ≤ 8) (hL : ph_bd L 9) (hP : ph_bd P 9) (hw : ph_bd w 3) {post : Int64 → SY → Prop} {x y z jx ix : Int32} {ka : Nat} {st : Nat → Int32} (hka : ka < 3) (h : ∀ st', post (lN (ph_Sw L P w (ph_mk ka jx ix) n c)) (nI c, nI n, 0, 0, 0, L, P, w, st')) : wpY_sumWith post (nI c, nI n, x, y, z, L, P, w, st) (nI ka) jx ix := by
  unfold wpY_sumWith
  dsimp only
  refine ph_first hc hn (fun st' hh => ?_)
  refine ph_yl' (fun m a r sz co le st => wY_sumWith_10 post (nI ka) jx ix m (lN a) r (nI c) (nI n) sz co le L P w st) (fun a t => if ph_has (ph_mk ka jx ix) 0 0 t then a + ph_wt (ph_f L P w) 0 0 0 t else a) (fun m a t st hv hh h0 h1 => br_f (by decide) (ph_yhs hc hn hka hv hh ?_)) 0 st' hh (fun m st' => br_t rfl (h st'))
  by_cases hs : ph_has (ph_mk ka jx ix) 0 0 t = true
  · simp only [if_pos hs] at h0 h1
    rw [if_pos hs]
    exact br_f (by decide) (ph_ywt hc hn hL hP hw hv hh (nm_r (lN_add _ _) (ph_next hc hn hv hh h0 h1)))
  · simp only [if_neg hs] at h0 h1
    rw [if_neg hs]
    exact br_t rfl (ph_next hc hn hv hh h0 h1)
theorem ph_yways (hc : c ≤ 4) (hn : n ≤ 8) {post : Int32 → SY → Prop} {x y z : Int32} {st : Nat → Int32} (h : ∀ st', post (nI ((ph_ways n c).foldl (fun a _ => a + 1) 0)) (nI c, nI n, 0, 0, 0, L, P, w, st')) : wpY_ways post (nI c, nI n, x, y, z, L, P, w, st) := by
  unfold wpY_ways
  dsimp only
  refine ph_first hc hn (fun st' hh => ?_)
  exact ph_yl' (fun m a r sz co le st => wY_ways_8 post m (nI a) r (nI c) (nI n) sz co le L P w st) (fun a _ => a + 1) (fun m a t st hv hh h0 h1 => br_f (by decide) (nm_r (nI_1 a) (ph_next hc hn hv hh h0 h1))) 0 st' hh (fun m st' => br_t rfl (h st'))
theorem ph_ygr (hc : c ≤ 4) (hn : n ≤ 8) (hL : ph_bd L 9) (hP : ph_bd P 9) (hw : ph_bd w 3) {post : Int32 → SY → Prop} {x y z sx : Int32} {st : Nat → Int32} (h : ∀ st', post (ph_G L P w sx n c) (nI c, nI n, 0, 0, 0, L, P, w, st')) : wpY_greatest post (nI c, nI n, x, y, z, L, P, w, st) sx := by
  unfold wpY_greatest
  dsimp only
  refine ph_first hc hn (fun st' hh => ?_)
  refine ph_yl' (fun m a r sz co le st => wY_greatest_9 post sx m a r (nI c) (nI n) sz co le L P w st) (fun a t => if (sx = -1 ∨ nI t.length = sx) ∧ ¬ nI (ph_sc (ph_s L P w) 0 0 0 t) ≤ a then nI (ph_sc (ph_s L P w) 0 0 0 t) else a) (fun m a t st hv hh h0 h1 => br_f (by decide) (ph_zsc hc hn hL hP hw hv hh ?_)) (-4) st' hh (fun m st' => br_t rfl (h st'))
  have h32 : (sx = -1 ∨ nI t.length = sx) → wY_greatest_32 post (wY_greatest_9 post sx m) sx a (nI (ph_sc (ph_s L P w) 0 0 0 t)) (nI c) (nI n) (nI t.length) (nI c) (nI n) L P w st := by
    intro hx
    refine br_c (fun q => ?_) (fun q => ?_)
    · simp only [if_neg (fun z : (sx = -1 ∨ nI t.length = sx) ∧ ¬ nI (ph_sc (ph_s L P w) 0 0 0 t) ≤ a => z.2 q)] at h0 h1
      exact ph_next hc hn hv hh h0 h1
    · simp only [if_pos (And.intro hx q)] at h0 h1
      exact ph_next hc hn hv hh h0 h1
  refine br_c (fun q => h32 (Or.inl q)) (fun q => br_c (fun q' => h32 (Or.inr q')) (fun q' => ?_))
  simp only [if_neg (fun z : (sx = -1 ∨ nI t.length = sx) ∧ ¬ nI (ph_sc (ph_s L P w) 0 0 0 t) ≤ a => z.1.elim q q')] at h0 h1
  exact ph_next hc hn hv hh h0 h1
theorem ph_yti (hc : c ≤ 4) (hn : n ≤ 8) (hL : ph_bd L 9) (hP : ph_bd P 9) (hw : ph_bd w 3) {post : Int32 → SY → Prop} {x y z : Int32} {st : Nat → Int32} (h : ∀ st', post (ph_Ti L P w (ph_G L P w (-1) n c) n c) (nI c, nI n, 0, 0, 0, L, P, w, st')) : wpY_ties post (nI c, nI n, x, y, z, L, P, w, st) := by
  unfold wpY_ties wpY_best
  dsimp only
  refine ph_ygr hc hn hL hP hw (fun st' => ?_)
  refine ph_first hc hn (fun st' hh => ?_)
  refine ph_yl' (fun m a r sz co le st => wY_ties_13 post (ph_G L P w (-1) n c) m a r (nI c) (nI n) sz co le L P w st) (fun a t => if nI (ph_sc (ph_s L P w) 0 0 0 t) = (ph_G L P w (-1) n c) then a + 1 else a) (fun m a t st hv hh h0 h1 => br_f (by decide) (ph_zsc hc hn hL hP hw hv hh (br_c (fun q => ?_) (fun q => ?_)))) 0 st' hh (fun m st' => br_t rfl (h st'))
  · simp only [if_pos q] at h0 h1
    exact ph_next hc hn hv hh h0 h1
  · simp only [if_neg q] at h0 h1
    exact ph_next hc hn hv hh h0 h1
theorem ph_ywo (hc : c ≤ 4) (hn : n ≤ 8) (hL : ph_bd L 9) (hP : ph_bd P 9) (hw : ph_bd w 3) {post : Int32 → SY → Prop} {x y z : Int32} {st : Nat → Int32} (h : ∀ st', post (ph_Wo L P w n c) (nI c, nI n, 0, 0, 0, L, P, w, st')) : wpY_worst post (nI c, nI n, x, y, z, L, P, w, st) := by
  unfold wpY_worst
  dsimp only
  refine ph_first hc hn (fun st' hh => ?_)
  refine ph_yl' (fun m a r sz co le st => wY_worst_9 post m a r (nI c) (nI n) sz co le L P w st) (fun a t => if a ≤ nI (ph_sc (ph_s L P w) 0 0 0 t) then a else nI (ph_sc (ph_s L P w) 0 0 0 t)) (fun m a t st hv hh h0 h1 => br_f (by decide) (ph_zsc hc hn hL hP hw hv hh (br_c (fun q => ?_) (fun q => ?_)))) 1000000 st' hh (fun m st' => br_t rfl (h st'))
  · simp only [if_pos q] at h0 h1
    exact ph_next hc hn hv hh h0 h1
  · simp only [if_neg q] at h0 h1
    exact ph_next hc hn hv hh h0 h1
theorem ph_yb11 (hc : c ≤ 4) (hn : n ≤ 8) (hL : ph_bd L 9) (hP : ph_bd P 9) (hw : ph_bd w 3) {post : Int32 → SY → Prop} {x1 mo : Int32} {t : List Nat} (h : ∀ st', ph_hs st' 0 t → wY_bestStep_31 post x1 (nI c) (nI n) (nI t.length) (nI c) (nI n) L P w st') : ∀ (l : List (List Nat)) (q : List Nat) (st : Nat → Int32), ph_ch (ph_nx n c) (q :: l) none → (∀ r, r ∈ q :: l → ph_vd n c r) → ph_hs st 0 q → (q :: l).find? (fun r => decide (mo ≤ nI (ph_sc (ph_s L P w) 0 0 0 r))) = some t → wY_bestStep_11 post x1 mo (l.length + 1) 1 (nI c) (nI n) (nI q.length) (nI c) (nI n) L P w st := by
  intro l
  induction l with
  | nil =>
    intro q st hch hv hh hf
    refine br_f (by decide) (ph_zsc hc hn hL hP hw (hv q List.mem_cons_self) hh (br_c (fun z => ?_) (fun z => ?_)))
    · rw [ph_fp (p := fun r => decide (mo ≤ nI (ph_sc (ph_s L P w) 0 0 0 r))) (decide_eq_true z)] at hf
      cases hf
      exact h st hh
    · rw [ph_fn (p := fun r => decide (mo ≤ nI (ph_sc (ph_s L P w) 0 0 0 r))) (decide_eq_false z)] at hf
      exact nomatch hf
  | cons q' l ih =>
    intro q st hch hv hh hf
    refine br_f (by decide) (ph_zsc hc hn hL hP hw (hv q List.mem_cons_self) hh (br_c (fun z => ?_) (fun z => ?_)))
    · rw [ph_fp (p := fun r => decide (mo ≤ nI (ph_sc (ph_s L P w) 0 0 0 r))) (decide_eq_true z)] at hf
      cases hf
      exact h st hh
    · rw [ph_fn (p := fun r => decide (mo ≤ nI (ph_sc (ph_s L P w) 0 0 0 r))) (decide_eq_false z)] at hf
      have h1 : ph_nx n c q = some q' := hch.1
      refine ph_next hc hn (hv q List.mem_cons_self) hh (fun z => ?_) (fun r hr st' hh' => ?_)
      · rw [h1] at z; exact nomatch z
      · rw [h1] at hr
        cases hr
        exact ih q' st' hch.2 (fun r hr => hv r (List.mem_cons_of_mem _ hr)) hh' hf
theorem ph_ybs (hc : c ≤ 4) (hn : n ≤ 8) (hL : ph_bd L 9) (hP : ph_bd P 9) (hw : ph_bd w 3) {post : Int32 → SY → Prop} {x y z x1 : Int32} {st : Nat → Int32} {t : List Nat} (hf : (ph_ways n c).find? (fun r => decide (ph_G L P w (-1) n c ≤ nI (ph_sc (ph_s L P w) 0 0 0 r))) = some t) (h : ∀ st', ph_hs st' 0 t → wY_bestStep_31 post x1 (nI c) (nI n) (nI t.length) (nI c) (nI n) L P w st') : wpY_bestStep post (nI c, nI n, x, y, z, L, P, w, st) x1 := by
  unfold wpY_bestStep wpY_best
  dsimp only
  refine ph_ygr hc hn hL hP hw (fun st' => ?_)
  refine ph_first hc hn (fun st' hh => ?_)
  obtain ⟨l, e⟩ := ph_cons n c
  refine Exists.intro (l.length + 1) (ph_yb11 hc hn hL hP hw h l (ph_hd n c) st' ?_ ?_ hh ?_)
  · rw [← e]; exact ph_chw n c
  · rw [← e]; exact ph_vdw n c
  · rw [← e]; exact hf
end
def ph_ww (w : Nat → Int32) (n : Nat) : Nat → Nat → Int32
  | 0 => w
  | a + 1 => upd (ph_ww w n a) n (nI a)
def ph_ns (L P w : Nat → Int32) (n c : Nat) : Nat → Nat
  | 0 => 0
  | a + 1 => ph_ns L P w n c a + ph_S L P (ph_ww w n (a + 1)) (n + 1) c
theorem ph_bdu {f : Nat → Int32} {b k a : Nat} (h : ph_bd f b) (ha : a ≤ b) : ph_bd (upd f k (nI a)) b := by
  intro x
  by_cases z : x = k
  · subst z; exact ⟨a, ha, pk_us⟩
  · rw [pk_un z]; exact h x
theorem ph_bdw {w : Nat → Int32} (hw : ph_bd w 3) (n : Nat) : ∀ a, a ≤ 4 → ph_bd (ph_ww w n a) 3 := by
  intro a
  induction a with
  | zero => intro _; exact hw
  | succ a ih => intro h; exact ph_bdu (ih (by omega)) (by omega)
section
variable {c n : Nat} {L P w : Nat → Int32}
theorem ph_ynx (hc : c ≤ 4) (hn : n ≤ 7) (hL : ph_bd L 9) (hP : ph_bd P 9) (hw : ph_bd w 3) {post : Int64 → SY → Prop} (h : ∀ x y z st', post (lN (ph_ns L P w n c 4)) (nI c, nI n, x, y, z, L, P, ph_ww w n 4, st')) : ∀ (d a : Nat) (x y z : Int32) (st : Nat → Int32), a + d = 4 → wY_next_14 post (d + 1) (lN (ph_ns L P w n c a)) (nI a) (nI c) (nI (n + 1)) x y z L P (ph_ww w n a) st := by
  intro d
  induction d with
  | zero =>
    intro a x y z st ha
    obtain rfl : a = 4 := by omega
    exact br_t (by decide) (nm_r (nI_pred n) (h x y z st))
  | succ d ih =>
    intro a x y z st ha
    refine br_f (nI_ge (b := 4) (by omega) (by decide)) (And.intro ?_ (nm_r (e' := ph_ww w n (a + 1)) ?_ ?_))
    · rw [nI_pred]; exact vp_in_nI (by omega) (by omega)
    · rw [nI_pred, nI_clamp (by omega)]; rfl
    · exact ph_ysum hc (by omega) hL hP (ph_bdw hw n (a + 1) (by omega)) (fun st' => nm_r (lN_add _ _) (nm_r (nI_1 a) (ih (a + 1) 0 0 0 st' (by omega))))
theorem ph_ynext (hc : c ≤ 4) (hn : n ≤ 7) (hL : ph_bd L 9) (hP : ph_bd P 9) (hw : ph_bd w 3) {post : Int64 → SY → Prop} {x y z : Int32} {st : Nat → Int32} (h : ∀ x y z st', post (lN (ph_ns L P w n c 4)) (nI c, nI n, x, y, z, L, P, ph_ww w n 4, st')) : wpY_next post (nI c, nI n, x, y, z, L, P, w, st) := by
  exact nm_r (nI_1 n) (Exists.intro 5 (ph_ynx hc hn hL hP hw h 4 0 x y z st rfl))
end
end
section
/-! the class's small methods, and its threefold loops -/
def ph_ix (i j p : Nat) : Nat := i * 15 + j * 3 + p
section
variable {c : Nat} {fl : Int32} {w L P : Nat → Int32} {wb wa : Nat → Int64} {en gr fk gc le go : Nat → Int32}
theorem ph_xlet {post : Int32 → Prop} {u : SX} {k : Nat} (hk : k < 3) (h : post (nI (ph_le k))) : wpX_lettersOf post u (nI k) := by
  obtain ⟨u1, u2, u3, u4, u5, u6, u7, u8, u9, u10, u11, u12, u13⟩ := u
  rcases ph_k3 hk with rfl | rfl | rfl
  · exact br_f (by decide) h
  · exact br_f (by decide) h
  · exact br_t (by decide) h
theorem ph_xcol {post : Int32 → Prop} {u : SX} {k : Nat} (hk : k < 3) (h : post (nI (ph_co k))) : wpX_columnsOf post u (nI k) := by
  obtain ⟨u1, u2, u3, u4, u5, u6, u7, u8, u9, u10, u11, u12, u13⟩ := u
  rcases ph_k3 hk with rfl | rfl | rfl
  · exact br_f (by decide) h
  · exact br_t (by decide) h
  · exact br_f (by decide) h
theorem ph_xcan {post : Int32 → Prop} {i j k m : Nat} (hk : k < 3) (hi : i ≤ 8) (hj : j ≤ 4) (hm : m ≤ 8) (hc : c ≤ 4) (h : post (if i + ph_le k ≤ m ∧ j + ph_co k ≤ c then 1 else 0)) : wpX_canStep post (nI c, fl, w, L, P, wb, wa, en, gr, fk, gc, le, go) (nI k) (nI i) (nI j) (nI m) := by
  have h1 := ph_leL k
  have h2 := ph_coL k
  unfold wpX_canStep
  dsimp only
  refine ph_xlet hk ?_
  refine pk_lt m (i + ph_le k) (fun q => ?_) (fun q => ?_) (hy := nI_add _ _)
  · rw [if_neg (by omega)] at h; exact h
  · refine ph_xcol hk ?_
    refine pk_lt c (j + ph_co k) (fun q => ?_) (fun q => ?_) (hy := nI_add _ _)
    · rw [if_neg (by omega)] at h; exact h
    · rw [if_pos (by omega)] at h; exact h
theorem ph_xpe (i j p : Nat) : nI i * 15 + nI j * 3 + nI p = nI (ph_ix i j p) := by
  rw [ph_n15, ph_n3, pk_mul, pk_mul, nI_add, nI_add]; rfl
theorem ph_xpt {post : Int32 → Prop} {u : SX} {i j p : Nat} (h : post (nI (ph_ix i j p))) : wpX_pointAt post u (nI i) (nI j) (nI p) := by
  obtain ⟨u1, u2, u3, u4, u5, u6, u7, u8, u9, u10, u11, u12, u13⟩ := u
  unfold wpX_pointAt
  dsimp only
  rw [ph_xpe]
  exact h
theorem ph_xpa {post : Int32 → Prop} {u : SX} {i j k : Nat} (hk : k < 3) (h : post (nI (ph_ix (i + ph_le k) (j + ph_co k) k))) : wpX_pointAfter post u (nI k) (nI i) (nI j) := by
  obtain ⟨u1, u2, u3, u4, u5, u6, u7, u8, u9, u10, u11, u12, u13⟩ := u
  unfold wpX_pointAfter
  dsimp only
  refine ph_xlet hk ?_
  refine nm_r (nI_add _ _) ?_
  refine ph_xcol hk ?_
  refine nm_r (nI_add _ _) ?_
  exact ph_xpt h
theorem ph_xend {post : Int32 → Prop} {i j m : Nat} (hi : i ≤ 8) (hj : j ≤ 4) (hm : m ≤ 8) (hc : c ≤ 4) (h : post (if i = m ∧ j = c then 1 else 0)) : wpX_isEnd post (nI c, fl, w, L, P, wb, wa, en, gr, fk, gc, le, go) (nI i) (nI j) (nI m) := by
  refine pk_eq i m (fun q => pk_eq j c (fun q' => ?_) (fun q' => ?_)) (fun q => ?_)
  · rw [if_pos ⟨q, q'⟩] at h; exact h
  · rw [if_neg (fun z => q' z.2)] at h; exact h
  · rw [if_neg (fun z => q z.1)] at h; exact h
theorem ph_xli (hL : ph_bd L 9) (hw : ph_bd w 3) {post : Int32 → Prop} {fc : Int32} {i j : Nat} (hi : i < 8) (hj : j < 4) (h : post (nI (ph_li L w i j))) : wpX_likingAt post (fc, fl, w, L, P, wb, wa, en, gr, fk, gc, le, go) (nI i) (nI j) := by
  obtain ⟨hwe, hw3⟩ := ph_bdv hw (by omega) i
  have iy : (nI j + 1) * 4 + w (nI i).toNatClampNeg = nI ((j + 1) * 4 + (w i).toNatClampNeg) := by
    rw [nI_clamp (by omega), nI_1, hwe, ph_i4', nI_clamp (by omega)]
  unfold wpX_likingAt
  dsimp only
  rw [iy, nI_clamp (by omega), ph_liL hL]
  exact ⟨vp_in_nI hi (by omega), vp_in_nI (by omega) (by omega), h⟩
theorem ph_xfac (hL : ph_bd L 9) (hP : ph_bd P 9) (hw : ph_bd w 3) {post : Int32 → Prop} {fc : Int32} {p k i j : Nat} (hp : p < 3) (hk : k < 3) (hk0 : k = 0 → i < 8 ∧ j < 4) (h : post (nI (ph_f L P w p k i j))) : wpX_factorOf post (fc, fl, w, L, P, wb, wa, en, gr, fk, gc, le, go) (nI p) (nI k) (nI i) (nI j) := by
  unfold wpX_factorOf
  dsimp only
  rw [ph_i3', nI_clamp (by omega), ph_paP hP]
  refine ⟨vp_in_nI (by omega) (by omega), nm_e (pk_eq k 0 (fun z => ?_) (fun z => ?_))⟩
  · subst z
    refine ph_xli hL hw (hk0 rfl).1 (hk0 rfl).2 ?_
    rw [ph_f, if_pos rfl] at h
    rw [pk_mul]
    exact h
  · rw [ph_f, if_neg z] at h
    exact h
theorem ph_xsco (hL : ph_bd L 9) (hP : ph_bd P 9) (hw : ph_bd w 3) {post : Int32 → Prop} {fc : Int32} {p k i j : Nat} (hp : p < 3) (hk : k < 3) (hk0 : k = 0 → i < 8 ∧ j < 4) (h : post (nI (ph_s L P w p k i j))) : wpX_scoreOf post (fc, fl, w, L, P, wb, wa, en, gr, fk, gc, le, go) (nI p) (nI k) (nI i) (nI j) := by
  unfold wpX_scoreOf
  dsimp only
  rw [ph_i3', nI_clamp (by omega), ph_paP hP]
  refine ⟨vp_in_nI (by omega) (by omega), nm_e (pk_eq k 0 (fun z => ?_) (fun z => ?_))⟩
  · subst z
    refine ph_xli hL hw (hk0 rfl).1 (hk0 rfl).2 ?_
    rw [ph_s, if_pos rfl] at h
    rw [nI_add]
    exact h
  · rw [ph_s, if_neg z] at h
    exact h
end
theorem ph_dn {σ : Type} {N C : Nat} (hN : N ≤ 8) (hC : C ≤ 4) (W1 : Nat → Int32 → σ → Prop) (W2 : Nat → Int32 → Nat → Int32 → σ → Prop) (W3 : Nat → Int32 → Nat → Int32 → Nat → Int32 → σ → Prop) (Post : σ → Prop) (I : Nat → Nat → Nat → σ → Prop)
    (h1x : ∀ m x s, x < 0 → Post s → W1 (m + 1) x s)
    (h1 : ∀ m x s, ¬ x < 0 → (∃ q, W2 m x q (nI C) s) → W1 (m + 1) x s)
    (h2x : ∀ m x q y s, y < 0 → W1 m (x + (-1)) s → W2 m x (q + 1) y s)
    (h2 : ∀ m x q y s, ¬ y < 0 → (∃ r, W3 m x q y r 0 s) → W2 m x (q + 1) y s)
    (h3x : ∀ m x q y r z s, 3 ≤ z → W2 m x q (y + (-1)) s → W3 m x q y (r + 1) z s)
    (h3 : ∀ m i q j r p s, i ≤ N → j ≤ C → p < 3 → I i j p s → (∀ s', I i j (p + 1) s' → W3 m (nI i) q (nI j) r (nI (p + 1)) s') → W3 m (nI i) q (nI j) (r + 1) (nI p) s)
    (t1 : ∀ i j s, i ≤ N → j + 1 ≤ C → I i (j + 1) 3 s → I i j 0 s)
    (t2 : ∀ i s, i + 1 ≤ N → I (i + 1) 0 3 s → I i C 0 s)
    (t3 : ∀ s, I 0 0 3 s → Post s) : ∀ s, I N C 0 s → ∃ m, W1 m (nI N) s := by
  have lp : ∀ m i q j, i ≤ N → j ≤ C → (∀ s, I i j 3 s → W2 m (nI i) q (nI j + (-1)) s) → ∀ d p s, p + d = 3 → I i j p s → W3 m (nI i) q (nI j) (d + 1) (nI p) s := by
    intro m i q j hi hj hk d
    induction d with
    | zero =>
      intro p s hp hI
      obtain rfl : p = 3 := by omega
      exact h3x _ _ _ _ _ _ _ (by decide) (hk s hI)
    | succ d ih =>
      intro p s hp hI
      exact h3 _ _ _ _ _ _ _ hi hj (by omega) hI (fun s' hI' => ih (p + 1) s' (by omega) hI')
  have lj : ∀ m i, i ≤ N → (∀ s, I i 0 3 s → W1 m (nI i + (-1)) s) → ∀ j, j ≤ C → ∀ s, I i j 0 s → W2 m (nI i) (j + 2) (nI j) s := by
    intro m i hi hk j
    induction j with
    | zero =>
      intro hj s hI
      exact h2 _ _ _ _ _ (by decide) ⟨4, lp m i 1 0 hi hj (fun s hs => h2x _ _ _ _ _ (by decide) (hk s hs)) 3 0 s rfl hI⟩
    | succ j ih =>
      intro hj s hI
      exact h2 _ _ _ _ _ (nI_pos (by omega)) ⟨4, lp m i (j + 2) (j + 1) hi hj (fun s hs => by rw [pk_m1]; exact ih (by omega) s (t1 i j s hi hj hs)) 3 0 s rfl hI⟩
  have li : ∀ i, i ≤ N → ∀ s, I i C 0 s → W1 (i + 2) (nI i) s := by
    intro i
    induction i with
    | zero =>
      intro hi s hI
      exact h1 _ _ _ (by decide) ⟨C + 2, lj 1 0 hi (fun s hs => h1x _ _ _ (by decide) (t3 s hs)) C (Nat.le_refl _) s hI⟩
    | succ i ih =>
      intro hi s hI
      exact h1 _ _ _ (nI_pos (by omega)) ⟨C + 2, lj (i + 2) (i + 1) hi (fun s hs => by rw [pk_m1]; exact ih (by omega) s (t2 i s hi hs)) C (Nat.le_refl _) s hI⟩
  intro s hI
  exact ⟨N + 2, li N (Nat.le_refl _) s hI⟩
theorem ph_up {σ : Type} {N C : Nat} (hN : N ≤ 8) (hC : C ≤ 4) (W1 : Nat → Int32 → σ → Prop) (W2 : Nat → Int32 → Nat → Int32 → σ → Prop) (W3 : Nat → Int32 → Nat → Int32 → Nat → Int32 → σ → Prop) (Post : σ → Prop) (I : Nat → Nat → Nat → σ → Prop)
    (h1x : ∀ m x s, nI N < x → Post s → W1 (m + 1) x s)
    (h1 : ∀ m x s, ¬ nI N < x → (∃ q, W2 m x q 0 s) → W1 (m + 1) x s)
    (h2x : ∀ m x q y s, nI C < y → W1 m (x + 1) s → W2 m x (q + 1) y s)
    (h2 : ∀ m x q y s, ¬ nI C < y → (∃ r, W3 m x q y r 0 s) → W2 m x (q + 1) y s)
    (h3x : ∀ m x q y r z s, 3 ≤ z → W2 m x q (y + 1) s → W3 m x q y (r + 1) z s)
    (h3 : ∀ m i q j r p s, i ≤ N → j ≤ C → p < 3 → I i j p s → (∀ s', I i j (p + 1) s' → W3 m (nI i) q (nI j) r (nI (p + 1)) s') → W3 m (nI i) q (nI j) (r + 1) (nI p) s)
    (t1 : ∀ i j s, i ≤ N → j ≤ C → I i j 3 s → I i (j + 1) 0 s)
    (t2 : ∀ i s, i ≤ N → I i (C + 1) 0 s → I (i + 1) 0 0 s)
    (t3 : ∀ s, I (N + 1) 0 0 s → Post s) : ∀ s, I 0 0 0 s → ∃ m, W1 m 0 s := by
  have lp : ∀ m i q j, i ≤ N → j ≤ C → (∀ s, I i j 3 s → W2 m (nI i) q (nI j + 1) s) → ∀ d p s, p + d = 3 → I i j p s → W3 m (nI i) q (nI j) (d + 1) (nI p) s := by
    intro m i q j hi hj hk d
    induction d with
    | zero =>
      intro p s hp hI
      obtain rfl : p = 3 := by omega
      exact h3x _ _ _ _ _ _ _ (by decide) (hk s hI)
    | succ d ih =>
      intro p s hp hI
      exact h3 _ _ _ _ _ _ _ hi hj (by omega) hI (fun s' hI' => ih (p + 1) s' (by omega) hI')
  have lj : ∀ m i, i ≤ N → (∀ s, I i (C + 1) 0 s → W1 m (nI i + 1) s) → ∀ d j, j + d = C + 1 → ∀ s, I i j 0 s → W2 m (nI i) (d + 1) (nI j) s := by
    intro m i hi hk d
    induction d with
    | zero =>
      intro j hj s hI
      obtain rfl : j = C + 1 := by omega
      exact h2x _ _ _ _ _ (nI_lt (by omega) (by omega)) (hk s hI)
    | succ d ih =>
      intro j hj s hI
      exact h2 _ _ _ _ _ (nI_nlt (by omega) (by omega)) ⟨4, lp m i (d + 1) j hi (by omega) (fun s hs => by rw [nI_1]; exact ih (j + 1) (by omega) s (t1 i j s hi (by omega) hs)) 3 0 s rfl hI⟩
  have li : ∀ d i, i + d = N + 1 → ∀ s, I i 0 0 s → W1 (d + 1) (nI i) s := by
    intro d
    induction d with
    | zero =>
      intro i hi s hI
      obtain rfl : i = N + 1 := by omega
      exact h1x _ _ _ (nI_lt (by omega) (by omega)) (t3 s hI)
    | succ d ih =>
      intro i hi s hI
      exact h1 _ _ _ (nI_nlt (by omega) (by omega)) ⟨C + 2, lj (d + 1) i (by omega) (fun s hs => by rw [nI_1]; exact ih (i + 1) (by omega) s (t2 i s (by omega) hs)) (C + 1) 0 (by omega) s hI⟩
  intro s hI
  exact ⟨N + 2, li (N + 1) 0 (by omega) s hI⟩
def ph_D {α : Type} (v : Nat → Nat → Nat → α) (N C i j p : Nat) (T : Nat → α) : Prop := ∀ i' j' p', i' ≤ N → j' ≤ C → p' < 3 → (i < i' ∨ (i = i' ∧ (j < j' ∨ (j = j' ∧ p' < p)))) → T (ph_ix i' j' p') = v i' j' p'
def ph_U {α : Type} (v : Nat → Nat → Nat → α) (N C i j p : Nat) (T : Nat → α) : Prop := ∀ i' j' p', i' ≤ N → j' ≤ C → p' < 3 → (i' < i ∨ (i = i' ∧ (j' < j ∨ (j = j' ∧ p' < p)))) → T (ph_ix i' j' p') = v i' j' p'
theorem ph_ixi {i j p i' j' p' : Nat} (hj : j ≤ 4) (hj' : j' ≤ 4) (hp : p < 3) (hp' : p' < 3) (h : ph_ix i' j' p' = ph_ix i j p) : i' = i ∧ j' = j ∧ p' = p := by
  unfold ph_ix at h; omega
theorem ph_ixb {i j p : Nat} (hi : i ≤ 8) (hj : j ≤ 4) (hp : p < 3) : ph_ix i j p < 135 := by
  unfold ph_ix; omega
section
variable {α : Type} {v : Nat → Nat → Nat → α} {N C : Nat}
theorem ph_Dt1 {i j : Nat} {T : Nat → α} (h : ph_D v N C i (j + 1) 3 T) : ph_D v N C i j 0 T := fun i' j' p' h1 h2 h3 h4 => h i' j' p' h1 h2 h3 (by omega)
theorem ph_Dt2 {i : Nat} {T : Nat → α} (h : ph_D v N C (i + 1) 0 3 T) : ph_D v N C i C 0 T := fun i' j' p' h1 h2 h3 h4 => h i' j' p' h1 h2 h3 (by omega)
theorem ph_Dt3 {T : Nat → α} (h : ph_D v N C 0 0 3 T) : ∀ i j p, i ≤ N → j ≤ C → p < 3 → T (ph_ix i j p) = v i j p := fun i' j' p' h1 h2 h3 => h i' j' p' h1 h2 h3 (by omega)
theorem ph_D0 {T : Nat → α} : ph_D v N C N C 0 T := fun i' j' p' h1 h2 h3 h4 => by omega
theorem ph_Ut1 {i j : Nat} {T : Nat → α} (h : ph_U v N C i j 3 T) : ph_U v N C i (j + 1) 0 T := fun i' j' p' h1 h2 h3 h4 => h i' j' p' h1 h2 h3 (by omega)
theorem ph_Ut2 {i : Nat} {T : Nat → α} (h : ph_U v N C i (C + 1) 0 T) : ph_U v N C (i + 1) 0 0 T := fun i' j' p' h1 h2 h3 h4 => h i' j' p' h1 h2 h3 (by omega)
theorem ph_Ut3 {T : Nat → α} (h : ph_U v N C (N + 1) 0 0 T) : ∀ i j p, i ≤ N → j ≤ C → p < 3 → T (ph_ix i j p) = v i j p := fun i' j' p' h1 h2 h3 => h i' j' p' h1 h2 h3 (by omega)
theorem ph_U0 {T : Nat → α} : ph_U v N C 0 0 0 T := fun i' j' p' h1 h2 h3 h4 => by omega
theorem ph_Dp {i j p : Nat} {T T' : Nat → α} (hC : C ≤ 4) (hj : j ≤ C) (hp : p < 3) (h : ph_D v N C i j p T) (h1 : T' (ph_ix i j p) = v i j p) (h2 : ∀ x, x ≠ ph_ix i j p → T' x = T x) : ph_D v N C i j (p + 1) T' := by
  intro i' j' p' a1 a2 a3 a4
  by_cases z : ph_ix i' j' p' = ph_ix i j p
  · obtain ⟨rfl, rfl, rfl⟩ := ph_ixi (by omega) (by omega) hp a3 z
    exact h1
  · rw [h2 _ z]
    refine h i' j' p' a1 a2 a3 ?_
    have : ¬ (i = i' ∧ j = j' ∧ p' = p) := fun q => z (by rw [q.1, q.2.1, q.2.2])
    omega
theorem ph_Up {i j p : Nat} {T T' : Nat → α} (hC : C ≤ 4) (hj : j ≤ C) (hp : p < 3) (h : ph_U v N C i j p T) (h1 : T' (ph_ix i j p) = v i j p) (h2 : ∀ x, x ≠ ph_ix i j p → T' x = T x) : ph_U v N C i j (p + 1) T' := by
  intro i' j' p' a1 a2 a3 a4
  by_cases z : ph_ix i' j' p' = ph_ix i j p
  · obtain ⟨rfl, rfl, rfl⟩ := ph_ixi (by omega) (by omega) hp a3 z
    exact h1
  · rw [h2 _ z]
    refine h i' j' p' a1 a2 a3 ?_
    have : ¬ (i = i' ∧ j = j' ∧ p' = p) := fun q => z (by rw [q.1, q.2.1, q.2.2])
    omega
end
end
section
/-! the class's sum, next, ways -/
def ph_aW (f : Nat → Nat → Nat → Nat → Nat) (p k i j x : Nat) : Nat := f p k i j * x
def ph_aC (_ _ _ _ x : Nat) : Nat := x
def ph_B (f : Nat → Nat → Nat → Nat → Nat) (n c i j p : Nat) : Nat := ph_T Nat.add 0 1 (ph_aW f) n c i j p
def ph_E (n c i j p : Nat) : Nat := ph_T Nat.add 0 1 ph_aC n c i j p
theorem ph_lawW (f : Nat → Nat → Nat → Nat → Nat) : ph_law Nat.add 0 (ph_aW f) :=
  ⟨Nat.add_assoc, Nat.zero_add, Nat.add_zero, fun p k i j x y => Nat.mul_add (f p k i j) x y, fun p k i j => Nat.mul_zero (f p k i j)⟩
theorem ph_lawC : ph_law Nat.add 0 ph_aC :=
  ⟨Nat.add_assoc, Nat.zero_add, Nat.add_zero, fun _ _ _ _ _ _ => rfl, fun _ _ _ _ => rfl⟩
theorem ph_wtg (f : Nat → Nat → Nat → Nat → Nat) : ∀ (t : List Nat) (i j p : Nat), ph_gv 1 (ph_aW f) i j p t = ph_wt f i j p t := by
  intro t
  induction t with
  | nil => intro i j p; rfl
  | cons k t ih => intro i j p; show f p k i j * _ = f p k i j * _; rw [ih]
theorem ph_lfc {M : Type} {op : M → M → M} {e : M} {g g' : List Nat → M} (h : ∀ t, g t = g' t) (l : List (List Nat)) : ph_lf op e g l = ph_lf op e g' l := by
  rw [show g = g' from funext h]
theorem ph_SB (L P w : Nat → Int32) (n c : Nat) : ph_S L P w n c = ph_B (ph_f L P w) n c 0 0 0 := by
  have h := ph_fl (op := Nat.add) (e := 0) (g := ph_wt (ph_f L P w) 0 0 0) Nat.add_assoc Nat.add_zero (ph_ways n c) 0
  have h2 : Nat.add 0 (ph_lf Nat.add 0 (ph_wt (ph_f L P w) 0 0 0) (ph_ways n c)) = ph_lf Nat.add 0 (ph_wt (ph_f L P w) 0 0 0) (ph_ways n c) := Nat.zero_add _
  unfold ph_S ph_B ph_T
  rw [ph_lfc (ph_wtg (ph_f L P w) · 0 0 0), Nat.sub_zero, Nat.sub_zero]
  exact h.trans h2
theorem ph_gc : ∀ (t : List Nat) (i j p : Nat), ph_gv 1 ph_aC i j p t = 1 := by
  intro t
  induction t with
  | nil => intro i j p; rfl
  | cons k t ih => intro i j p; exact ih _ _ _
theorem ph_WE (n c : Nat) : (ph_ways n c).foldl (fun a _ => a + 1) 0 = ph_E n c 0 0 0 := by
  have h := ph_fl (op := Nat.add) (e := 0) (g := fun _ => 1) Nat.add_assoc Nat.add_zero (ph_ways n c) 0
  have h2 : Nat.add 0 (ph_lf Nat.add 0 (fun _ => 1) (ph_ways n c)) = ph_lf Nat.add 0 (fun _ => 1) (ph_ways n c) := Nat.zero_add _
  unfold ph_E ph_T
  rw [ph_lfc (ph_gc · 0 0 0), Nat.sub_zero, Nat.sub_zero]
  exact h.trans h2
section
variable {c n m : Nat} {fl : Int32} {w L P : Nat → Int32} {wb wa : Nat → Int64} {en gr fk gc le go : Nat → Int32}
theorem ph_xwf (hc : c ≤ 4) (hm : m ≤ 8) (hL : ph_bd L 9) (hP : ph_bd P 9) (hw : ph_bd w 3) {post : Int64 → Prop} {i j p k r acc : Nat} (hi : i ≤ m) (hj : j ≤ c) (hp : p < 3) (hk : k < 3) (hT : i + ph_le k ≤ m ∧ j + ph_co k ≤ c → wa (ph_ix (i + ph_le k) (j + ph_co k) k) = lN (ph_B (ph_f L P w) m c (i + ph_le k) (j + ph_co k) k)) (h : wX_weightFrom_19 post (nI i) (nI j) (nI p) (nI m) (nI c) fl w L P wb wa en gr fk gc le go r (lN (Nat.add acc (ph_X Nat.add 0 1 (ph_aW (ph_f L P w)) m c i j p k))) (nI (k + 1))) : wX_weightFrom_19 post (nI i) (nI j) (nI p) (nI m) (nI c) fl w L P wb wa en gr fk gc le go (r + 1) (lN acc) (nI k) := by
  refine br_f (nI_ge (b := 3) hk (by decide)) (ph_xcan hk (by omega) (by omega) hm hc ?_)
  have hf := ph_f81 (w := w) hL hP p k i j
  by_cases z : i + ph_le k ≤ m ∧ j + ph_co k ≤ c
  · have hb := ph_ixb (i := i + ph_le k) (j := j + ph_co k) (p := k) (by omega) (by omega) hk
    rw [if_pos z]
    rw [ph_X, if_pos z] at h
    refine br_f (by decide) (ph_xfac hL hP hw hp hk (fun q => by subst q; rw [ph_le0, ph_co0] at z; omega) (ph_xpa hk (And.intro (vp_in_nI hb (by decide)) (nm_r ?_ (nm_r (nI_1 k) h)))))
    rw [nI_clamp (by omega), hT z, nI_l (by omega), lN_mul, lN_add]
    rfl
  · rw [if_neg z]
    rw [ph_X, if_neg z] at h
    exact br_t rfl (nm_r (nI_1 k) h)
theorem ph_xwF (hc : c ≤ 4) (hm : m ≤ 8) (hL : ph_bd L 9) (hP : ph_bd P 9) (hw : ph_bd w 3) {post : Int64 → Prop} {i j p : Nat} (hi : i ≤ m) (hj : j ≤ c) (hp : p < 3) (hT : ∀ k, k < 3 → i + ph_le k ≤ m ∧ j + ph_co k ≤ c → wa (ph_ix (i + ph_le k) (j + ph_co k) k) = lN (ph_B (ph_f L P w) m c (i + ph_le k) (j + ph_co k) k)) (h : post (lN (ph_B (ph_f L P w) m c i j p))) : wpX_weightFrom post (nI c, fl, w, L, P, wb, wa, en, gr, fk, gc, le, go) (nI i) (nI j) (nI p) (nI m) := by
  unfold wpX_weightFrom
  dsimp only
  refine ph_xend (by omega) (by omega) hm hc ?_
  by_cases z : i = m ∧ j = c
  · rw [if_pos z]
    obtain ⟨rfl, rfl⟩ := z
    rw [ph_B, ph_Tend (ph_lawW _)] at h
    exact br_f (by decide) h
  · rw [if_neg z]
    refine br_t rfl (Exists.intro 4 ?_)
    rw [ph_B, ph_Trec (ph_lawW _) p hi hj z] at h
    exact ph_xwf (k := 0) (acc := 0) hc hm hL hP hw hi hj hp (by omega) (hT 0 (by omega)) (ph_xwf (k := 1) hc hm hL hP hw hi hj hp (by omega) (hT 1 (by omega)) (ph_xwf (k := 2) hc hm hL hP hw hi hj hp (by omega) (hT 2 (by omega)) (br_t (by decide) h)))
theorem ph_xfa (hc : c ≤ 4) (hm : m ≤ 8) (hL : ph_bd L 9) (hP : ph_bd P 9) (hw : ph_bd w 3) {post : SX → Prop} (h : ∀ wa' : Nat → Int64, (∀ i j p, i ≤ m → j ≤ c → p < 3 → wa' (ph_ix i j p) = lN (ph_B (ph_f L P w) m c i j p)) → post (nI c, fl, w, L, P, wb, wa', en, gr, fk, gc, le, go)) : wpX_fillWeightAfter post (nI c, fl, w, L, P, wb, wa, en, gr, fk, gc, le, go) (nI m) := by
  refine ph_dn (N := m) (C := c) hm hc
    (fun q x wa => wX_fillWeightAfter_2 post (nI m) (nI c) fl q x w L P wb wa en gr fk gc le go)
    (fun m1 x q y wa => wX_fillWeightAfter_11 post (wX_fillWeightAfter_2 post (nI m) (nI c) fl m1) (nI m) x (nI c) fl q y w L P wb wa en gr fk gc le go)
    (fun m1 x q y r z wa => wX_fillWeightAfter_18 post (wX_fillWeightAfter_2 post (nI m) (nI c) fl m1) (wX_fillWeightAfter_11 post (wX_fillWeightAfter_2 post (nI m) (nI c) fl m1) (nI m) x (nI c) fl q) (nI m) x y (nI c) fl r z w L P wb wa en gr fk gc le go)
    (fun wa => post (nI c, fl, w, L, P, wb, wa, en, gr, fk, gc, le, go))
    (ph_D (fun i j p => lN (ph_B (ph_f L P w) m c i j p)) m c)
    (fun _ _ _ hx hp => br_t hx hp) (fun _ _ _ hx hp => br_f hx hp) (fun _ _ _ _ _ hx hp => br_t hx (nm_e hp)) (fun _ _ _ _ _ hx hp => br_f hx hp) (fun _ _ _ _ _ _ _ hx hp => br_t hx (nm_e hp))
    ?_ (fun _ _ _ _ _ h => ph_Dt1 h) (fun _ _ _ h => ph_Dt2 h) (fun s hs => h s (ph_Dt3 hs)) wa ph_D0
  intro m1 i q j r p s hi hj hp hI hk
  have hb := ph_ixb (i := i) (j := j) (p := p) (by omega) (by omega) hp
  refine br_f (nI_ge (b := 3) hp (by decide)) (ph_xpt (ph_xwF hc hm hL hP hw hi hj hp (fun k hk z => hI _ _ k z.1 z.2 hk (by have := ph_lc k; omega)) (And.intro (vp_in_nI hb (by decide)) (nm_r (e' := vp_updL s (ph_ix i j p) (lN (ph_B (ph_f L P w) m c i j p))) (by rw [nI_clamp (by omega)]) (nm_r (nI_1 p) (hk _ (ph_Dp hc hj hp hI pk_uLs (fun x hx => pk_uLn hx))))))))
theorem ph_xso (hc : c ≤ 4) (hm : m ≤ 8) (hL : ph_bd L 9) (hP : ph_bd P 9) (hw : ph_bd w 3) {post : Int64 → SX → Prop} (h : ∀ wa' : Nat → Int64, post (lN (ph_S L P w m c)) (nI c, fl, w, L, P, wb, wa', en, gr, fk, gc, le, go)) : wpX_sumOfFirst post (nI c, fl, w, L, P, wb, wa, en, gr, fk, gc, le, go) (nI m) := by
  unfold wpX_sumOfFirst
  dsimp only
  refine ph_xfa hc hm hL hP hw (fun wa' hT => ?_)
  refine ph_xpt (i := 0) (j := 0) (p := 0) (And.intro (vp_in_nI (by decide) (by decide)) ?_)
  have e := hT 0 0 0 (by omega) (by omega) (by omega)
  rw [← ph_SB] at e
  have e2 : wa' (nI (ph_ix 0 0 0)).toNatClampNeg = lN (ph_S L P w m c) := e
  show post (wa' (nI (ph_ix 0 0 0)).toNatClampNeg) (nI c, fl, w, L, P, wb, wa', en, gr, fk, gc, le, go)
  rw [e2]
  exact h wa'
theorem ph_xsum (hc : c ≤ 4) (hn : n ≤ 8) (hL : ph_bd L 9) (hP : ph_bd P 9) (hw : ph_bd w 3) {post : Int64 → SX → Prop} (h : ∀ wa' : Nat → Int64, post (lN (ph_S L P w n c)) (nI c, nI n, w, L, P, wb, wa', en, gr, fk, gc, le, go)) : wpX_sum post (nI c, nI n, w, L, P, wb, wa, en, gr, fk, gc, le, go) := by
  unfold wpX_sum
  dsimp only
  exact ph_xso hc hn hL hP hw h
theorem ph_xnx (hc : c ≤ 4) (hn : n ≤ 7) (hL : ph_bd L 9) (hP : ph_bd P 9) (hw : ph_bd w 3) {post : Int64 → SX → Prop} (h : ∀ wa' : Nat → Int64, post (lN (ph_ns L P w n c 4)) (nI c, nI n, ph_ww w n 4, L, P, wb, wa', en, gr, fk, gc, le, go)) : ∀ (d a : Nat) (wa : Nat → Int64), a + d = 4 → wX_next_4 post (d + 1) (lN (ph_ns L P w n c a)) (nI a) (nI c) (nI n) (ph_ww w n a) L P wb wa en gr fk gc le go := by
  intro d
  induction d with
  | zero =>
    intro a wa ha
    obtain rfl : a = 4 := by omega
    exact br_t (by decide) (h wa)
  | succ d ih =>
    intro a wa ha
    refine br_f (nI_ge (b := 4) (by omega) (by decide)) (And.intro (vp_in_nI (by omega) (by omega)) (nm_r (e' := ph_ww w n (a + 1)) (by rw [nI_clamp (by omega)]; rfl) ?_))
    rw [nI_1 n]
    exact ph_xso hc (by omega) hL hP (ph_bdw hw n (a + 1) (by omega)) (fun wa' => nm_r (lN_add _ _) (nm_r (nI_1 a) (ih (a + 1) wa' (by omega))))
theorem ph_xnext (hc : c ≤ 4) (hn : n ≤ 7) (hL : ph_bd L 9) (hP : ph_bd P 9) (hw : ph_bd w 3) {post : Int64 → SX → Prop} (h : ∀ wa' : Nat → Int64, post (lN (ph_ns L P w n c 4)) (nI c, nI n, ph_ww w n 4, L, P, wb, wa', en, gr, fk, gc, le, go)) : wpX_next post (nI c, nI n, w, L, P, wb, wa, en, gr, fk, gc, le, go) :=
  Exists.intro 5 (ph_xnx hc hn hL hP hw h 4 0 wa rfl)
theorem ph_xef (hc : c ≤ 4) (hn : n ≤ 8) {post : Int32 → Prop} {i j p k r acc : Nat} (hi : i ≤ n) (hj : j ≤ c) (hk : k < 3) (hT : i + ph_le k ≤ n ∧ j + ph_co k ≤ c → en (ph_ix (i + ph_le k) (j + ph_co k) k) = nI (ph_E n c (i + ph_le k) (j + ph_co k) k)) (h : wX_endingsFrom_20 post (nI i) (nI j) (nI c) (nI n) w L P wb wa en gr fk gc le go r (nI (Nat.add acc (ph_X Nat.add 0 1 ph_aC n c i j p k))) (nI (k + 1))) : wX_endingsFrom_20 post (nI i) (nI j) (nI c) (nI n) w L P wb wa en gr fk gc le go (r + 1) (nI acc) (nI k) := by
  refine br_f (nI_ge (b := 3) hk (by decide)) (ph_xcan hk (by omega) (by omega) hn hc ?_)
  by_cases z : i + ph_le k ≤ n ∧ j + ph_co k ≤ c
  · have hb := ph_ixb (i := i + ph_le k) (j := j + ph_co k) (p := k) (by omega) (by omega) hk
    rw [if_pos z]
    rw [ph_X, if_pos z] at h
    refine br_f (by decide) (ph_xpa hk (And.intro (vp_in_nI hb (by decide)) (nm_r ?_ (nm_r (nI_1 k) h))))
    rw [nI_clamp (by omega), hT z, nI_add]
    rfl
  · rw [if_neg z]
    rw [ph_X, if_neg z] at h
    exact br_t rfl (nm_r (nI_1 k) h)
theorem ph_xeF (hc : c ≤ 4) (hn : n ≤ 8) {post : Int32 → Prop} {i j : Nat} (p : Nat) (hi : i ≤ n) (hj : j ≤ c) (hT : ∀ k, k < 3 → i + ph_le k ≤ n ∧ j + ph_co k ≤ c → en (ph_ix (i + ph_le k) (j + ph_co k) k) = nI (ph_E n c (i + ph_le k) (j + ph_co k) k)) (h : post (nI (ph_E n c i j p))) : wpX_endingsFrom post (nI c, nI n, w, L, P, wb, wa, en, gr, fk, gc, le, go) (nI i) (nI j) := by
  unfold wpX_endingsFrom
  dsimp only
  refine ph_xend (by omega) (by omega) hn hc ?_
  by_cases z : i = n ∧ j = c
  · rw [if_pos z]
    obtain ⟨rfl, rfl⟩ := z
    rw [ph_E, ph_Tend ph_lawC] at h
    exact br_f (by decide) h
  · rw [if_neg z]
    refine br_t rfl (Exists.intro 4 ?_)
    rw [ph_E, ph_Trec ph_lawC p hi hj z] at h
    exact ph_xef (k := 0) (acc := 0) (p := p) hc hn hi hj (by omega) (hT 0 (by omega)) (ph_xef (k := 1) (p := p) hc hn hi hj (by omega) (hT 1 (by omega)) (ph_xef (k := 2) (p := p) hc hn hi hj (by omega) (hT 2 (by omega)) (br_t (by decide) h)))
theorem ph_xways (hc : c ≤ 4) (hn : n ≤ 8) {post : Int32 → SX → Prop} (h : ∀ en' : Nat → Int32, post (nI ((ph_ways n c).foldl (fun a _ => a + 1) 0)) (nI c, nI n, w, L, P, wb, wa, en', gr, fk, gc, le, go)) : wpX_ways post (nI c, nI n, w, L, P, wb, wa, en, gr, fk, gc, le, go) := by
  refine ph_dn (N := n) (C := c) hn hc
    (fun q x en => wX_ways_5 post (nI c) (nI n) q x w L P wb wa en gr fk gc le go)
    (fun m1 x q y en => wX_ways_14 post (wX_ways_5 post (nI c) (nI n) m1) x (nI c) (nI n) q y w L P wb wa en gr fk gc le go)
    (fun m1 x q y r z en => wX_ways_20 post (wX_ways_5 post (nI c) (nI n) m1) (wX_ways_14 post (wX_ways_5 post (nI c) (nI n) m1) x (nI c) (nI n) q) x y (nI c) (nI n) r z w L P wb wa en gr fk gc le go)
    (fun en => wpX_pointAt (fun r_2 => vp_in r_2 135 ∧ post (en r_2.toNatClampNeg) (nI c, nI n, w, L, P, wb, wa, en, gr, fk, gc, le, go)) (nI c, nI n, w, L, P, wb, wa, en, gr, fk, gc, le, go) 0 0 0)
    (ph_D (fun i j p => nI (ph_E n c i j p)) n c)
    (fun _ _ _ hx hp => br_t hx hp) (fun _ _ _ hx hp => br_f hx hp) (fun _ _ _ _ _ hx hp => br_t hx (nm_e hp)) (fun _ _ _ _ _ hx hp => br_f hx hp) (fun _ _ _ _ _ _ _ hx hp => br_t hx (nm_e hp))
    ?_ (fun _ _ _ _ _ h => ph_Dt1 h) (fun _ _ _ h => ph_Dt2 h) (fun s hs => ?_) en ph_D0
  · intro m1 i q j r p s hi hj hp hI hk
    have hb := ph_ixb (i := i) (j := j) (p := p) (by omega) (by omega) hp
    refine br_f (nI_ge (b := 3) hp (by decide)) (ph_xpt (ph_xeF hc hn p hi hj (fun k hk z => hI _ _ k z.1 z.2 hk (by have := ph_lc k; omega)) (And.intro (vp_in_nI hb (by decide)) (nm_r (e' := upd s (ph_ix i j p) (nI (ph_E n c i j p))) (by rw [nI_clamp (by omega)]) (nm_r (nI_1 p) (hk _ (ph_Dp hc hj hp hI pk_us (fun x hx => pk_un hx))))))))
  · refine ph_xpt (i := 0) (j := 0) (p := 0) (And.intro (vp_in_nI (by decide) (by decide)) ?_)
    have e := ph_Dt3 hs 0 0 0 (by omega) (by omega) (by omega)
    rw [← ph_WE] at e
    have e2 : s (nI (ph_ix 0 0 0)).toNatClampNeg = nI ((ph_ways n c).foldl (fun a _ => a + 1) 0) := e
    rw [e2]
    exact h s
end
end
section
/-! greatest, least and first of the scores, as folds -/
def ph_om : Option Nat → Option Nat → Option Nat
  | none, y => y
  | some a, none => some a
  | some a, some b => if b ≤ a then some a else some b
def ph_on : Option Nat → Option Nat → Option Nat
  | none, y => y
  | some a, none => some a
  | some a, some b => if a ≤ b then some a else some b
def ph_e1 : Option Nat → Int32
  | none => -4
  | some m => nI m
theorem ph_omr (x : Option Nat) : ph_om x none = x := by cases x <;> rfl
theorem ph_onr (x : Option Nat) : ph_on x none = x := by cases x <;> rfl
theorem ph_om2 (a b : Nat) : ph_om (some a) (some b) = some (max a b) := by
  show (if b ≤ a then some a else some b) = _
  split
  · next h => rw [Nat.max_eq_left h]
  · next h => rw [Nat.max_eq_right (by omega)]
theorem ph_oma (x y z : Option Nat) : ph_om (ph_om x y) z = ph_om x (ph_om y z) := by
  cases x with
  | none => rfl
  | some a =>
    cases y with
    | none => rfl
    | some b =>
      cases z with
      | none => rw [ph_omr, ph_omr]
      | some d => rw [ph_om2, ph_om2, ph_om2, ph_om2, Nat.max_assoc]
theorem ph_on2 (a b : Nat) : ph_on (some a) (some b) = some (min a b) := by
  show (if a ≤ b then some a else some b) = _
  split
  · next h => rw [Nat.min_eq_left h]
  · next h => rw [Nat.min_eq_right (by omega)]
theorem ph_ona (x y z : Option Nat) : ph_on (ph_on x y) z = ph_on x (ph_on y z) := by
  cases x with
  | none => rfl
  | some a =>
    cases y with
    | none => rfl
    | some b =>
      cases z with
      | none => rw [ph_onr, ph_onr]
      | some d => rw [ph_on2, ph_on2, ph_on2, ph_on2, Nat.min_assoc]
def ph_aM (f : Nat → Nat → Nat → Nat → Nat) (p k i j : Nat) (x : Option Nat) : Option Nat := x.map (fun m => f p k i j + m)
theorem ph_omd (f : Nat → Nat → Nat → Nat → Nat) (p k i j : Nat) (x y : Option Nat) : ph_aM f p k i j (ph_om x y) = ph_om (ph_aM f p k i j x) (ph_aM f p k i j y) := by
  cases x with
  | none => rfl
  | some a =>
    cases y with
    | none => rfl
    | some b =>
      simp only [ph_om, ph_aM, Option.map_some]
      split <;> split <;> first | rfl | (exfalso; omega)
theorem ph_ond (f : Nat → Nat → Nat → Nat → Nat) (p k i j : Nat) (x y : Option Nat) : ph_aM f p k i j (ph_on x y) = ph_on (ph_aM f p k i j x) (ph_aM f p k i j y) := by
  cases x with
  | none => rfl
  | some a =>
    cases y with
    | none => rfl
    | some b =>
      simp only [ph_on, ph_aM, Option.map_some]
      split <;> split <;> first | rfl | (exfalso; omega)
theorem ph_lawN (f : Nat → Nat → Nat → Nat → Nat) : ph_law ph_on none (ph_aM f) := ⟨ph_ona, fun _ => rfl, ph_onr, ph_ond f, fun _ _ _ _ => rfl⟩
/-! by length -/
def ph_oF (x y : Nat → Option Nat) (r : Nat) : Option Nat := ph_om (x r) (y r)
def ph_eF (_ : Nat) : Option Nat := none
def ph_gF (r : Nat) : Option Nat := if r = 0 then some 0 else none
def ph_aF (f : Nat → Nat → Nat → Nat → Nat) (p k i j : Nat) (x : Nat → Option Nat) : Nat → Option Nat
  | 0 => none
  | r + 1 => ph_aM f p k i j (x r)
theorem ph_lawF (f : Nat → Nat → Nat → Nat → Nat) : ph_law ph_oF ph_eF (ph_aF f) := by
  refine ⟨fun x y z => funext fun r => ph_oma _ _ _, fun x => rfl, fun x => funext fun r => ph_omr _, fun p k i j x y => funext fun r => ?_, fun p k i j => funext fun r => ?_⟩
  · cases r with
    | zero => rfl
    | succ r => exact ph_omd f p k i j _ _
  · cases r <;> rfl
theorem ph_gvF (f : Nat → Nat → Nat → Nat → Nat) : ∀ (t : List Nat) (i j p r : Nat), ph_gv ph_gF (ph_aF f) i j p t r = if t.length = r then some (ph_sc f i j p t) else none := by
  intro t
  induction t with
  | nil =>
    intro i j p r
    show (if r = 0 then some 0 else none) = if 0 = r then some 0 else none
    by_cases z : r = 0
    · rw [if_pos z, if_pos z.symm]
    · rw [if_neg z, if_neg (fun q => z q.symm)]
  | cons k t ih =>
    intro i j p r
    cases r with
    | zero => rw [List.length_cons, if_neg (by omega)]; rfl
    | succ r =>
      show ph_aM f p k i j (ph_gv ph_gF (ph_aF f) (i + ph_le k) (j + ph_co k) k t r) = _
      rw [ih, List.length_cons]
      by_cases z : t.length = r
      · rw [if_pos z, if_pos (by omega)]; rfl
      · rw [if_neg z, if_neg (by omega)]; rfl
theorem ph_gvN (f : Nat → Nat → Nat → Nat → Nat) : ∀ (t : List Nat) (i j p : Nat), ph_gv (some 0) (ph_aM f) i j p t = some (ph_sc f i j p t) := by
  intro t
  induction t with
  | nil => intro i j p; rfl
  | cons k t ih =>
    intro i j p
    show ph_aM f p k i j (ph_gv (some 0) (ph_aM f) (i + ph_le k) (j + ph_co k) k t) = _
    rw [ih]; rfl
/-! records: greatest score, the first way that has it, how many have it -/
def ph_ro : Option (Nat × List Nat × Nat) → Option (Nat × List Nat × Nat) → Option (Nat × List Nat × Nat)
  | none, y => y
  | some x, none => some x
  | some x, some y => if x.1 < y.1 then some y else if y.1 = x.1 then some (x.1, x.2.1, x.2.2 + y.2.2) else some x
def ph_aR (f : Nat → Nat → Nat → Nat → Nat) (p k i j : Nat) (x : Option (Nat × List Nat × Nat)) : Option (Nat × List Nat × Nat) := x.map (fun y => (f p k i j + y.1, k :: y.2.1, y.2.2))
theorem ph_ror (x : Option (Nat × List Nat × Nat)) : ph_ro x none = x := by cases x <;> rfl
theorem ph_roa (x y z : Option (Nat × List Nat × Nat)) : ph_ro (ph_ro x y) z = ph_ro x (ph_ro y z) := by
  cases x with
  | none => rfl
  | some a =>
    cases y with
    | none => rfl
    | some b =>
      cases z with
      | none => rw [ph_ror, ph_ror]
      | some d =>
        obtain ⟨a1, a2, a3⟩ := a
        obtain ⟨b1, b2, b3⟩ := b
        obtain ⟨d1, d2, d3⟩ := d
        rcases Nat.lt_trichotomy a1 b1 with h1 | h1 | h1 <;> rcases Nat.lt_trichotomy b1 d1 with h2 | h2 | h2 <;> rcases Nat.lt_trichotomy a1 d1 with h3 | h3 | h3 <;> first
          | (exfalso; omega)
          | (simp only [ph_ro]
             repeat (first | rw [if_pos (by omega)] | rw [if_neg (by omega)] | simp only [ph_ro])
             try first | rfl | (rw [Nat.add_assoc]))
theorem ph_rod (f : Nat → Nat → Nat → Nat → Nat) (p k i j : Nat) (x y : Option (Nat × List Nat × Nat)) : ph_aR f p k i j (ph_ro x y) = ph_ro (ph_aR f p k i j x) (ph_aR f p k i j y) := by
  cases x with
  | none => rfl
  | some a =>
    cases y with
    | none => rfl
    | some b =>
      obtain ⟨a1, a2, a3⟩ := a
      obtain ⟨b1, b2, b3⟩ := b
      simp only [ph_ro, ph_aR, Option.map_some]
      rcases Nat.lt_trichotomy a1 b1 with h1 | h1 | h1
      · rw [if_pos h1, if_pos (by omega)]; rfl
      · rw [if_neg (by omega), if_pos h1.symm, if_neg (by omega), if_pos (by omega)]; rfl
      · rw [if_neg (by omega), if_neg (by omega), if_neg (by omega), if_neg (by omega)]; rfl
theorem ph_lawR (f : Nat → Nat → Nat → Nat → Nat) : ph_law ph_ro none (ph_aR f) := ⟨ph_roa, fun _ => rfl, ph_ror, ph_rod f, fun _ _ _ _ => rfl⟩
theorem ph_gvR (f : Nat → Nat → Nat → Nat → Nat) : ∀ (t : List Nat) (i j p : Nat), ph_gv (some (0, [], 1)) (ph_aR f) i j p t = some (ph_sc f i j p t, t, 1) := by
  intro t
  induction t with
  | nil => intro i j p; rfl
  | cons k t ih =>
    intro i j p
    show ph_aR f p k i j (ph_gv (some (0, [], 1)) (ph_aR f) (i + ph_le k) (j + ph_co k) k t) = _
    rw [ih]; rfl
theorem ph_Rc (sc : List Nat → Nat) : ∀ (l : List (List Nat)), l ≠ [] → ∃ s t d, ph_lf ph_ro none (fun q => some (sc q, q, 1)) l = some (s, t, d) ∧ (∀ q, q ∈ l → sc q ≤ s) ∧ l.find? (fun r => decide (s ≤ sc r)) = some t ∧ l.countP (fun r => decide (sc r = s)) = d ∧ sc t = s ∧ t ∈ l := by
  intro l
  induction l with
  | nil => intro h; exact absurd rfl h
  | cons q l ih =>
    intro _
    cases l with
    | nil =>
      refine ⟨sc q, q, 1, rfl, ?_, ph_fp (decide_eq_true (Nat.le_refl _)), ?_, rfl, List.mem_cons_self⟩
      · intro r hr
        rw [List.mem_singleton] at hr
        rw [hr]; exact Nat.le_refl _
      · rw [List.countP_cons_of_pos (by simp)]; rfl
    | cons q' l' =>
      obtain ⟨s, t, d, h1, h2, h3, h4, h5, h6⟩ := ih (List.cons_ne_nil _ _)
      generalize q' :: l' = l at h1 h2 h3 h4 h6 ⊢
      have e : ph_lf ph_ro none (fun q => some (sc q, q, 1)) (q :: l) = ph_ro (some (sc q, q, 1)) (some (s, t, d)) := by
        show ph_ro (some (sc q, q, 1)) _ = _
        rw [h1]
      rw [e]
      rcases Nat.lt_trichotomy (sc q) s with z | z | z
      · refine ⟨s, t, d, if_pos z, ?_, ?_, ?_, h5, List.mem_cons_of_mem _ h6⟩
        · intro r hr
          rcases List.mem_cons.mp hr with rfl | hr
          · omega
          · exact h2 r hr
        · rw [ph_fn (p := fun r => decide (s ≤ sc r)) (decide_eq_false (by omega))]; exact h3
        · rw [List.countP_cons_of_neg (by rw [decide_eq_true_eq]; omega)]; exact h4
      · refine ⟨sc q, q, 1 + d, (if_neg (by show ¬ sc q < s; omega)).trans (if_pos z.symm), ?_, ph_fp (decide_eq_true (Nat.le_refl _)), ?_, rfl, List.mem_cons_self⟩
        · intro r hr
          rcases List.mem_cons.mp hr with rfl | hr
          · exact Nat.le_refl _
          · have := h2 r hr; omega
        · rw [List.countP_cons_of_pos (by simp), z, h4, Nat.add_comm]
      · refine ⟨sc q, q, 1, (if_neg (by show ¬ sc q < s; omega)).trans (if_neg (by show ¬ s = sc q; omega)), ?_, ph_fp (decide_eq_true (Nat.le_refl _)), ?_, rfl, List.mem_cons_self⟩
        · intro r hr
          rcases List.mem_cons.mp hr with rfl | hr
          · exact Nat.le_refl _
          · have := h2 r hr; omega
        · rw [List.countP_cons_of_pos (by simp)]
          have : l.countP (fun r => decide (sc r = sc q)) = 0 := by
            rw [List.countP_eq_zero]
            intro r hr
            have := h2 r hr
            rw [decide_eq_true_eq]; omega
          rw [this]
/-! bounds -/
theorem ph_sc18 {f : Nat → Nat → Nat → Nat → Nat} (hf : ∀ p k i j, f p k i j ≤ 18) : ∀ (t : List Nat) (i j p : Nat), ph_sc f i j p t ≤ 18 * t.length := by
  intro t
  induction t with
  | nil => intro i j p; exact Nat.zero_le _
  | cons k t ih =>
    intro i j p
    have h1 := hf p k i j
    have h2 := ih (i + ph_le k) (j + ph_co k) k
    rw [ph_sc, List.length_cons]
    omega
theorem ph_sc216 {f : Nat → Nat → Nat → Nat → Nat} (hf : ∀ p k i j, f p k i j ≤ 18) {a b : Nat} (hab : a + b ≤ 12) {t : List Nat} (ht : t ∈ ph_ways a b) (i j p : Nat) : ph_sc f i j p t ≤ 216 := by
  have h1 := ph_sc18 hf t i j p
  have h2 := ph_vdl t a b (ph_vdw a b t ht)
  omega
theorem ph_lfp {M : Type} {op : M → M → M} {e : M} {g : List Nat → M} (Pr : M → Prop) (he : Pr e) (hop : ∀ x y, Pr x → Pr y → Pr (op x y)) : ∀ (l : List (List Nat)), (∀ t, t ∈ l → Pr (g t)) → Pr (ph_lf op e g l) := by
  intro l
  induction l with
  | nil => intro _; exact he
  | cons t l ih => intro h; exact hop _ _ (h t List.mem_cons_self) (ih (fun q hq => h q (List.mem_cons_of_mem _ hq)))
def ph_bo (o : Option Nat) : Prop := ∀ m, o = some m → m ≤ 216
theorem ph_boM {x y : Option Nat} (hx : ph_bo x) (hy : ph_bo y) : ph_bo (ph_om x y) := by
  cases x with
  | none => exact hy
  | some a =>
    cases y with
    | none => exact hx
    | some b => simp only [ph_om]; split <;> assumption
theorem ph_boN {x y : Option Nat} (hx : ph_bo x) (hy : ph_bo y) : ph_bo (ph_on x y) := by
  cases x with
  | none => exact hy
  | some a =>
    cases y with
    | none => exact hx
    | some b => simp only [ph_on]; split <;> assumption
theorem ph_bo0 : ph_bo none := fun _ h => nomatch h
theorem ph_n4l {m : Nat} (h : m < 2 ^ 31) : ¬ nI m ≤ -4 := by
  intro z
  rw [Int32.le_iff_toInt_le, nI_toInt h, show (-4 : Int32).toInt = -4 from by decide] at z
  omega
theorem ph_n4e {m : Nat} (h : m < 2 ^ 31) : ¬ nI m = -4 := fun z => ph_n4l h (by rw [z]; decide)
theorem ph_Gf (cond : List Nat → Prop) (dc : ∀ t, Decidable (cond t)) (sc : List Nat → Nat) : ∀ (l : List (List Nat)) (o : Option Nat), (∀ t, t ∈ l → sc t ≤ 216) → ph_bo o → l.foldl (fun a t => if cond t ∧ ¬ nI (sc t) ≤ a then nI (sc t) else a) (ph_e1 o) = ph_e1 (ph_om o (ph_lf ph_om none (fun t => if cond t then some (sc t) else none) l)) := by
  intro l
  induction l with
  | nil => intro o _ _; show ph_e1 o = ph_e1 (ph_om o none); rw [ph_omr]
  | cons t l ih =>
    intro o hs ho
    have h1 := hs t List.mem_cons_self
    have hgb : ph_bo (if cond t then some (sc t) else none) := by
      split
      · intro m hm; cases hm; exact h1
      · exact ph_bo0
    have e : (if cond t ∧ ¬ nI (sc t) ≤ ph_e1 o then nI (sc t) else ph_e1 o) = ph_e1 (ph_om o (if cond t then some (sc t) else none)) := by
      by_cases z : cond t
      · rw [if_pos z]
        cases o with
        | none => rw [if_pos ⟨z, ph_n4l (by omega)⟩]; rfl
        | some m =>
          have hm := ho m rfl
          show (if cond t ∧ ¬ nI (sc t) ≤ nI m then nI (sc t) else nI m) = ph_e1 (if sc t ≤ m then some m else some (sc t))
          by_cases q : sc t ≤ m
          · rw [if_pos q, if_neg (fun y => y.2 (nI_le q (by omega)))]; rfl
          · rw [if_neg q, if_pos ⟨z, nI_ge (by omega) (by omega)⟩]; rfl
      · rw [if_neg z, if_neg (fun y => z y.1), ph_omr]
    show l.foldl _ (if cond t ∧ ¬ nI (sc t) ≤ ph_e1 o then nI (sc t) else ph_e1 o) = ph_e1 (ph_om o (ph_om (if cond t then some (sc t) else none) _))
    rw [e, ih _ (fun q hq => hs q (List.mem_cons_of_mem _ hq)) (ph_boM ho hgb), ph_oma]
theorem ph_Wf (sc : List Nat → Nat) : ∀ (l : List (List Nat)) (a : Nat), a ≤ 1000000 → (∀ t, t ∈ l → sc t ≤ 216) → l.foldl (fun a t => if a ≤ nI (sc t) then a else nI (sc t)) (nI a) = ph_e1 (ph_on (some a) (ph_lf ph_on none (fun t => some (sc t)) l)) := by
  intro l
  induction l with
  | nil => intro a _ _; rfl
  | cons t l ih =>
    intro a ha hs
    have h1 := hs t List.mem_cons_self
    show l.foldl _ (if nI a ≤ nI (sc t) then nI a else nI (sc t)) = ph_e1 (ph_on (some a) (ph_on (some (sc t)) _))
    rw [← ph_ona]
    by_cases q : a ≤ sc t
    · rw [if_pos (nI_le q (by omega)), ih a ha (fun q hq => hs q (List.mem_cons_of_mem _ hq))]
      show _ = ph_e1 (ph_on (if a ≤ sc t then some a else some (sc t)) _)
      rw [if_pos q]
    · rw [if_neg (nI_ge (by omega) (by omega)), ih (sc t) (by omega) (fun q hq => hs q (List.mem_cons_of_mem _ hq))]
      show _ = ph_e1 (ph_on (if a ≤ sc t then some a else some (sc t)) _)
      rw [if_neg q]
theorem ph_Tf (sc : List Nat → Nat) {x : Nat} (hx : x ≤ 216) : ∀ (l : List (List Nat)) (a : Nat), (∀ t, t ∈ l → sc t ≤ 216) → l.foldl (fun a t => if nI (sc t) = nI x then a + 1 else a) (nI a) = nI (a + l.countP (fun r => decide (sc r = x))) := by
  intro l
  induction l with
  | nil => intro a _; rfl
  | cons t l ih =>
    intro a hs
    have h1 := hs t List.mem_cons_self
    show l.foldl _ (if nI (sc t) = nI x then nI a + 1 else nI a) = _
    by_cases q : sc t = x
    · rw [if_pos (by rw [q]), nI_1, ih _ (fun q hq => hs q (List.mem_cons_of_mem _ hq)), List.countP_cons_of_pos (p := fun r => decide (sc r = x)) (decide_eq_true q), Nat.add_assoc, Nat.add_comm 1]
    · rw [if_neg (fun z => q ((nI_eq (by omega) (by omega)).mp z)), ih _ (fun q hq => hs q (List.mem_cons_of_mem _ hq)), List.countP_cons_of_neg (by rw [decide_eq_true_eq]; exact q)]
theorem ph_Rm (sc : List Nat → Nat) : ∀ (l : List (List Nat)), ph_lf ph_om none (fun t => some (sc t)) l = (ph_lf ph_ro none (fun q => some (sc q, q, 1)) l).map (fun x => x.1) := by
  intro l
  induction l with
  | nil => rfl
  | cons t l ih =>
    show ph_om (some (sc t)) (ph_lf ph_om none (fun t => some (sc t)) l) = (ph_ro (some (sc t, t, 1)) (ph_lf ph_ro none (fun q => some (sc q, q, 1)) l)).map (fun x => x.1)
    rw [ih]
    cases ph_lf ph_ro none (fun q => some (sc q, q, 1)) l with
    | none => rfl
    | some y =>
      show (if y.1 ≤ sc t then some (sc t) else some y.1) = (if sc t < y.1 then some y else if y.1 = sc t then some (sc t, t, 1 + y.2.2) else some (sc t, t, 1)).map (fun x => x.1)
      rcases Nat.lt_trichotomy (sc t) y.1 with z | z | z
      · rw [if_neg (by omega), if_pos z]; rfl
      · rw [if_pos (by omega), if_neg (by omega), if_pos z.symm]; rfl
      · rw [if_pos (by omega), if_neg (by omega), if_neg (by omega)]; rfl
end
section
/-! the class's best, ties, bestStep -/
def ph_R (f : Nat → Nat → Nat → Nat → Nat) (n c i j p : Nat) : Option (Nat × List Nat × Nat) := ph_T ph_ro none (some (0, [], 1)) (ph_aR f) n c i j p
def ph_r1 : Option (Nat × List Nat × Nat) → Int32
  | none => -4
  | some x => nI x.1
def ph_r2 : Option (Nat × List Nat × Nat) → Int32
  | none => 0
  | some x => nI (x.2.1.headD 0)
def ph_r3 : Option (Nat × List Nat × Nat) → Int32
  | none => 0
  | some x => nI x.2.2
theorem ph_RT (f : Nat → Nat → Nat → Nat → Nat) (n c i j p : Nat) : ph_R f n c i j p = ph_lf ph_ro none (fun q => some (ph_sc f i j p q, q, 1)) (ph_ways (n - i) (c - j)) := ph_lfc (fun t => ph_gvR f t i j p) _
theorem ph_Rb {f : Nat → Nat → Nat → Nat → Nat} (hf : ∀ p k i j, f p k i j ≤ 18) {n c : Nat} (hnc : n + c ≤ 12) (i j p : Nat) : ∃ s t d, ph_R f n c i j p = some (s, t, d) ∧ s ≤ 216 := by
  obtain ⟨s, t, d, h1, _, _, _, h5, h6⟩ := ph_Rc (ph_sc f i j p) (ph_ways (n - i) (c - j)) (ph_ne _ _)
  refine ⟨s, t, d, (ph_RT f n c i j p).trans h1, ?_⟩
  have := ph_sc216 hf (by omega) h6 i j p
  omega
theorem ph_fc {α : Type} {p q : α → Bool} : ∀ l : List α, (∀ r, r ∈ l → p r = q r) → l.find? p = l.find? q := by
  intro l
  induction l with
  | nil => intro _; rfl
  | cons r l ih =>
    intro h
    have h1 := h r List.mem_cons_self
    cases hp : p r with
    | true => rw [ph_fp hp, ph_fp (h1 ▸ hp)]
    | false => rw [ph_fn hp, ph_fn (h1 ▸ hp), ih (fun x hx => h x (List.mem_cons_of_mem _ hx))]
theorem ph_Rk {L P w : Nat → Int32} (hL : ph_bd L 9) (hP : ph_bd P 9) {n c : Nat} (hnc : n + c ≤ 12) : ∃ s t d, ph_R (ph_s L P w) n c 0 0 0 = some (s, t, d) ∧ ph_G L P w (-1) n c = nI s ∧ (ph_ways n c).find? (fun r => decide (ph_G L P w (-1) n c ≤ nI (ph_sc (ph_s L P w) 0 0 0 r))) = some t ∧ ph_Ti L P w (ph_G L P w (-1) n c) n c = nI d ∧ t ∈ ph_ways n c := by
  obtain ⟨s, t, d, h1, h2, h3, h4, h5, h6⟩ := ph_Rc (ph_sc (ph_s L P w) 0 0 0) (ph_ways n c) (ph_ne _ _)
  have hb : ∀ q, q ∈ ph_ways n c → ph_sc (ph_s L P w) 0 0 0 q ≤ 216 := fun q hq => ph_sc216 (ph_s18 hL hP) hnc hq 0 0 0
  have hs : s ≤ 216 := by have := hb t h6; omega
  have hG : ph_G L P w (-1) n c = nI s := by
    have e := ph_Gf (fun t => (-1 : Int32) = -1 ∨ nI t.length = -1) (fun t => inferInstance) (ph_sc (ph_s L P w) 0 0 0) (ph_ways n c) none hb ph_bo0
    refine Eq.trans e ?_
    show ph_e1 (ph_lf ph_om none _ (ph_ways n c)) = _
    rw [ph_lfc (g' := fun t => some (ph_sc (ph_s L P w) 0 0 0 t)) (fun t => if_pos (Or.inl rfl)), ph_Rm, h1]
    rfl
  refine ⟨s, t, d, (ph_RT _ n c 0 0 0).trans h1, hG, ?_, ?_, h6⟩
  · rw [hG, ← h3]
    refine ph_fc _ (fun r hr => ?_)
    have := hb r hr
    exact decide_eq_decide.mpr (nI_leI (by omega) (by omega))
  · rw [hG, ← h4]
    exact (ph_Tf (ph_sc (ph_s L P w) 0 0 0) hs (ph_ways n c) 0 hb).trans (by rw [Nat.zero_add])
section
variable {c n : Nat} {w L P : Nat → Int32} {wb wa : Nat → Int64} {en gr fk gc le go : Nat → Int32}
theorem ph_xgs (hc : c ≤ 4) (hn : n ≤ 8) (hL : ph_bd L 9) (hP : ph_bd P 9) (hw : ph_bd w 3) {post : SX → Prop} {i j p k r : Nat} {acc : Option (Nat × List Nat × Nat)} (hi : i ≤ n) (hj : j ≤ c) (hp : p < 3) (hk : k < 3) (hT : i + ph_le k ≤ n ∧ j + ph_co k ≤ c → gr (ph_ix (i + ph_le k) (j + ph_co k) k) = ph_r1 (ph_R (ph_s L P w) n c (i + ph_le k) (j + ph_co k) k) ∧ gc (ph_ix (i + ph_le k) (j + ph_co k) k) = ph_r3 (ph_R (ph_s L P w) n c (i + ph_le k) (j + ph_co k) k)) (ha : ∀ x, acc = some x → x.1 ≤ 1000) (h : wX_setGreatest_43 post (nI i) (nI j) (nI p) (nI c) (nI n) w L P wb wa en gr fk gc le go r (ph_r1 (ph_ro acc (ph_X ph_ro none (some (0, [], 1)) (ph_aR (ph_s L P w)) n c i j p k))) (ph_r2 (ph_ro acc (ph_X ph_ro none (some (0, [], 1)) (ph_aR (ph_s L P w)) n c i j p k))) (ph_r3 (ph_ro acc (ph_X ph_ro none (some (0, [], 1)) (ph_aR (ph_s L P w)) n c i j p k))) (nI (k + 1))) : wX_setGreatest_43 post (nI i) (nI j) (nI p) (nI c) (nI n) w L P wb wa en gr fk gc le go (r + 1) (ph_r1 acc) (ph_r2 acc) (ph_r3 acc) (nI k) := by
  refine br_f (nI_ge (b := 3) hk (by decide)) (ph_xcan hk (by omega) (by omega) hn hc ?_)
  have hf := ph_s18 (w := w) hL hP p k i j
  by_cases z : i + ph_le k ≤ n ∧ j + ph_co k ≤ c
  · have hb := ph_ixb (i := i + ph_le k) (j := j + ph_co k) (p := k) (by omega) (by omega) hk
    obtain ⟨s, t, d, hR, hs⟩ := ph_Rb (f := ph_s L P w) (ph_s18 hL hP) (n := n) (c := c) (by omega) (i + ph_le k) (j + ph_co k) k
    obtain ⟨hg, hd⟩ := hT z
    rw [hR] at hg hd
    have hX : ph_X ph_ro none (some (0, [], 1)) (ph_aR (ph_s L P w)) n c i j p k = some (ph_s L P w p k i j + s, k :: t, d) := by
      rw [ph_X, if_pos z]
      show ph_aR _ _ _ _ _ (ph_R (ph_s L P w) n c (i + ph_le k) (j + ph_co k) k) = _
      rw [hR]; rfl
    rw [hX] at h
    rw [if_pos z]
    have hgd : gc (nI (ph_ix (i + ph_le k) (j + ph_co k) k)).toNatClampNeg = nI d := by rw [nI_clamp (by omega)]; exact hd
    have hv : vp_in (nI (ph_ix (i + ph_le k) (j + ph_co k) k)) 135 := vp_in_nI hb (by decide)
    refine br_f (by decide) (ph_xpa hk (ph_xsco hL hP hw hp hk (fun q => by subst q; rw [ph_le0, ph_co0] at z; omega) (And.intro hv (nm_r (e' := nI (ph_s L P w p k i j + s)) ?_ ?_))))
    · rw [nI_clamp (by omega), hg]; exact nI_add _ _
    · cases acc with
      | none => exact br_f (ph_n4l (by omega)) (And.intro hv (nm_r hgd (nm_r (nI_1 k) h)))
      | some x =>
        have hx := ha x rfl
        refine pk_le (ph_s L P w p k i j + s) x.1 (fun q => pk_eq (ph_s L P w p k i j + s) x.1 (fun q' => ?_) (fun q' => ?_)) (fun q => ?_)
        · have e : ph_ro (some x) (some (ph_s L P w p k i j + s, k :: t, d)) = some (x.1, x.2.1, x.2.2 + d) := (if_neg (by show ¬ x.1 < ph_s L P w p k i j + s; omega)).trans (if_pos q')
          rw [e] at h
          refine And.intro hv (nm_r (e' := nI (x.2.2 + d)) ?_ (nm_r (nI_1 k) h))
          rw [hgd]; exact nI_add _ _
        · have e : ph_ro (some x) (some (ph_s L P w p k i j + s, k :: t, d)) = some x := (if_neg (by show ¬ x.1 < ph_s L P w p k i j + s; omega)).trans (if_neg q')
          rw [e] at h
          exact nm_r (nI_1 k) h
        · have e : ph_ro (some x) (some (ph_s L P w p k i j + s, k :: t, d)) = some (ph_s L P w p k i j + s, k :: t, d) := if_pos q
          rw [e] at h
          exact And.intro hv (nm_r hgd (nm_r (nI_1 k) h))
  · rw [if_neg z]
    rw [ph_X, if_neg z, ph_ror] at h
    exact br_t rfl (nm_r (nI_1 k) h)
theorem ph_roB {x y : Option (Nat × List Nat × Nat)} {b : Nat} (hx : ∀ z, x = some z → z.1 ≤ b) (hy : ∀ z, y = some z → z.1 ≤ b) : ∀ z, ph_ro x y = some z → z.1 ≤ b := by
  cases x with
  | none => exact hy
  | some a =>
    cases y with
    | none => exact hx
    | some d =>
      intro z hz
      simp only [ph_ro] at hz
      have h1 := hx a rfl
      have h2 := hy d rfl
      split at hz
      · cases hz; exact h2
      · split at hz
        · cases hz; exact h1
        · cases hz; exact h1
theorem ph_XB (hc : c ≤ 4) (hn : n ≤ 8) (hL : ph_bd L 9) (hP : ph_bd P 9) (i j p k : Nat) : ∀ z, ph_X ph_ro none (some (0, [], 1)) (ph_aR (ph_s L P w)) n c i j p k = some z → z.1 ≤ 1000 := by
  intro z hz
  rw [ph_X] at hz
  split at hz
  · obtain ⟨s, t, d, hR, hs⟩ := ph_Rb (f := ph_s L P w) (ph_s18 hL hP) (n := n) (c := c) (by omega) (i + ph_le k) (j + ph_co k) k
    have hf := ph_s18 (w := w) hL hP p k i j
    rw [ph_R] at hR
    rw [hR] at hz
    cases hz
    show ph_s L P w p k i j + s ≤ 1000
    omega
  · exact nomatch hz
theorem ph_xg3 (hc : c ≤ 4) (hn : n ≤ 8) (hL : ph_bd L 9) (hP : ph_bd P 9) (hw : ph_bd w 3) {post : SX → Prop} {i j p : Nat} {acc : Option (Nat × List Nat × Nat)} (hi : i ≤ n) (hj : j ≤ c) (hp : p < 3) (hT : ∀ k, k < 3 → i + ph_le k ≤ n ∧ j + ph_co k ≤ c → gr (ph_ix (i + ph_le k) (j + ph_co k) k) = ph_r1 (ph_R (ph_s L P w) n c (i + ph_le k) (j + ph_co k) k) ∧ gc (ph_ix (i + ph_le k) (j + ph_co k) k) = ph_r3 (ph_R (ph_s L P w) n c (i + ph_le k) (j + ph_co k) k)) (ha : ∀ x, acc = some x → x.1 ≤ 1000) (he : ph_ro (ph_ro (ph_ro acc (ph_X ph_ro none (some (0, [], 1)) (ph_aR (ph_s L P w)) n c i j p 0)) (ph_X ph_ro none (some (0, [], 1)) (ph_aR (ph_s L P w)) n c i j p 1)) (ph_X ph_ro none (some (0, [], 1)) (ph_aR (ph_s L P w)) n c i j p 2) = ph_R (ph_s L P w) n c i j p) (h : post (nI c, nI n, w, L, P, wb, wa, en, upd gr (ph_ix i j p) (ph_r1 (ph_R (ph_s L P w) n c i j p)), upd fk (ph_ix i j p) (ph_r2 (ph_R (ph_s L P w) n c i j p)), upd gc (ph_ix i j p) (ph_r3 (ph_R (ph_s L P w) n c i j p)), le, go)) : wX_setGreatest_43 post (nI i) (nI j) (nI p) (nI c) (nI n) w L P wb wa en gr fk gc le go 4 (ph_r1 acc) (ph_r2 acc) (ph_r3 acc) (nI 0) := by
  have hb := ph_ixb (i := i) (j := j) (p := p) (by omega) (by omega) hp
  have hv : vp_in (nI (ph_ix i j p)) 135 := vp_in_nI hb (by decide)
  have a1 := ph_roB ha (ph_XB (w := w) hc hn hL hP i j p 0)
  have a2 := ph_roB a1 (ph_XB (w := w) hc hn hL hP i j p 1)
  refine ph_xgs (k := 0) hc hn hL hP hw hi hj hp (by omega) (hT 0 (by omega)) ha (ph_xgs (k := 1) hc hn hL hP hw hi hj hp (by omega) (hT 1 (by omega)) a1 (ph_xgs (k := 2) hc hn hL hP hw hi hj hp (by omega) (hT 2 (by omega)) a2 ?_))
  rw [he]
  refine br_t (by decide) (ph_xpt (And.intro hv (nm_r (e' := upd gr (ph_ix i j p) (ph_r1 (ph_R (ph_s L P w) n c i j p))) ?_ (And.intro hv (nm_r (e' := upd fk (ph_ix i j p) (ph_r2 (ph_R (ph_s L P w) n c i j p))) ?_ (And.intro hv (nm_r (e' := upd gc (ph_ix i j p) (ph_r3 (ph_R (ph_s L P w) n c i j p))) ?_ h)))))))
  · rw [nI_clamp (by omega)]
  · rw [nI_clamp (by omega)]
  · rw [nI_clamp (by omega)]
theorem ph_xsg (hc : c ≤ 4) (hn : n ≤ 8) (hL : ph_bd L 9) (hP : ph_bd P 9) (hw : ph_bd w 3) {post : SX → Prop} {i j p : Nat} (hi : i ≤ n) (hj : j ≤ c) (hp : p < 3) (hT : ∀ k, k < 3 → i + ph_le k ≤ n ∧ j + ph_co k ≤ c → gr (ph_ix (i + ph_le k) (j + ph_co k) k) = ph_r1 (ph_R (ph_s L P w) n c (i + ph_le k) (j + ph_co k) k) ∧ gc (ph_ix (i + ph_le k) (j + ph_co k) k) = ph_r3 (ph_R (ph_s L P w) n c (i + ph_le k) (j + ph_co k) k)) (h : post (nI c, nI n, w, L, P, wb, wa, en, upd gr (ph_ix i j p) (ph_r1 (ph_R (ph_s L P w) n c i j p)), upd fk (ph_ix i j p) (ph_r2 (ph_R (ph_s L P w) n c i j p)), upd gc (ph_ix i j p) (ph_r3 (ph_R (ph_s L P w) n c i j p)), le, go)) : wpX_setGreatest post (nI c, nI n, w, L, P, wb, wa, en, gr, fk, gc, le, go) (nI i) (nI j) (nI p) := by
  unfold wpX_setGreatest
  dsimp only
  refine ph_xend (by omega) (by omega) hn hc ?_
  by_cases z : i = n ∧ j = c
  · rw [if_pos z]
    obtain ⟨rfl, rfl⟩ := z
    refine br_f (by decide) (br_f (by decide) (Exists.intro 4 ?_))
    refine ph_xg3 (acc := some (0, [], 1)) hc hn hL hP hw hi hj hp hT (fun x hx => by cases hx; exact Nat.zero_le _) ?_ h
    rw [ph_X, ph_X, ph_X, if_neg (by rw [ph_le0]; omega), if_neg (by rw [ph_le1]; omega), if_neg (by rw [ph_co2]; omega), ph_R, ph_Tend (ph_lawR _)]
    rfl
  · rw [if_neg z]
    refine br_t rfl (br_t rfl (Exists.intro 4 ?_))
    exact ph_xg3 (acc := none) hc hn hL hP hw hi hj hp hT (fun x hx => nomatch hx) (ph_Trec (ph_lawR _) p hi hj z).symm h
theorem ph_xfg (hc : c ≤ 4) (hn : n ≤ 8) (hL : ph_bd L 9) (hP : ph_bd P 9) (hw : ph_bd w 3) {post : SX → Prop} (h : ∀ gr' fk' gc' : Nat → Int32, (∀ i j p, i ≤ n → j ≤ c → p < 3 → gr' (ph_ix i j p) = ph_r1 (ph_R (ph_s L P w) n c i j p) ∧ fk' (ph_ix i j p) = ph_r2 (ph_R (ph_s L P w) n c i j p) ∧ gc' (ph_ix i j p) = ph_r3 (ph_R (ph_s L P w) n c i j p)) → post (nI c, nI n, w, L, P, wb, wa, en, gr', fk', gc', le, go)) : wpX_fillGreatest post (nI c, nI n, w, L, P, wb, wa, en, gr, fk, gc, le, go) := by
  refine ph_dn (N := n) (C := c) hn hc (σ := (Nat → Int32) × (Nat → Int32) × (Nat → Int32))
    (fun q x s => wX_fillGreatest_5 post q x (nI c) (nI n) w L P wb wa en s.1 s.2.1 s.2.2 le go)
    (fun m1 x q y s => wX_fillGreatest_14 post (wX_fillGreatest_5 post m1) x q y (nI c) (nI n) w L P wb wa en s.1 s.2.1 s.2.2 le go)
    (fun m1 x q y r z s => wX_fillGreatest_20 post (wX_fillGreatest_5 post m1) (wX_fillGreatest_14 post (wX_fillGreatest_5 post m1) x q) x y r z (nI c) (nI n) w L P wb wa en s.1 s.2.1 s.2.2 le go)
    (fun s => post (nI c, nI n, w, L, P, wb, wa, en, s.1, s.2.1, s.2.2, le, go))
    (fun i j p s => ph_D (fun i j p => ph_r1 (ph_R (ph_s L P w) n c i j p)) n c i j p s.1 ∧ ph_D (fun i j p => ph_r2 (ph_R (ph_s L P w) n c i j p)) n c i j p s.2.1 ∧ ph_D (fun i j p => ph_r3 (ph_R (ph_s L P w) n c i j p)) n c i j p s.2.2)
    (fun _ _ _ hx hp => br_t hx hp) (fun _ _ _ hx hp => br_f hx hp) (fun _ _ _ _ _ hx hp => br_t hx (nm_e hp)) (fun _ _ _ _ _ hx hp => br_f hx hp) (fun _ _ _ _ _ _ _ hx hp => br_t hx (nm_e hp))
    ?_ (fun _ _ _ _ _ h => ⟨ph_Dt1 h.1, ph_Dt1 h.2.1, ph_Dt1 h.2.2⟩) (fun _ _ _ h => ⟨ph_Dt2 h.1, ph_Dt2 h.2.1, ph_Dt2 h.2.2⟩) (fun s hs => h s.1 s.2.1 s.2.2 (fun i j p h1 h2 h3 => ⟨ph_Dt3 hs.1 i j p h1 h2 h3, ph_Dt3 hs.2.1 i j p h1 h2 h3, ph_Dt3 hs.2.2 i j p h1 h2 h3⟩)) (gr, fk, gc) ⟨ph_D0, ph_D0, ph_D0⟩
  intro m1 i q j r p s hi hj hp hI hk
  refine br_f (nI_ge (b := 3) hp (by decide)) (ph_xsg hc hn hL hP hw hi hj hp (fun k hk z => ⟨hI.1 _ _ k z.1 z.2 hk (by have := ph_lc k; omega), hI.2.2 _ _ k z.1 z.2 hk (by have := ph_lc k; omega)⟩) ?_)
  exact nm_r (nI_1 p) (hk (upd s.1 (ph_ix i j p) (ph_r1 (ph_R (ph_s L P w) n c i j p)), upd s.2.1 (ph_ix i j p) (ph_r2 (ph_R (ph_s L P w) n c i j p)), upd s.2.2 (ph_ix i j p) (ph_r3 (ph_R (ph_s L P w) n c i j p))) ⟨ph_Dp hc hj hp hI.1 pk_us (fun x hx => pk_un hx), ph_Dp hc hj hp hI.2.1 pk_us (fun x hx => pk_un hx), ph_Dp hc hj hp hI.2.2 pk_us (fun x hx => pk_un hx)⟩)
theorem ph_xbest (hc : c ≤ 4) (hn : n ≤ 8) (hL : ph_bd L 9) (hP : ph_bd P 9) (hw : ph_bd w 3) {post : Int32 → SX → Prop} (h : ∀ gr' fk' gc' : Nat → Int32, post (ph_G L P w (-1) n c) (nI c, nI n, w, L, P, wb, wa, en, gr', fk', gc', le, go)) : wpX_best post (nI c, nI n, w, L, P, wb, wa, en, gr, fk, gc, le, go) := by
  unfold wpX_best
  dsimp only
  refine ph_xfg hc hn hL hP hw (fun gr' fk' gc' hT => ?_)
  refine ph_xpt (i := 0) (j := 0) (p := 0) (And.intro (vp_in_nI (by decide) (by decide)) ?_)
  obtain ⟨s, t, d, h1, h2, _⟩ := ph_Rk (w := w) hL hP (n := n) (c := c) (by omega)
  have e : gr' (nI (ph_ix 0 0 0)).toNatClampNeg = ph_r1 (ph_R (ph_s L P w) n c 0 0 0) := (hT 0 0 0 (by omega) (by omega) (by omega)).1
  show post (gr' (nI (ph_ix 0 0 0)).toNatClampNeg) (nI c, nI n, w, L, P, wb, wa, en, gr', fk', gc', le, go)
  rw [e, h1]
  show post (nI s) _
  rw [← h2]
  exact h gr' fk' gc'
theorem ph_xties (hc : c ≤ 4) (hn : n ≤ 8) (hL : ph_bd L 9) (hP : ph_bd P 9) (hw : ph_bd w 3) {post : Int32 → SX → Prop} (h : ∀ gr' fk' gc' : Nat → Int32, post (ph_Ti L P w (ph_G L P w (-1) n c) n c) (nI c, nI n, w, L, P, wb, wa, en, gr', fk', gc', le, go)) : wpX_ties post (nI c, nI n, w, L, P, wb, wa, en, gr, fk, gc, le, go) := by
  unfold wpX_ties
  dsimp only
  refine ph_xfg hc hn hL hP hw (fun gr' fk' gc' hT => ?_)
  refine ph_xpt (i := 0) (j := 0) (p := 0) (And.intro (vp_in_nI (by decide) (by decide)) ?_)
  obtain ⟨s, t, d, h1, h2, _, h4, _⟩ := ph_Rk (w := w) hL hP (n := n) (c := c) (by omega)
  have e : gc' (nI (ph_ix 0 0 0)).toNatClampNeg = ph_r3 (ph_R (ph_s L P w) n c 0 0 0) := (hT 0 0 0 (by omega) (by omega) (by omega)).2.2
  show post (gc' (nI (ph_ix 0 0 0)).toNatClampNeg) (nI c, nI n, w, L, P, wb, wa, en, gr', fk', gc', le, go)
  rw [e, h1]
  show post (nI d) _
  rw [← h4]
  exact h gr' fk' gc'
end
theorem ph_roT {x y : Option (Nat × List Nat × Nat)} {s d : Nat} {t : List Nat} (h : ph_ro x y = some (s, t, d)) : (∃ s' d', x = some (s', t, d')) ∨ (∃ s' d', y = some (s', t, d')) := by
  cases x with
  | none => exact Or.inr ⟨s, d, h⟩
  | some a =>
    cases y with
    | none => exact Or.inl ⟨s, d, h⟩
    | some b =>
      obtain ⟨a1, a2, a3⟩ := a
      obtain ⟨b1, b2, b3⟩ := b
      simp only [ph_ro] at h
      split at h
      · cases h; exact Or.inr ⟨_, _, rfl⟩
      · split at h
        · cases h; exact Or.inl ⟨_, _, rfl⟩
        · cases h; exact Or.inl ⟨_, _, rfl⟩
theorem ph_XT {f : Nat → Nat → Nat → Nat → Nat} {n c i j p k s d : Nat} {t : List Nat} (hk : k < 3) (h : ph_X ph_ro none (some (0, [], 1)) (ph_aR f) n c i j p k = some (s, t, d)) : ∃ k t' s' d', k < 3 ∧ t = k :: t' ∧ i + ph_le k ≤ n ∧ j + ph_co k ≤ c ∧ ph_R f n c (i + ph_le k) (j + ph_co k) k = some (s', t', d') := by
  rw [ph_X] at h
  split at h
  · next z =>
    cases hq : ph_R f n c (i + ph_le k) (j + ph_co k) k with
    | none => rw [ph_R] at hq; rw [hq] at h; exact nomatch h
    | some x =>
      have hq' := hq
      rw [ph_R] at hq'; rw [hq'] at h
      cases h
      exact ⟨k, x.2.1, x.1, x.2.2, hk, rfl, z.1, z.2, hq⟩
  · exact nomatch h
theorem ph_Rt {f : Nat → Nat → Nat → Nat → Nat} {n c i j p s d : Nat} {t : List Nat} (hi : i ≤ n) (hj : j ≤ c) (hne : ¬ (i = n ∧ j = c)) (h : ph_R f n c i j p = some (s, t, d)) : ∃ k t' s' d', k < 3 ∧ t = k :: t' ∧ i + ph_le k ≤ n ∧ j + ph_co k ≤ c ∧ ph_R f n c (i + ph_le k) (j + ph_co k) k = some (s', t', d') := by
  rw [ph_R, ph_Trec (ph_lawR f) p hi hj hne] at h
  rcases ph_roT h with ⟨_, _, h⟩ | ⟨_, _, h⟩
  · rcases ph_roT h with ⟨_, _, h⟩ | ⟨_, _, h⟩
    · exact ph_XT (by omega) h
    · exact ph_XT (by omega) h
  · exact ph_XT (by omega) h
theorem ph_hsg {st : Nat → Int32} : ∀ (t : List Nat) (s x : Nat), ph_hs st s t → x < t.length → st (s + x) = nI (t.getD x 0) := by
  intro t
  induction t with
  | nil => intro s x _ h; exact absurd h (Nat.not_lt_zero _)
  | cons k t ih =>
    intro s x hh hx
    cases x with
    | zero => exact hh.1
    | succ x =>
      rw [List.length_cons] at hx
      have := ih (s + 1) x hh.2 (by omega)
      rw [show s + (x + 1) = s + 1 + x by omega, this]
      rfl
section
variable {c n : Nat} {w L P : Nat → Int32} {wb wa : Nat → Int64} {en gr fk gc le go : Nat → Int32}
theorem ph_xbs27 (hc : c ≤ 4) (hn : n ≤ 8) {post : Int32 → SX → Prop} {q : Nat} (hq : q < 11) (hT : ∀ i j p, i ≤ n → j ≤ c → p < 3 → fk (ph_ix i j p) = ph_r2 (ph_R (ph_s L P w) n c i j p)) : ∀ (t : List Nat) (i j p x s d : Nat), i ≤ n → j ≤ c → p < 3 → x ≤ q → ph_R (ph_s L P w) n c i j p = some (s, t, d) → post (if q - x < t.length then nI (t.getD (q - x) 0) else -4) (nI c, nI n, w, L, P, wb, wa, en, gr, fk, gc, le, go) → wX_bestStep_27 post (nI q) (nI c) (nI n) w L P wb wa en gr fk gc le go (t.length + 2) (nI i) (nI j) (nI p) (nI x) := by
  intro t
  induction t with
  | nil =>
    intro i j p x s d hi hj hp hx hR h
    refine br_f (nI_nlt (by omega) (by omega)) (ph_xend (by omega) (by omega) hn hc ?_)
    by_cases z : i = n ∧ j = c
    · rw [if_pos z]
      rw [List.length_nil, if_neg (Nat.not_lt_zero _)] at h
      exact br_f (by decide) h
    · obtain ⟨_, _, _, _, _, e, _⟩ := ph_Rt hi hj z hR
      exact nomatch e
  | cons k t ih =>
    intro i j p x s d hi hj hp hx hR h
    refine br_f (nI_nlt (by omega) (by omega)) (ph_xend (by omega) (by omega) hn hc ?_)
    by_cases z : i = n ∧ j = c
    · exfalso
      rw [z.1, z.2, ph_R, ph_Tend (ph_lawR _)] at hR
      exact nomatch hR
    · rw [if_neg z]
      obtain ⟨k', t', s', d', hk, e, h1, h2, h3⟩ := ph_Rt hi hj z hR
      cases e
      have hb := ph_ixb (i := i) (j := j) (p := p) (by omega) (by omega) hp
      refine br_t rfl (ph_xpt (And.intro (vp_in_nI hb (by decide)) (nm_r (e' := nI k) ?_ ?_)))
      · rw [nI_clamp (by omega), hT i j p hi hj hp, hR]; rfl
      · refine ph_xlet hk (nm_r (nI_add _ _) (ph_xcol hk (nm_r (nI_add _ _) (nm_r (nI_1 x) ?_))))
        by_cases y : x = q
        · subst y
          rw [Nat.sub_self, if_pos (by rw [List.length_cons]; omega)] at h
          exact br_t (nI_lt (by omega) (by omega)) h
        · refine ih (i + ph_le k) (j + ph_co k) k (x + 1) s' d' h1 h2 hk (by omega) h3 ?_
          rw [show q - x = (q - (x + 1)) + 1 by omega, List.length_cons] at h
          by_cases v : q - (x + 1) < t.length
          · rw [if_pos (by omega)] at h
            rw [if_pos v]; exact h
          · rw [if_neg (by omega)] at h
            rw [if_neg v]; exact h
end
theorem ph_bstep {c n : Nat} {w L P : Nat → Int32} {wb wa : Nat → Int64} {en gr fk gc le go : Nat → Int32} (hc : c ≤ 4) (hn : n ≤ 7) (hL : ph_bd L 9) (hP : ph_bd P 9) (hw : ph_bd w 3) {post : SX → SY → Prop} {v1 x y z : Int32} {st : Nat → Int32} (h : ∀ (gr' fk' gc' : Nat → Int32) (x y z : Int32) (st' : Nat → Int32), post (nI c, nI n, w, L, P, wb, wa, en, gr', fk', gc', le, go) (nI c, nI n, x, y, z, L, P, w, st')) : wpX_bestStep (fun r u' => wpY_bestStep (fun r' v' => r' = r ∧ post u' v') (nI c, nI n, x, y, z, L, P, w, st) v1) (nI c, nI n, w, L, P, wb, wa, en, gr, fk, gc, le, go) v1 := by
  obtain ⟨s, t, d, h1, h2, h3, h4, h5⟩ := ph_Rk (w := w) hL hP (n := n) (c := c) (by omega)
  have hl := ph_vdl t n c (ph_vdw n c t h5)
  by_cases hv : v1 < 0
  · exact br_t hv (ph_ybs hc (by omega) hL hP hw h3 (fun st' _ => br_t hv ⟨rfl, h _ _ _ _ _ _ _⟩))
  · obtain ⟨q, hq, rfl⟩ := nI_of hv
    by_cases hq11 : q < 11
    · refine br_f hv (br_t (nI_lt (b := 11) hq11 (by decide)) ?_)
      refine ph_xfg hc (by omega) hL hP hw (fun gr' fk' gc' hT => ?_)
      refine Exists.intro _ (ph_xbs27 hc (by omega) hq11 (fun i j p h1 h2 h3 => (hT i j p h1 h2 h3).2.1) t 0 0 0 0 s d (by omega) (by omega) (by omega) (by omega) h1 ?_)
      refine ph_ybs hc (by omega) hL hP hw h3 (fun st' hh => br_f hv (pk_le t.length q (fun z => ?_) (fun z => ?_)))
      · rw [Nat.sub_zero, if_neg (by omega)]; exact ⟨rfl, h _ _ _ _ _ _ _⟩
      · rw [Nat.sub_zero, if_pos z]
        refine And.intro (vp_in_nI (by omega) (by omega)) ⟨?_, h _ _ _ _ _ _ _⟩
        rw [nI_clamp (by omega)]
        have := ph_hsg t 0 q hh z
        rw [Nat.zero_add] at this
        exact this
    · refine br_f hv (br_f (nI_nlt (b := 11) (by omega) (by omega)) ?_)
      refine ph_ybs hc (by omega) hL hP hw h3 (fun st' hh => br_f hv (br_t (nI_le (by omega) (by omega)) ⟨rfl, h _ _ _ _ _ _ _⟩))
end
section
/-! the class's worst and bestOf -/
def ph_N (f : Nat → Nat → Nat → Nat → Nat) (n c i j p : Nat) : Option Nat := ph_T ph_on none (some 0) (ph_aM f) n c i j p
def ph_O (f : Nat → Nat → Nat → Nat → Nat) (n c i j p : Nat) : Nat → Option Nat := ph_T ph_oF ph_eF ph_gF (ph_aF f) n c i j p
theorem ph_NT (f : Nat → Nat → Nat → Nat → Nat) (n c i j p : Nat) : ph_N f n c i j p = ph_lf ph_on none (fun q => some (ph_sc f i j p q)) (ph_ways (n - i) (c - j)) := ph_lfc (fun t => ph_gvN f t i j p) _
theorem ph_lfF (g : List Nat → Nat → Option Nat) (r : Nat) : ∀ l, ph_lf ph_oF ph_eF g l r = ph_lf ph_om none (fun t => g t r) l := by
  intro l
  induction l with
  | nil => rfl
  | cons t l ih =>
    show ph_om (g t r) (ph_lf ph_oF ph_eF g l r) = ph_om (g t r) _
    rw [ih]
theorem ph_OT (f : Nat → Nat → Nat → Nat → Nat) (n c i j p r : Nat) : ph_O f n c i j p r = ph_lf ph_om none (fun t => if t.length = r then some (ph_sc f i j p t) else none) (ph_ways (n - i) (c - j)) := by
  rw [ph_O, ph_T, ph_lfF]
  exact ph_lfc (fun t => ph_gvF f t i j p r) _
theorem ph_Ob {f : Nat → Nat → Nat → Nat → Nat} (hf : ∀ p k i j, f p k i j ≤ 18) {n c : Nat} (hnc : n + c ≤ 12) (i j p r : Nat) : ph_bo (ph_O f n c i j p r) := by
  rw [ph_OT]
  refine ph_lfp ph_bo ph_bo0 (fun _ _ => ph_boM) _ (fun t ht => ?_)
  have := ph_sc216 hf (by omega) ht i j p
  split
  · intro m hm; cases hm; exact this
  · exact ph_bo0
theorem ph_Nb {f : Nat → Nat → Nat → Nat → Nat} (hf : ∀ p k i j, f p k i j ≤ 18) {n c : Nat} (hnc : n + c ≤ 12) (i j p : Nat) : ∃ m, ph_N f n c i j p = some m ∧ m ≤ 216 := by
  have hb : ph_bo (ph_N f n c i j p) := by
    rw [ph_NT]
    refine ph_lfp ph_bo ph_bo0 (fun _ _ => ph_boN) _ (fun t ht => ?_)
    have := ph_sc216 hf (by omega) ht i j p
    intro m hm; cases hm; exact this
  cases e : ph_N f n c i j p with
  | some m => exact ⟨m, rfl, hb m e⟩
  | none =>
    exfalso
    rw [ph_NT] at e
    obtain ⟨l, h⟩ := ph_cons (n - i) (c - j)
    rw [h] at e
    have e' : ph_on (some (ph_sc f i j p (ph_hd (n - i) (c - j)))) (ph_lf ph_on none (fun q => some (ph_sc f i j p q)) l) = none := e
    cases hq : ph_lf ph_on none (fun q => some (ph_sc f i j p q)) l with
    | none => rw [hq] at e'; exact nomatch e'
    | some b => rw [hq, ph_on2] at e'; exact nomatch e'
theorem ph_WN {L P w : Nat → Int32} (hL : ph_bd L 9) (hP : ph_bd P 9) {n c : Nat} (hnc : n + c ≤ 12) : ph_Wo L P w n c = ph_e1 (ph_N (ph_s L P w) n c 0 0 0) := by
  obtain ⟨m, h1, h2⟩ := ph_Nb (f := ph_s L P w) (ph_s18 hL hP) hnc 0 0 0
  have e := ph_Wf (ph_sc (ph_s L P w) 0 0 0) (ph_ways n c) 1000000 (Nat.le_refl _) (fun t ht => ph_sc216 (ph_s18 hL hP) hnc ht 0 0 0)
  have e2 : ph_lf ph_on none (fun q => some (ph_sc (ph_s L P w) 0 0 0 q)) (ph_ways n c) = some m := (ph_NT (ph_s L P w) n c 0 0 0).symm.trans h1
  rw [e2, ph_on2, Nat.min_eq_right (by omega)] at e
  rw [h1]
  exact e
theorem ph_GO {L P w : Nat → Int32} (hL : ph_bd L 9) (hP : ph_bd P 9) {n c r : Nat} (hnc : n + c ≤ 12) (hr : r < 2 ^ 31) : ph_G L P w (nI r) n c = ph_e1 (ph_O (ph_s L P w) n c 0 0 0 r) := by
  have hb : ∀ q, q ∈ ph_ways n c → ph_sc (ph_s L P w) 0 0 0 q ≤ 216 := fun q hq => ph_sc216 (ph_s18 hL hP) hnc hq 0 0 0
  have e := ph_Gf (fun t => nI r = -1 ∨ nI t.length = nI r) (fun t => inferInstance) (ph_sc (ph_s L P w) 0 0 0) (ph_ways n c) none hb ph_bo0
  refine Eq.trans e ?_
  show ph_e1 (ph_lf ph_om none _ (ph_ways n c)) = _
  rw [ph_OT]
  have hm : ¬ nI r = -1 := fun z => nI_pos hr (by rw [z]; decide)
  have key : ∀ l : List (List Nat), (∀ t, t ∈ l → t.length ≤ 12) → ph_lf ph_om none (fun t => if nI r = -1 ∨ nI t.length = nI r then some (ph_sc (ph_s L P w) 0 0 0 t) else none) l = ph_lf ph_om none (fun t => if t.length = r then some (ph_sc (ph_s L P w) 0 0 0 t) else none) l := by
    intro l
    induction l with
    | nil => intro _; rfl
    | cons t l ih =>
      intro h
      have ht := h t List.mem_cons_self
      show ph_om (if nI r = -1 ∨ nI t.length = nI r then some (ph_sc (ph_s L P w) 0 0 0 t) else none) (ph_lf _ _ _ l) = ph_om (if t.length = r then some (ph_sc (ph_s L P w) 0 0 0 t) else none) (ph_lf _ _ _ l)
      rw [ih (fun q hq => h q (List.mem_cons_of_mem _ hq))]
      by_cases z : t.length = r
      · rw [if_pos z, if_pos (Or.inr (by rw [z]))]
      · rw [if_neg z, if_neg (fun q => q.elim hm (fun q => z ((nI_eq (by omega) hr).mp q)))]
  rw [key _ (fun t ht => by have := ph_vdl t n c (ph_vdw n c t ht); omega)]
  rfl
section
variable {c n : Nat} {w L P : Nat → Int32} {wb wa : Nat → Int64} {en gr fk gc le go : Nat → Int32}
theorem ph_xlf (hc : c ≤ 4) (hn : n ≤ 8) (hL : ph_bd L 9) (hP : ph_bd P 9) (hw : ph_bd w 3) {post : Int32 → Prop} {i j p k r : Nat} {acc : Option Nat} (hi : i ≤ n) (hj : j ≤ c) (hp : p < 3) (hk : k < 3) (hT : i + ph_le k ≤ n ∧ j + ph_co k ≤ c → le (ph_ix (i + ph_le k) (j + ph_co k) k) = ph_e1 (ph_N (ph_s L P w) n c (i + ph_le k) (j + ph_co k) k)) (ha : ∀ x, acc = some x → x ≤ 1000) (h : wX_leastFrom_22 post (nI i) (nI j) (nI p) (nI c) (nI n) w L P wb wa en gr fk gc le go r (ph_e1 (ph_on acc (ph_X ph_on none (some 0) (ph_aM (ph_s L P w)) n c i j p k))) (nI (k + 1))) : wX_leastFrom_22 post (nI i) (nI j) (nI p) (nI c) (nI n) w L P wb wa en gr fk gc le go (r + 1) (ph_e1 acc) (nI k) := by
  refine br_f (nI_ge (b := 3) hk (by decide)) (ph_xcan hk (by omega) (by omega) hn hc ?_)
  have hf := ph_s18 (w := w) hL hP p k i j
  by_cases z : i + ph_le k ≤ n ∧ j + ph_co k ≤ c
  · have hb := ph_ixb (i := i + ph_le k) (j := j + ph_co k) (p := k) (by omega) (by omega) hk
    obtain ⟨m, hR, hs⟩ := ph_Nb (f := ph_s L P w) (ph_s18 hL hP) (n := n) (c := c) (by omega) (i + ph_le k) (j + ph_co k) k
    have hg := hT z
    rw [hR] at hg
    have hX : ph_X ph_on none (some 0) (ph_aM (ph_s L P w)) n c i j p k = some (ph_s L P w p k i j + m) := by
      rw [ph_X, if_pos z]
      show ph_aM _ _ _ _ _ (ph_N (ph_s L P w) n c (i + ph_le k) (j + ph_co k) k) = _
      rw [hR]; rfl
    rw [hX] at h
    rw [if_pos z]
    have hv : vp_in (nI (ph_ix (i + ph_le k) (j + ph_co k) k)) 135 := vp_in_nI hb (by decide)
    refine br_f (by decide) (ph_xsco hL hP hw hp hk (fun q => by subst q; rw [ph_le0, ph_co0] at z; omega) (ph_xpa hk (And.intro hv (nm_r (e' := nI (ph_s L P w p k i j + m)) ?_ ?_))))
    · rw [nI_clamp (by omega), hg]; exact nI_add _ _
    · cases acc with
      | none => exact br_t rfl (nm_r (nI_1 k) h)
      | some x =>
        have hx := ha x rfl
        refine br_f (ph_n4e (by omega)) (pk_le x (ph_s L P w p k i j + m) (fun q => ?_) (fun q => ?_))
        · have e : ph_on (some x) (some (ph_s L P w p k i j + m)) = some x := if_pos q
          rw [e] at h
          exact nm_r (nI_1 k) h
        · have e : ph_on (some x) (some (ph_s L P w p k i j + m)) = some (ph_s L P w p k i j + m) := if_neg (by omega)
          rw [e] at h
          exact nm_r (nI_1 k) h
  · rw [if_neg z]
    rw [ph_X, if_neg z, ph_onr] at h
    exact br_t rfl (nm_r (nI_1 k) h)
theorem ph_onB {x y : Option Nat} {b : Nat} (hx : ∀ z, x = some z → z ≤ b) (hy : ∀ z, y = some z → z ≤ b) : ∀ z, ph_on x y = some z → z ≤ b := by
  cases x with
  | none => exact hy
  | some a =>
    cases y with
    | none => exact hx
    | some d =>
      intro z hz
      have h1 := hx a rfl
      have h2 := hy d rfl
      rw [ph_on2] at hz
      cases hz
      omega
theorem ph_XN (hc : c ≤ 4) (hn : n ≤ 8) (hL : ph_bd L 9) (hP : ph_bd P 9) (i j p k : Nat) : ∀ z, ph_X ph_on none (some 0) (ph_aM (ph_s L P w)) n c i j p k = some z → z ≤ 1000 := by
  intro z hz
  rw [ph_X] at hz
  split at hz
  · obtain ⟨m, hR, hs⟩ := ph_Nb (f := ph_s L P w) (ph_s18 hL hP) (n := n) (c := c) (by omega) (i + ph_le k) (j + ph_co k) k
    have hf := ph_s18 (w := w) hL hP p k i j
    rw [ph_N] at hR
    rw [hR] at hz
    have e : ph_s L P w p k i j + m = z := Option.some.inj hz
    omega
  · exact nomatch hz
theorem ph_xlF (hc : c ≤ 4) (hn : n ≤ 8) (hL : ph_bd L 9) (hP : ph_bd P 9) (hw : ph_bd w 3) {post : Int32 → Prop} {i j p : Nat} (hi : i ≤ n) (hj : j ≤ c) (hp : p < 3) (hT : ∀ k, k < 3 → i + ph_le k ≤ n ∧ j + ph_co k ≤ c → le (ph_ix (i + ph_le k) (j + ph_co k) k) = ph_e1 (ph_N (ph_s L P w) n c (i + ph_le k) (j + ph_co k) k)) (h : post (ph_e1 (ph_N (ph_s L P w) n c i j p))) : wpX_leastFrom post (nI c, nI n, w, L, P, wb, wa, en, gr, fk, gc, le, go) (nI i) (nI j) (nI p) := by
  unfold wpX_leastFrom
  dsimp only
  refine ph_xend (by omega) (by omega) hn hc ?_
  by_cases z : i = n ∧ j = c
  · rw [if_pos z]
    obtain ⟨rfl, rfl⟩ := z
    rw [ph_N, ph_Tend (ph_lawN _)] at h
    exact br_f (by decide) h
  · rw [if_neg z]
    refine br_t rfl (Exists.intro 4 ?_)
    rw [ph_N, ph_Trec (ph_lawN _) p hi hj z] at h
    have a0 : ∀ x, (none : Option Nat) = some x → x ≤ 1000 := fun x hx => nomatch hx
    have a1 := ph_onB a0 (ph_XN (w := w) hc hn hL hP i j p 0)
    have a2 := ph_onB a1 (ph_XN (w := w) hc hn hL hP i j p 1)
    exact ph_xlf (k := 0) (acc := none) hc hn hL hP hw hi hj hp (by omega) (hT 0 (by omega)) a0 (ph_xlf (k := 1) hc hn hL hP hw hi hj hp (by omega) (hT 1 (by omega)) a1 (ph_xlf (k := 2) hc hn hL hP hw hi hj hp (by omega) (hT 2 (by omega)) a2 (br_t (by decide) h)))
theorem ph_xworst (hc : c ≤ 4) (hn : n ≤ 8) (hL : ph_bd L 9) (hP : ph_bd P 9) (hw : ph_bd w 3) {post : Int32 → SX → Prop} (h : ∀ le' : Nat → Int32, post (ph_Wo L P w n c) (nI c, nI n, w, L, P, wb, wa, en, gr, fk, gc, le', go)) : wpX_worst post (nI c, nI n, w, L, P, wb, wa, en, gr, fk, gc, le, go) := by
  refine ph_dn (N := n) (C := c) hn hc
    (fun q x le => wX_worst_5 post (nI c) (nI n) q x w L P wb wa en gr fk gc le go)
    (fun m1 x q y le => wX_worst_14 post (wX_worst_5 post (nI c) (nI n) m1) x (nI c) (nI n) q y w L P wb wa en gr fk gc le go)
    (fun m1 x q y r z le => wX_worst_20 post (wX_worst_5 post (nI c) (nI n) m1) (wX_worst_14 post (wX_worst_5 post (nI c) (nI n) m1) x (nI c) (nI n) q) x y (nI c) (nI n) r z w L P wb wa en gr fk gc le go)
    (fun le => wpX_pointAt (fun r_2 => vp_in r_2 135 ∧ post (le r_2.toNatClampNeg) (nI c, nI n, w, L, P, wb, wa, en, gr, fk, gc, le, go)) (nI c, nI n, w, L, P, wb, wa, en, gr, fk, gc, le, go) 0 0 0)
    (ph_D (fun i j p => ph_e1 (ph_N (ph_s L P w) n c i j p)) n c)
    (fun _ _ _ hx hp => br_t hx hp) (fun _ _ _ hx hp => br_f hx hp) (fun _ _ _ _ _ hx hp => br_t hx (nm_e hp)) (fun _ _ _ _ _ hx hp => br_f hx hp) (fun _ _ _ _ _ _ _ hx hp => br_t hx (nm_e hp))
    ?_ (fun _ _ _ _ _ h => ph_Dt1 h) (fun _ _ _ h => ph_Dt2 h) (fun s hs => ?_) le ph_D0
  · intro m1 i q j r p s hi hj hp hI hk
    have hb := ph_ixb (i := i) (j := j) (p := p) (by omega) (by omega) hp
    refine br_f (nI_ge (b := 3) hp (by decide)) (ph_xpt (ph_xlF hc hn hL hP hw hi hj hp (fun k hk z => hI _ _ k z.1 z.2 hk (by have := ph_lc k; omega)) (And.intro (vp_in_nI hb (by decide)) (nm_r (e' := upd s (ph_ix i j p) (ph_e1 (ph_N (ph_s L P w) n c i j p))) (by rw [nI_clamp (by omega)]) (nm_r (nI_1 p) (hk _ (ph_Dp hc hj hp hI pk_us (fun x hx => pk_un hx))))))))
  · refine ph_xpt (i := 0) (j := 0) (p := 0) (And.intro (vp_in_nI (by decide) (by decide)) ?_)
    have e := ph_Dt3 hs 0 0 0 (by omega) (by omega) (by omega)
    rw [← ph_WN hL hP (by omega)] at e
    have e2 : s (nI (ph_ix 0 0 0)).toNatClampNeg = ph_Wo L P w n c := e
    rw [e2]
    exact h s
/-! by length -/
theorem ph_x135 (r x : Nat) : nI r * 135 + nI x = nI (r * 135 + x) := by rw [ph_n135, pk_mul, nI_add]
theorem ph_xof (hc : c ≤ 4) (hn : n ≤ 8) (hL : ph_bd L 9) (hP : ph_bd P 9) (hw : ph_bd w 3) {post : Int32 → Prop} {i j p k r q : Nat} {acc : Option Nat} (hq : q < 11) (hi : i ≤ n) (hj : j ≤ c) (hp : p < 3) (hk : k < 3) (hT : i + ph_le k ≤ n ∧ j + ph_co k ≤ c → go (q * 135 + ph_ix (i + ph_le k) (j + ph_co k) k) = ph_e1 (ph_O (ph_s L P w) n c (i + ph_le k) (j + ph_co k) k q)) (ha : ∀ x, acc = some x → x ≤ 1000) (h : wX_greatestFrom_32 post (nI i) (nI j) (nI p) (nI (q + 1)) (nI c) (nI n) w L P wb wa en gr fk gc le go r (ph_e1 (ph_om acc (ph_X ph_oF ph_eF ph_gF (ph_aF (ph_s L P w)) n c i j p k (q + 1)))) (nI (k + 1))) : wX_greatestFrom_32 post (nI i) (nI j) (nI p) (nI (q + 1)) (nI c) (nI n) w L P wb wa en gr fk gc le go (r + 1) (ph_e1 acc) (nI k) := by
  refine br_f (nI_ge (b := 3) hk (by decide)) (ph_xcan hk (by omega) (by omega) hn hc ?_)
  have hf := ph_s18 (w := w) hL hP p k i j
  by_cases z : i + ph_le k ≤ n ∧ j + ph_co k ≤ c
  · have hb := ph_ixb (i := i + ph_le k) (j := j + ph_co k) (p := k) (by omega) (by omega) hk
    have hbo := ph_Ob (f := ph_s L P w) (ph_s18 hL hP) (n := n) (c := c) (by omega) (i + ph_le k) (j + ph_co k) k q
    have hg := hT z
    have hX : ph_X ph_oF ph_eF ph_gF (ph_aF (ph_s L P w)) n c i j p k (q + 1) = ph_aM (ph_s L P w) p k i j (ph_O (ph_s L P w) n c (i + ph_le k) (j + ph_co k) k q) := by
      rw [ph_X, if_pos z]; rfl
    rw [hX] at h
    rw [if_pos z]
    have ie : (nI (q + 1) - 1) * 135 + nI (ph_ix (i + ph_le k) (j + ph_co k) k) = nI (q * 135 + ph_ix (i + ph_le k) (j + ph_co k) k) := by rw [nI_pred, ph_x135]
    refine br_f (by decide) (ph_xpa hk (And.intro (by rw [ie]; exact vp_in_nI (by omega) (by decide)) (nm_r (e' := ph_e1 (ph_O (ph_s L P w) n c (i + ph_le k) (j + ph_co k) k q)) ?_ (ph_xsco hL hP hw hp hk (fun q => by subst q; rw [ph_le0, ph_co0] at z; omega) ?_))))
    · rw [ie, nI_clamp (by omega)]; exact hg
    · cases hO : ph_O (ph_s L P w) n c (i + ph_le k) (j + ph_co k) k q with
      | none =>
        rw [hO] at h
        have e : ph_om acc (ph_aM (ph_s L P w) p k i j none) = acc := ph_omr acc
        rw [e] at h
        exact nm_e (br_t rfl (nm_r (nI_1 k) h))
      | some m =>
        have hm := hbo m hO
        rw [hO] at h
        refine nm_r (e' := nI (ph_s L P w p k i j + m)) (nI_add _ _) (br_f (ph_n4e (by omega)) ?_)
        cases acc with
        | none => exact br_f (ph_n4l (by omega)) (nm_r (nI_1 k) h)
        | some x =>
          have hx := ha x rfl
          refine pk_le (ph_s L P w p k i j + m) x (fun q => ?_) (fun q => ?_)
          · have e : ph_om (some x) (ph_aM (ph_s L P w) p k i j (some m)) = some x := if_pos q
            rw [e] at h
            exact nm_r (nI_1 k) h
          · have e : ph_om (some x) (ph_aM (ph_s L P w) p k i j (some m)) = some (ph_s L P w p k i j + m) := if_neg (by show ¬ ph_s L P w p k i j + m ≤ x; omega)
            rw [e] at h
            exact nm_r (nI_1 k) h
  · rw [if_neg z]
    rw [ph_X, if_neg z] at h
    have e : ph_om acc (ph_eF (q + 1)) = acc := ph_omr acc
    rw [e] at h
    exact br_t rfl (nm_r (nI_1 k) h)
theorem ph_omB {x y : Option Nat} {b : Nat} (hx : ∀ z, x = some z → z ≤ b) (hy : ∀ z, y = some z → z ≤ b) : ∀ z, ph_om x y = some z → z ≤ b := by
  cases x with
  | none => exact hy
  | some a =>
    cases y with
    | none => exact hx
    | some d =>
      intro z hz
      have h1 := hx a rfl
      have h2 := hy d rfl
      rw [ph_om2] at hz
      cases hz
      omega
theorem ph_XO (hc : c ≤ 4) (hn : n ≤ 8) (hL : ph_bd L 9) (hP : ph_bd P 9) (i j p k q : Nat) : ∀ z, ph_X ph_oF ph_eF ph_gF (ph_aF (ph_s L P w)) n c i j p k (q + 1) = some z → z ≤ 1000 := by
  intro z hz
  rw [ph_X] at hz
  split at hz
  · have hbo := ph_Ob (f := ph_s L P w) (ph_s18 hL hP) (n := n) (c := c) (by omega) (i + ph_le k) (j + ph_co k) k q
    have hf := ph_s18 (w := w) hL hP p k i j
    have hz' : ph_aM (ph_s L P w) p k i j (ph_O (ph_s L P w) n c (i + ph_le k) (j + ph_co k) k q) = some z := hz
    cases hO : ph_O (ph_s L P w) n c (i + ph_le k) (j + ph_co k) k q with
    | none => rw [hO] at hz'; exact nomatch hz'
    | some m =>
      have hm := hbo m hO
      rw [hO] at hz'
      have e : ph_s L P w p k i j + m = z := Option.some.inj hz'
      omega
  · exact nomatch hz
theorem ph_xoF (hc : c ≤ 4) (hn : n ≤ 8) (hL : ph_bd L 9) (hP : ph_bd P 9) (hw : ph_bd w 3) {post : Int32 → Prop} {i j p q : Nat} (hq : q ≤ 11) (hi : i ≤ n) (hj : j ≤ c) (hp : p < 3) (hT : ∀ q', q = q' + 1 → ∀ k, k < 3 → i + ph_le k ≤ n ∧ j + ph_co k ≤ c → go (q' * 135 + ph_ix (i + ph_le k) (j + ph_co k) k) = ph_e1 (ph_O (ph_s L P w) n c (i + ph_le k) (j + ph_co k) k q')) (h : post (ph_e1 (ph_O (ph_s L P w) n c i j p q))) : wpX_greatestFrom post (nI c, nI n, w, L, P, wb, wa, en, gr, fk, gc, le, go) (nI i) (nI j) (nI p) (nI q) := by
  cases q with
  | zero =>
    refine br_t rfl (ph_xend (by omega) (by omega) hn hc ?_)
    by_cases z : i = n ∧ j = c
    · rw [if_pos z]
      obtain ⟨rfl, rfl⟩ := z
      rw [ph_O, ph_Tend (ph_lawF _)] at h
      exact br_f (by decide) h
    · rw [if_neg z]
      rw [ph_O, ph_Trec (ph_lawF _) p hi hj z] at h
      refine br_t rfl ?_
      have e : ∀ k, ph_X ph_oF ph_eF ph_gF (ph_aF (ph_s L P w)) n c i j p k 0 = none := by
        intro k
        rw [ph_X]
        split <;> rfl
      have e2 : ph_oF (ph_oF (ph_oF ph_eF (ph_X ph_oF ph_eF ph_gF (ph_aF (ph_s L P w)) n c i j p 0)) (ph_X ph_oF ph_eF ph_gF (ph_aF (ph_s L P w)) n c i j p 1)) (ph_X ph_oF ph_eF ph_gF (ph_aF (ph_s L P w)) n c i j p 2) 0 = none := by
        show ph_om (ph_om (ph_om none (ph_X ph_oF ph_eF ph_gF (ph_aF (ph_s L P w)) n c i j p 0 0)) (ph_X ph_oF ph_eF ph_gF (ph_aF (ph_s L P w)) n c i j p 1 0)) (ph_X ph_oF ph_eF ph_gF (ph_aF (ph_s L P w)) n c i j p 2 0) = none
        rw [e, e, e]; rfl
      rw [e2] at h
      exact h
  | succ q =>
    refine br_f (nI_ne0 (by omega) (by omega)) (Exists.intro 4 ?_)
    have a0 : ∀ x, (none : Option Nat) = some x → x ≤ 1000 := fun x hx => nomatch hx
    have a1 := ph_omB a0 (ph_XO (w := w) hc hn hL hP i j p 0 q)
    have a2 := ph_omB a1 (ph_XO (w := w) hc hn hL hP i j p 1 q)
    refine ph_xof (k := 0) (acc := none) hc hn hL hP hw (by omega) hi hj hp (by omega) (hT q rfl 0 (by omega)) a0 (ph_xof (k := 1) hc hn hL hP hw (by omega) hi hj hp (by omega) (hT q rfl 1 (by omega)) a1 (ph_xof (k := 2) hc hn hL hP hw (by omega) hi hj hp (by omega) (hT q rfl 2 (by omega)) a2 (br_t (by decide) ?_)))
    by_cases z : i = n ∧ j = c
    · obtain ⟨rfl, rfl⟩ := z
      rw [ph_X, ph_X, ph_X, if_neg (by rw [ph_le0]; omega), if_neg (by rw [ph_le1]; omega), if_neg (by rw [ph_co2]; omega)]
      rw [ph_O, ph_Tend (ph_lawF _)] at h
      exact h
    · rw [ph_O, ph_Trec (ph_lawF _) p hi hj z] at h
      exact h
theorem ph_xfo (hc : c ≤ 4) (hn : n ≤ 8) (hL : ph_bd L 9) (hP : ph_bd P 9) (hw : ph_bd w 3) {post : SX → Prop} {q : Nat} (hq : q ≤ 11) (hT : ∀ r i j p, r < q → i ≤ n → j ≤ c → p < 3 → go (r * 135 + ph_ix i j p) = ph_e1 (ph_O (ph_s L P w) n c i j p r)) (h : ∀ go' : Nat → Int32, (∀ r i j p, r < q + 1 → i ≤ n → j ≤ c → p < 3 → go' (r * 135 + ph_ix i j p) = ph_e1 (ph_O (ph_s L P w) n c i j p r)) → post (nI c, nI n, w, L, P, wb, wa, en, gr, fk, gc, le, go')) : wpX_fillGreatestOf post (nI c, nI n, w, L, P, wb, wa, en, gr, fk, gc, le, go) (nI q) := by
  refine ph_up (N := n) (C := c) hn hc
    (fun m x go => wX_fillGreatestOf_2 post (nI q) (nI c) (nI n) m x w L P wb wa en gr fk gc le go)
    (fun m1 x m y go => wX_fillGreatestOf_12 post (wX_fillGreatestOf_2 post (nI q) (nI c) (nI n) m1) (nI q) x (nI c) (nI n) m y w L P wb wa en gr fk gc le go)
    (fun m1 x m y r z go => wX_fillGreatestOf_23 post (wX_fillGreatestOf_2 post (nI q) (nI c) (nI n) m1) (wX_fillGreatestOf_12 post (wX_fillGreatestOf_2 post (nI q) (nI c) (nI n) m1) (nI q) x (nI c) (nI n) m) (nI q) x y (nI c) (nI n) r z w L P wb wa en gr fk gc le go)
    (fun go => post (nI c, nI n, w, L, P, wb, wa, en, gr, fk, gc, le, go))
    (fun i j p go => (∀ r i j p, r < q → i ≤ n → j ≤ c → p < 3 → go (r * 135 + ph_ix i j p) = ph_e1 (ph_O (ph_s L P w) n c i j p r)) ∧ ph_U (fun i j p => ph_e1 (ph_O (ph_s L P w) n c i j p q)) n c i j p (fun x => go (q * 135 + x)))
    (fun _ _ _ hx hp => br_t hx hp) (fun _ _ _ hx hp => br_f hx hp) (fun _ _ _ _ _ hx hp => br_t hx (nm_e hp)) (fun _ _ _ _ _ hx hp => br_f hx hp) (fun _ _ _ _ _ _ _ hx hp => br_t hx (nm_e hp))
    ?_ (fun _ _ _ _ _ h => ⟨h.1, ph_Ut1 h.2⟩) (fun _ _ _ h => ⟨h.1, ph_Ut2 h.2⟩) (fun s hs => h s (fun r i j p h1 h2 h3 h4 => ?_)) go ⟨hT, ph_U0⟩
  · intro m1 i m j r p s hi hj hp hI hk
    have hb := ph_ixb (i := i) (j := j) (p := p) (by omega) (by omega) hp
    have ie : nI q * 135 + nI (ph_ix i j p) = nI (q * 135 + ph_ix i j p) := ph_x135 _ _
    refine br_f (nI_ge (b := 3) hp (by decide)) (ph_xpt (ph_xoF hc hn hL hP hw hq hi hj hp (fun q' e k hk z => hI.1 q' _ _ k (by omega) z.1 z.2 hk) (And.intro (by rw [ie]; exact vp_in_nI (by omega) (by decide)) (nm_r (e' := upd s (q * 135 + ph_ix i j p) (ph_e1 (ph_O (ph_s L P w) n c i j p q))) (by rw [ie, nI_clamp (by omega)]) (nm_r (nI_1 p) (hk _ ⟨fun r i' j' p' h1 h2 h3 h4 => ?_, ph_Up hc hj hp hI.2 pk_us (fun x hx => pk_un (by omega))⟩))))))
    have hb' := ph_ixb (i := i') (j := j') (p := p') (by omega) (by omega) h4
    rw [pk_un (by omega)]
    exact hI.1 r i' j' p' h1 h2 h3 h4
  · by_cases z : r = q
    · subst z; exact ph_Ut3 hs.2 i j p h2 h3 h4
    · exact hs.1 r i j p (by omega) h2 h3 h4
theorem ph_xbo15 (hc : c ≤ 4) (hn : n ≤ 8) (hL : ph_bd L 9) (hP : ph_bd P 9) (hw : ph_bd w 3) {post : Int32 → SX → Prop} {q : Nat} (hq : q ≤ 11) (h : ∀ go' : Nat → Int32, post (ph_e1 (ph_O (ph_s L P w) n c 0 0 0 q)) (nI c, nI n, w, L, P, wb, wa, en, gr, fk, gc, le, go')) : ∀ (d r : Nat) (go : Nat → Int32), r + d = q + 1 → (∀ r' i j p, r' < r → i ≤ n → j ≤ c → p < 3 → go (r' * 135 + ph_ix i j p) = ph_e1 (ph_O (ph_s L P w) n c i j p r')) → wX_bestOf_15 post (nI q) (d + 1) (nI r) (nI c) (nI n) w L P wb wa en gr fk gc le go := by
  intro d
  induction d with
  | zero =>
    intro r go hr hT
    have ie : nI q * 135 + nI (ph_ix 0 0 0) = nI (q * 135 + ph_ix 0 0 0) := ph_x135 _ _
    have hb := ph_ixb (i := 0) (j := 0) (p := 0) (by omega) (by omega) (by omega)
    refine br_t (nI_lt (by omega) (by omega)) (ph_xpt (i := 0) (j := 0) (p := 0) (And.intro (by rw [ie]; exact vp_in_nI (by omega) (by decide)) ?_))
    have e : go (nI q * 135 + nI (ph_ix 0 0 0)).toNatClampNeg = ph_e1 (ph_O (ph_s L P w) n c 0 0 0 q) := by
      rw [ie, nI_clamp (by omega)]
      exact hT q 0 0 0 (by omega) (by omega) (by omega) (by omega)
    rw [e]
    exact h go
  | succ d ih =>
    intro r go hr hT
    refine br_f (nI_nlt (by omega) (by omega)) (ph_xfo hc hn hL hP hw (by omega) hT (fun go' hT' => nm_r (nI_1 r) (ih (r + 1) go' (by omega) hT')))
theorem ph_Ohi {f : Nat → Nat → Nat → Nat → Nat} {r : Nat} (hr : n + c < r) : ph_O f n c 0 0 0 r = none := by
  rw [ph_OT]
  refine ph_lfp (fun o => o = none) rfl (fun x y hx hy => by rw [hx, hy]; rfl) _ (fun t ht => ?_)
  have := ph_vdl t _ _ (ph_vdw _ _ t ht)
  exact if_neg (by omega)
end
theorem ph_bof {c n : Nat} {w L P : Nat → Int32} {wb wa : Nat → Int64} {en gr fk gc le go : Nat → Int32} (hc : c ≤ 4) (hn : n ≤ 7) (hL : ph_bd L 9) (hP : ph_bd P 9) (hw : ph_bd w 3) {post : SX → SY → Prop} {v1 x y z : Int32} {st : Nat → Int32} (h : ∀ (go' : Nat → Int32) (x y z : Int32) (st' : Nat → Int32), post (nI c, nI n, w, L, P, wb, wa, en, gr, fk, gc, le, go') (nI c, nI n, x, y, z, L, P, w, st')) : wpX_bestOf (fun r u' => wpY_bestOf (fun r' v' => r' = r ∧ post u' v') (nI c, nI n, x, y, z, L, P, w, st) v1) (nI c, nI n, w, L, P, wb, wa, en, gr, fk, gc, le, go) v1 := by
  by_cases hv : v1 < 0
  · exact br_t hv (br_f (Int32.not_le.mpr hv) ⟨rfl, h _ _ _ _ _⟩)
  · obtain ⟨q, hq, rfl⟩ := nI_of hv
    have hp : (0 : Int32) ≤ nI q := nI_pos' hq
    by_cases hq11 : q ≤ 11
    · refine br_f hv (br_t (nI_le (b := 11) hq11 (by decide)) (Exists.intro _ (ph_xbo15 hc (by omega) hL hP hw hq11 (fun go' => ?_) (q + 1) 0 go (by omega) (fun r' i j p h1 => absurd h1 (Nat.not_lt_zero _)))))
      exact br_t hp (ph_ygr hc (by omega) hL hP hw (fun st' => ⟨ph_GO hL hP (by omega) hq, h _ _ _ _ _⟩))
    · refine br_f hv (br_f (nI_ge (a := 11) (by omega) hq) ?_)
      refine br_t hp (ph_ygr hc (by omega) hL hP hw (fun st' => ⟨?_, h _ _ _ _ _⟩))
      rw [ph_GO hL hP (by omega) hq, ph_Ohi (by omega)]
      rfl
end
section
/-! ways that have a step: forward and backward sums -/
def ph_oP (x y : Nat × Nat) : Nat × Nat := (x.1 + y.1, x.2 + y.2)
def ph_aP (f : Nat → Nat → Nat → Nat → Nat) (mk : Nat → Nat → Nat → Bool) (p k i j : Nat) (x : Nat × Nat) : Nat × Nat := (f p k i j * x.1, f p k i j * (if mk k i j then x.1 else x.2))
theorem ph_lawP (f : Nat → Nat → Nat → Nat → Nat) (mk : Nat → Nat → Nat → Bool) : ph_law ph_oP (0, 0) (ph_aP f mk) := by
  refine ⟨fun x y z => ?_, fun x => ?_, fun x => ?_, fun p k i j x y => ?_, fun p k i j => ?_⟩
  · simp only [ph_oP, Nat.add_assoc]
  · simp only [ph_oP, Nat.zero_add]
  · simp only [ph_oP, Nat.add_zero]
  · simp only [ph_oP, ph_aP, Nat.mul_add]
    by_cases z : mk k i j = true
    · simp only [if_pos z, Nat.mul_add]
    · simp only [if_neg z, Nat.mul_add]
  · simp only [ph_aP, Nat.mul_zero, ite_self]
theorem ph_gvP (f : Nat → Nat → Nat → Nat → Nat) (mk : Nat → Nat → Nat → Bool) : ∀ (t : List Nat) (i j p : Nat), ph_gv (1, 0) (ph_aP f mk) i j p t = (ph_wt f i j p t, if ph_has mk i j t then ph_wt f i j p t else 0) := by
  intro t
  induction t with
  | nil => intro i j p; rfl
  | cons k t ih =>
    intro i j p
    show ph_aP f mk p k i j (ph_gv (1, 0) (ph_aP f mk) (i + ph_le k) (j + ph_co k) k t) = _
    rw [ih, ph_wt, ph_has]
    simp only [ph_aP]
    by_cases z : mk k i j = true
    · rw [if_pos z, z, Bool.true_or, if_pos rfl]
    · have z' : mk k i j = false := Bool.eq_false_iff.mpr z
      rw [if_neg z, z', Bool.false_or]
      by_cases y : ph_has mk (i + ph_le k) (j + ph_co k) t = true
      · rw [if_pos y, if_pos y]
      · rw [if_neg y, if_neg y, Nat.mul_zero]
def ph_Q (f : Nat → Nat → Nat → Nat → Nat) (mk : Nat → Nat → Nat → Bool) (n c i j p : Nat) : Nat × Nat := ph_T ph_oP (0, 0) (1, 0) (ph_aP f mk) n c i j p
theorem ph_lf1 (g : List Nat → Nat × Nat) : ∀ l, (ph_lf ph_oP (0, 0) g l).1 = ph_lf Nat.add 0 (fun t => (g t).1) l := by
  intro l
  induction l with
  | nil => rfl
  | cons t l ih => show (g t).1 + (ph_lf ph_oP (0, 0) g l).1 = (g t).1 + _; rw [ih]
theorem ph_lf2 (g : List Nat → Nat × Nat) : ∀ l, (ph_lf ph_oP (0, 0) g l).2 = ph_lf Nat.add 0 (fun t => (g t).2) l := by
  intro l
  induction l with
  | nil => rfl
  | cons t l ih => show (g t).2 + (ph_lf ph_oP (0, 0) g l).2 = (g t).2 + _; rw [ih]
theorem ph_Q1 (f : Nat → Nat → Nat → Nat → Nat) (mk : Nat → Nat → Nat → Bool) (n c i j p : Nat) : (ph_Q f mk n c i j p).1 = ph_B f n c i j p := by
  rw [ph_Q, ph_T, ph_lf1, ph_B, ph_T]
  exact ph_lfc (fun t => by rw [ph_gvP, ph_wtg]) _
theorem ph_Q2 (f : Nat → Nat → Nat → Nat → Nat) (mk : Nat → Nat → Nat → Bool) (n c i j p : Nat) : (ph_Q f mk n c i j p).2 = ph_lf Nat.add 0 (fun t => if ph_has mk i j t then ph_wt f i j p t else 0) (ph_ways (n - i) (c - j)) := by
  rw [ph_Q, ph_T, ph_lf2]
  exact ph_lfc (fun t => by rw [ph_gvP]) _
theorem ph_has0 {mk : Nat → Nat → Nat → Bool} : ∀ (t : List Nat) (i j : Nat), (∀ k i' j', i ≤ i' → j ≤ j' → mk k i' j' = false) → ph_has mk i j t = false := by
  intro t
  induction t with
  | nil => intro i j _; rfl
  | cons k t ih =>
    intro i j h
    rw [ph_has, h k i j (Nat.le_refl _) (Nat.le_refl _), Bool.false_or]
    exact ih _ _ (fun k' i' j' h1 h2 => h k' i' j' (by omega) (by omega))
theorem ph_Q0 (f : Nat → Nat → Nat → Nat → Nat) {mk : Nat → Nat → Nat → Bool} (n c : Nat) {i j : Nat} (p : Nat) (h : ∀ k i' j', i ≤ i' → j ≤ j' → mk k i' j' = false) : (ph_Q f mk n c i j p).2 = 0 := by
  rw [ph_Q2]
  refine ph_lfp (fun x => x = 0) rfl (fun x y hx hy => by rw [hx, hy]) _ (fun t _ => ?_)
  rw [ph_has0 t i j h]
  rfl
/-! sums -/
def ph_sm (f : Nat → Nat) : Nat → Nat
  | 0 => 0
  | k + 1 => ph_sm f k + f k
theorem ph_smc {f g : Nat → Nat} : ∀ N, (∀ x, x < N → f x = g x) → ph_sm f N = ph_sm g N := by
  intro N
  induction N with
  | zero => intro _; rfl
  | succ N ih => intro h; show ph_sm f N + f N = ph_sm g N + g N; rw [ih (fun x hx => h x (by omega)), h N (by omega)]
theorem ph_smz {f : Nat → Nat} : ∀ N, (∀ x, x < N → f x = 0) → ph_sm f N = 0 := by
  intro N
  induction N with
  | zero => intro _; rfl
  | succ N ih => intro h; show ph_sm f N + f N = 0; rw [ih (fun x hx => h x (by omega)), h N (by omega)]
theorem ph_sma (f g : Nat → Nat) : ∀ N, ph_sm (fun x => f x + g x) N = ph_sm f N + ph_sm g N := by
  intro N
  induction N with
  | zero => rfl
  | succ N ih => show ph_sm (fun x => f x + g x) N + (f N + g N) = (ph_sm f N + f N) + (ph_sm g N + g N); rw [ih]; omega
theorem ph_smf (f : Nat → Nat) : ∀ N, ph_sm f (N + 1) = f 0 + ph_sm (fun x => f (x + 1)) N := by
  intro N
  induction N with
  | zero => show 0 + f 0 = f 0 + 0; omega
  | succ N ih => show ph_sm f (N + 1) + f (N + 1) = f 0 + (ph_sm (fun x => f (x + 1)) N + f (N + 1)); rw [ih]; omega
theorem ph_sm1 {f : Nat → Nat} {x0 : Nat} : ∀ N, x0 < N → (∀ x, x < N → x ≠ x0 → f x = 0) → ph_sm f N = f x0 := by
  intro N
  induction N with
  | zero => intro h; exact absurd h (Nat.not_lt_zero _)
  | succ N ih =>
    intro h hz
    show ph_sm f N + f N = f x0
    by_cases z : x0 = N
    · subst z
      rw [ph_smz _ (fun x hx => hz x (by omega) (by omega)), Nat.zero_add]
    · rw [ih (by omega) (fun x hx => hz x (by omega)), hz N (by omega) (fun q => z q.symm), Nat.add_zero]
/-! forward -/
def ph_tp (f : Nat → Nat → Nat → Nat → Nat) (r : Nat → Nat) (k i j : Nat) : Nat := r 0 * f 0 k i j + r 1 * f 1 k i j + r 2 * f 2 k i j
def ph_F0 (f : Nat → Nat → Nat → Nat → Nat) : Nat → Nat → Nat
  | 0 => fun k => if k = 0 then 1 else 0
  | j + 1 => fun k => if k = 2 then ph_tp f (ph_F0 f j) 2 0 j else 0
def ph_Fr (f : Nat → Nat → Nat → Nat → Nat) (pr : Nat → Nat → Nat) (i : Nat) : Nat → Nat → Nat
  | 0 => fun k => if k = 1 then ph_tp f (pr 0) 1 i 0 else 0
  | j + 1 => fun k => if k = 0 then ph_tp f (pr j) 0 i j else if k = 1 then ph_tp f (pr (j + 1)) 1 i (j + 1) else if k = 2 then ph_tp f (ph_Fr f pr i j) 2 (i + 1) j else 0
def ph_F (f : Nat → Nat → Nat → Nat → Nat) : Nat → Nat → Nat → Nat
  | 0 => ph_F0 f
  | i + 1 => ph_Fr f (ph_F f i) i
theorem ph_F00 (f : Nat → Nat → Nat → Nat → Nat) (k : Nat) : ph_F f 0 0 k = if k = 0 then 1 else 0 := rfl
theorem ph_Fm (f : Nat → Nat → Nat → Nat → Nat) (i j : Nat) : ph_F f (i + 1) (j + 1) 0 = ph_tp f (ph_F f i j) 0 i j := rfl
theorem ph_Fi (f : Nat → Nat → Nat → Nat → Nat) (i j : Nat) : ph_F f (i + 1) j 1 = ph_tp f (ph_F f i j) 1 i j := by cases j <;> rfl
theorem ph_Fd (f : Nat → Nat → Nat → Nat → Nat) (i j : Nat) : ph_F f i (j + 1) 2 = ph_tp f (ph_F f i j) 2 i j := by cases i <;> rfl
theorem ph_Fm0 (f : Nat → Nat → Nat → Nat → Nat) (j : Nat) : ph_F f 0 (j + 1) 0 = 0 := rfl
theorem ph_Fm1 (f : Nat → Nat → Nat → Nat → Nat) (i : Nat) : ph_F f (i + 1) 0 0 = 0 := rfl
theorem ph_Fi0 (f : Nat → Nat → Nat → Nat → Nat) (j : Nat) : ph_F f 0 j 1 = 0 := by cases j <;> rfl
theorem ph_Fd0 (f : Nat → Nat → Nat → Nat → Nat) (i : Nat) : ph_F f i 0 2 = 0 := by cases i <;> rfl
theorem ph_Feq (f : Nat → Nat → Nat → Nat → Nat) {i j k : Nat} (hk : k < 3) (h : ¬ (i = 0 ∧ j = 0)) (h1 : ph_le k ≤ i) (h2 : ph_co k ≤ j) : ph_F f i j k = ph_tp f (ph_F f (i - ph_le k) (j - ph_co k)) k (i - ph_le k) (j - ph_co k) := by
  rcases ph_k3 hk with rfl | rfl | rfl
  · rw [ph_le0] at h1; rw [ph_co0] at h2
    obtain ⟨i, rfl⟩ : ∃ x, i = x + 1 := ⟨i - 1, by omega⟩
    obtain ⟨j, rfl⟩ : ∃ x, j = x + 1 := ⟨j - 1, by omega⟩
    exact ph_Fm f i j
  · rw [ph_le1] at h1
    obtain ⟨i, rfl⟩ : ∃ x, i = x + 1 := ⟨i - 1, by omega⟩
    exact ph_Fi f i j
  · rw [ph_co2] at h2
    obtain ⟨j, rfl⟩ : ∃ x, j = x + 1 := ⟨j - 1, by omega⟩
    exact ph_Fd f i j
theorem ph_Feq0 (f : Nat → Nat → Nat → Nat → Nat) {i j k : Nat} (hk : k < 3) (h : ¬ (i = 0 ∧ j = 0)) (h1 : i < ph_le k ∨ j < ph_co k) : ph_F f i j k = 0 := by
  rcases ph_k3 hk with rfl | rfl | rfl
  · rw [ph_le0, ph_co0] at h1
    cases i with
    | zero =>
      cases j with
      | zero => exact absurd ⟨rfl, rfl⟩ h
      | succ j => rfl
    | succ i =>
      cases j with
      | zero => rfl
      | succ j => omega
  · rw [ph_le1, ph_co1] at h1
    obtain rfl : i = 0 := by omega
    exact ph_Fi0 f j
  · rw [ph_le2, ph_co2] at h1
    obtain rfl : j = 0 := by omega
    exact ph_Fd0 f i
/-! the two meet -/
section
variable (f : Nat → Nat → Nat → Nat → Nat) (mk : Nat → Nat → Nat → Bool) (n c : Nat)
def ph_can (k i j : Nat) : Prop := i + ph_le k ≤ n ∧ j + ph_co k ≤ c
def ph_Sx (k i j : Nat) : Nat := if (i + ph_le k ≤ n ∧ j + ph_co k ≤ c) ∧ mk k i j = true then ph_tp f (ph_F f i j) k i j * ph_B f n c (i + ph_le k) (j + ph_co k) k else 0
def ph_Ex (k i j : Nat) : Nat := ph_tp f (ph_F f i j) k i j * (ph_Q f mk n c (i + ph_le k) (j + ph_co k) k).2
def ph_Ec (k i j : Nat) : Nat := if i + ph_le k ≤ n ∧ j + ph_co k ≤ c then ph_Ex f mk n c k i j else 0
def ph_Zx (k i j : Nat) : Nat := ph_F f i j k * (ph_Q f mk n c i j k).2
def ph_yx (k i j : Nat) : Nat := if i + ph_le k ≤ n ∧ j + ph_co k ≤ c then (if mk k i j then ph_B f n c (i + ph_le k) (j + ph_co k) k else (ph_Q f mk n c (i + ph_le k) (j + ph_co k) k).2) else 0
end
theorem ph_ring (a0 a1 a2 b00 b01 b02 b10 b11 b12 b20 b21 b22 y0 y1 y2 : Nat) : a0 * (b00 * y0 + b01 * y1 + b02 * y2) + a1 * (b10 * y0 + b11 * y1 + b12 * y2) + a2 * (b20 * y0 + b21 * y1 + b22 * y2) = (a0 * b00 + a1 * b10 + a2 * b20) * y0 + (a0 * b01 + a1 * b11 + a2 * b21) * y1 + (a0 * b02 + a1 * b12 + a2 * b22) * y2 := by
  simp only [Nat.mul_add, Nat.add_mul, Nat.mul_assoc]
  omega
section
variable {f : Nat → Nat → Nat → Nat → Nat} {mk : Nat → Nat → Nat → Bool} {n c : Nat}
theorem ph_Xy (i j p k : Nat) : (ph_X ph_oP (0, 0) (1, 0) (ph_aP f mk) n c i j p k).2 = f p k i j * ph_yx f mk n c k i j := by
  rw [ph_X, ph_yx]
  by_cases z : i + ph_le k ≤ n ∧ j + ph_co k ≤ c
  · rw [if_pos z, if_pos z]
    show f p k i j * (if mk k i j then (ph_Q f mk n c (i + ph_le k) (j + ph_co k) k).1 else (ph_Q f mk n c (i + ph_le k) (j + ph_co k) k).2) = _
    rw [ph_Q1]
  · rw [if_neg z, if_neg z, Nat.mul_zero]
theorem ph_Grec {i j : Nat} (p : Nat) (hi : i ≤ n) (hj : j ≤ c) : (ph_Q f mk n c i j p).2 = f p 0 i j * ph_yx f mk n c 0 i j + f p 1 i j * ph_yx f mk n c 1 i j + f p 2 i j * ph_yx f mk n c 2 i j := by
  by_cases z : i = n ∧ j = c
  · obtain ⟨rfl, rfl⟩ := z
    rw [ph_Q, ph_Tend (ph_lawP f mk), ph_yx, ph_yx, ph_yx, if_neg (by rw [ph_le0]; omega), if_neg (by rw [ph_le1]; omega), if_neg (by rw [ph_co2]; omega)]
    rfl
  · rw [ph_Q, ph_Trec (ph_lawP f mk) p hi hj z, ← ph_Xy, ← ph_Xy, ← ph_Xy]
    show 0 + (ph_X ph_oP (0, 0) (1, 0) (ph_aP f mk) n c i j p 0).2 + (ph_X ph_oP (0, 0) (1, 0) (ph_aP f mk) n c i j p 1).2 + (ph_X ph_oP (0, 0) (1, 0) (ph_aP f mk) n c i j p 2).2 = _
    rw [Nat.zero_add]
theorem ph_ty (hm : ∀ k i j, mk k i j = true → ∀ k' i' j', i + ph_le k ≤ i' → j + ph_co k ≤ j' → mk k' i' j' = false) (k i j : Nat) : ph_tp f (ph_F f i j) k i j * ph_yx f mk n c k i j = ph_Sx f mk n c k i j + ph_Ec f mk n c k i j := by
  rw [ph_yx, ph_Sx, ph_Ec, ph_Ex]
  by_cases z : i + ph_le k ≤ n ∧ j + ph_co k ≤ c
  · rw [if_pos z, if_pos z]
    by_cases y : mk k i j = true
    · rw [if_pos y, if_pos ⟨z, y⟩, ph_Q0 f n c k (hm k i j y), Nat.mul_zero, Nat.add_zero]
    · rw [if_neg y, if_neg (fun q => y q.2), Nat.zero_add]
  · rw [if_neg z, if_neg z, if_neg (fun q => z q.1), Nat.mul_zero]
theorem ph_Dz (hm : ∀ k i j, mk k i j = true → ∀ k' i' j', i + ph_le k ≤ i' → j + ph_co k ≤ j' → mk k' i' j' = false) {i j : Nat} (hi : i ≤ n) (hj : j ≤ c) : ph_Zx f mk n c 0 i j + ph_Zx f mk n c 1 i j + ph_Zx f mk n c 2 i j = (ph_Sx f mk n c 0 i j + ph_Sx f mk n c 1 i j + ph_Sx f mk n c 2 i j) + (ph_Ec f mk n c 0 i j + ph_Ec f mk n c 1 i j + ph_Ec f mk n c 2 i j) := by
  unfold ph_Zx
  rw [ph_Grec 0 hi hj, ph_Grec 1 hi hj, ph_Grec 2 hi hj, ph_ring]
  have h0 := ph_ty (f := f) (n := n) (c := c) hm 0 i j
  have h1 := ph_ty (f := f) (n := n) (c := c) hm 1 i j
  have h2 := ph_ty (f := f) (n := n) (c := c) hm 2 i j
  unfold ph_tp at h0 h1 h2
  rw [h0, h1, h2]
  omega
end
def ph_s2 (g : Nat → Nat → Nat) (n c : Nat) : Nat := ph_sm (fun i => ph_sm (fun j => g i j) (c + 1)) (n + 1)
theorem ph_s2a (g h : Nat → Nat → Nat) (n c : Nat) : ph_s2 (fun i j => g i j + h i j) n c = ph_s2 g n c + ph_s2 h n c := by
  unfold ph_s2
  rw [← ph_sma]
  exact ph_smc _ (fun i _ => ph_sma (fun j => g i j) (fun j => h i j) (c + 1))
theorem ph_s2c {g h : Nat → Nat → Nat} {n c : Nat} (e : ∀ i j, i ≤ n → j ≤ c → g i j = h i j) : ph_s2 g n c = ph_s2 h n c :=
  ph_smc _ (fun i hi => ph_smc _ (fun j hj => e i j (by omega) (by omega)))
section
variable {f : Nat → Nat → Nat → Nat → Nat} {mk : Nat → Nat → Nat → Bool} {n c : Nat}
theorem ph_m0 : ph_s2 (ph_Zx f mk n c 0) n c = (ph_Q f mk n c 0 0 0).2 + ph_s2 (ph_Ec f mk n c 0) n c := by
  unfold ph_s2
  rw [ph_smf]
  have r0 : ph_sm (fun j => ph_Zx f mk n c 0 0 j) (c + 1) = (ph_Q f mk n c 0 0 0).2 := by
    rw [ph_smf, ph_smz c (fun x _ => by rw [ph_Zx, ph_Fm0, Nat.zero_mul])]
    rw [ph_Zx, ph_F00, if_pos rfl, Nat.one_mul, Nat.add_zero]
  have r1 : ph_sm (fun i => ph_sm (fun j => ph_Ec f mk n c 0 i j) (c + 1)) (n + 1) = ph_sm (fun i => ph_sm (fun j => ph_Ec f mk n c 0 i j) (c + 1)) n := by
    show _ + ph_sm (fun j => ph_Ec f mk n c 0 n j) (c + 1) = _
    rw [ph_smz (c + 1) (fun x _ => by rw [ph_Ec, if_neg (by rw [ph_le0]; omega)]), Nat.add_zero]
  rw [r0, r1]
  refine congrArg _ (ph_smc n (fun i hi => ?_))
  rw [ph_smf]
  show ph_Zx f mk n c 0 (i + 1) 0 + ph_sm (fun x => ph_Zx f mk n c 0 (i + 1) (x + 1)) c = ph_sm (fun j => ph_Ec f mk n c 0 i j) c + ph_Ec f mk n c 0 i c
  have e1 : ph_Zx f mk n c 0 (i + 1) 0 = 0 := by rw [ph_Zx, ph_Fm1, Nat.zero_mul]
  have e2 : ph_Ec f mk n c 0 i c = 0 := by rw [ph_Ec, if_neg (by rw [ph_co0]; omega)]
  rw [e1, e2, Nat.zero_add, Nat.add_zero]
  refine ph_smc c (fun j hj => ?_)
  rw [ph_Ec, if_pos (by rw [ph_le0, ph_co0]; omega), ph_Ex, ph_Zx, ph_Fm]
  rfl
theorem ph_m1 : ph_s2 (ph_Zx f mk n c 1) n c = ph_s2 (ph_Ec f mk n c 1) n c := by
  unfold ph_s2
  rw [ph_smf]
  have r0 : ph_sm (fun j => ph_Zx f mk n c 1 0 j) (c + 1) = 0 := ph_smz (c + 1) (fun x _ => by rw [ph_Zx, ph_Fi0, Nat.zero_mul])
  have r1 : ph_sm (fun i => ph_sm (fun j => ph_Ec f mk n c 1 i j) (c + 1)) (n + 1) = ph_sm (fun i => ph_sm (fun j => ph_Ec f mk n c 1 i j) (c + 1)) n := by
    show _ + ph_sm (fun j => ph_Ec f mk n c 1 n j) (c + 1) = _
    rw [ph_smz (c + 1) (fun x _ => by rw [ph_Ec, if_neg (by rw [ph_le1]; omega)]), Nat.add_zero]
  rw [r0, r1, Nat.zero_add]
  refine ph_smc n (fun i hi => ph_smc (c + 1) (fun j hj => ?_))
  rw [ph_Ec, if_pos (by rw [ph_le1, ph_co1]; omega), ph_Ex, ph_Zx, ph_Fi]
  rfl
theorem ph_m2 : ph_s2 (ph_Zx f mk n c 2) n c = ph_s2 (ph_Ec f mk n c 2) n c := by
  unfold ph_s2
  refine ph_smc (n + 1) (fun i hi => ?_)
  rw [ph_smf]
  show ph_Zx f mk n c 2 i 0 + ph_sm (fun x => ph_Zx f mk n c 2 i (x + 1)) c = ph_sm (fun j => ph_Ec f mk n c 2 i j) c + ph_Ec f mk n c 2 i c
  have e1 : ph_Zx f mk n c 2 i 0 = 0 := by rw [ph_Zx, ph_Fd0, Nat.zero_mul]
  have e2 : ph_Ec f mk n c 2 i c = 0 := by rw [ph_Ec, if_neg (by rw [ph_co2]; omega)]
  rw [e1, e2, Nat.zero_add, Nat.add_zero]
  refine ph_smc c (fun j hj => ?_)
  rw [ph_Ec, if_pos (by rw [ph_le2, ph_co2]; omega), ph_Ex, ph_Zx, ph_Fd]
  rfl
theorem ph_meet (hm : ∀ k i j, mk k i j = true → ∀ k' i' j', i + ph_le k ≤ i' → j + ph_co k ≤ j' → mk k' i' j' = false) : (ph_Q f mk n c 0 0 0).2 = ph_s2 (ph_Sx f mk n c 0) n c + ph_s2 (ph_Sx f mk n c 1) n c + ph_s2 (ph_Sx f mk n c 2) n c := by
  have h := ph_s2c (n := n) (c := c) (fun i j hi hj => ph_Dz (f := f) hm hi hj)
  rw [ph_s2a, ph_s2a, ph_s2a, ph_s2a, ph_s2a, ph_s2a, ph_s2a] at h
  have h0 := ph_m0 (f := f) (mk := mk) (n := n) (c := c)
  have h1 := ph_m1 (f := f) (mk := mk) (n := n) (c := c)
  have h2 := ph_m2 (f := f) (mk := mk) (n := n) (c := c)
  omega
end
end
section
/-! the class's matched, deleted, inserted -/
def ph_pm (i0 j0 k i j : Nat) : Bool := decide (k = 0 ∧ i = i0 ∧ j = j0)
def ph_pd (j0 k _ j : Nat) : Bool := decide (k = 2 ∧ j = j0)
def ph_pi (i0 k i _ : Nat) : Bool := decide (k = 1 ∧ i = i0)
theorem ph_hasc {mk mk' : Nat → Nat → Nat → Bool} : ∀ (t : List Nat) (a b i j : Nat), ph_vd a b t → (∀ k i' j', k < 3 → i' ≤ i + a → j' ≤ j + b → mk k i' j' = mk' k i' j') → ph_has mk i j t = ph_has mk' i j t := by
  intro t
  induction t with
  | nil => intro a b i j _ _; rfl
  | cons k t ih =>
    intro a b i j hv h
    obtain ⟨hk, h1, h2, hv⟩ := hv
    rw [ph_has, ph_has, h k i j hk (by omega) (by omega), ih _ _ _ _ hv (fun k' i' j' a1 a2 a3 => h k' i' j' a1 (by omega) (by omega))]
theorem ph_lfcm {M : Type} {op : M → M → M} {e : M} {g g' : List Nat → M} : ∀ l : List (List Nat), (∀ t, t ∈ l → g t = g' t) → ph_lf op e g l = ph_lf op e g' l := by
  intro l
  induction l with
  | nil => intro _; rfl
  | cons t l ih => intro h; show op (g t) (ph_lf op e g l) = op (g' t) (ph_lf op e g' l); rw [h t List.mem_cons_self, ih (fun q hq => h q (List.mem_cons_of_mem _ hq))]
theorem ph_SwQ {L P w : Nat → Int32} {mk mk' : Nat → Nat → Nat → Bool} {n c : Nat} (h : ∀ k i' j', k < 3 → i' ≤ n → j' ≤ c → mk k i' j' = mk' k i' j') : ph_Sw L P w mk n c = (ph_Q (ph_f L P w) mk' n c 0 0 0).2 := by
  have e : (fun (a : Nat) (t : List Nat) => if ph_has mk 0 0 t then a + ph_wt (ph_f L P w) 0 0 0 t else a) = (fun a t => Nat.add a (if ph_has mk 0 0 t then ph_wt (ph_f L P w) 0 0 0 t else 0)) := by
    funext a t
    by_cases z : ph_has mk 0 0 t = true
    · rw [if_pos z, if_pos z]; rfl
    · rw [if_neg z, if_neg z]; rfl
  rw [ph_Sw, e, ph_fl (op := Nat.add) (e := 0) Nat.add_assoc Nat.add_zero, ph_Q2, Nat.sub_zero, Nat.sub_zero]
  refine (Nat.zero_add _).trans (ph_lfcm _ (fun t ht => ?_))
  rw [ph_hasc t n c 0 0 (ph_vdw n c t ht) (fun k i' j' a1 a2 a3 => h k i' j' a1 (by omega) (by omega))]
theorem ph_s20 {g : Nat → Nat → Nat} (n c : Nat) (h : ∀ i j, g i j = 0) : ph_s2 g n c = 0 := ph_smz _ (fun i _ => ph_smz _ (fun j _ => h i j))
section
variable {f : Nat → Nat → Nat → Nat → Nat} {n c : Nat}
theorem ph_Qm {i0 j0 : Nat} (hi : i0 < n) (hj : j0 < c) : (ph_Q f (ph_pm i0 j0) n c 0 0 0).2 = ph_tp f (ph_F f i0 j0) 0 i0 j0 * ph_B f n c (i0 + 1) (j0 + 1) 0 := by
  rw [ph_meet]
  · have e1 : ph_s2 (ph_Sx f (ph_pm i0 j0) n c 1) n c = 0 := ph_s20 n c (fun i j => if_neg (fun z => by have := of_decide_eq_true z.2; omega))
    have e2 : ph_s2 (ph_Sx f (ph_pm i0 j0) n c 2) n c = 0 := ph_s20 n c (fun i j => if_neg (fun z => by have := of_decide_eq_true z.2; omega))
    rw [e1, e2, Nat.add_zero, Nat.add_zero]
    have h1 : ph_s2 (ph_Sx f (ph_pm i0 j0) n c 0) n c = ph_sm (fun j => ph_Sx f (ph_pm i0 j0) n c 0 i0 j) (c + 1) :=
      ph_sm1 (f := fun i => ph_sm (fun j => ph_Sx f (ph_pm i0 j0) n c 0 i j) (c + 1)) (n + 1) (by omega) (fun x _ hx => ph_smz _ (fun j _ => if_neg (fun z => by have := of_decide_eq_true z.2; omega)))
    have h2 : ph_sm (fun j => ph_Sx f (ph_pm i0 j0) n c 0 i0 j) (c + 1) = ph_Sx f (ph_pm i0 j0) n c 0 i0 j0 :=
      ph_sm1 (f := fun j => ph_Sx f (ph_pm i0 j0) n c 0 i0 j) (c + 1) (by omega) (fun x _ hx => if_neg (fun z => by have := of_decide_eq_true z.2; omega))
    rw [h1, h2, ph_Sx, if_pos ⟨by rw [ph_le0, ph_co0]; omega, decide_eq_true ⟨rfl, rfl, rfl⟩⟩]
    rfl
  · intro k i j h k' i' j' h1 h2
    obtain ⟨rfl, rfl, rfl⟩ := of_decide_eq_true h
    rw [ph_le0] at h1
    exact decide_eq_false (by omega)
theorem ph_Qd {j0 : Nat} (hj : j0 < c) : (ph_Q f (ph_pd j0) n c 0 0 0).2 = ph_sm (fun i => ph_tp f (ph_F f i j0) 2 i j0 * ph_B f n c i (j0 + 1) 2) (n + 1) := by
  rw [ph_meet]
  · have e1 : ph_s2 (ph_Sx f (ph_pd j0) n c 0) n c = 0 := ph_s20 n c (fun i j => if_neg (fun z => by have := of_decide_eq_true z.2; omega))
    have e2 : ph_s2 (ph_Sx f (ph_pd j0) n c 1) n c = 0 := ph_s20 n c (fun i j => if_neg (fun z => by have := of_decide_eq_true z.2; omega))
    rw [e1, e2, Nat.zero_add]
    refine ph_smc (n + 1) (fun i hi => ?_)
    have h2 : ph_sm (fun j => ph_Sx f (ph_pd j0) n c 2 i j) (c + 1) = ph_Sx f (ph_pd j0) n c 2 i j0 :=
      ph_sm1 (f := fun j => ph_Sx f (ph_pd j0) n c 2 i j) (c + 1) (by omega) (fun x _ hx => if_neg (fun z => by have := of_decide_eq_true z.2; omega))
    rw [h2, ph_Sx, if_pos ⟨by rw [ph_le2, ph_co2]; omega, decide_eq_true ⟨rfl, rfl⟩⟩]
    rfl
  · intro k i j h k' i' j' h1 h2
    obtain ⟨rfl, rfl⟩ := of_decide_eq_true h
    rw [ph_co2] at h2
    exact decide_eq_false (by omega)
theorem ph_Qi {i0 : Nat} (hi : i0 < n) : (ph_Q f (ph_pi i0) n c 0 0 0).2 = ph_sm (fun j => ph_tp f (ph_F f i0 j) 1 i0 j * ph_B f n c (i0 + 1) j 1) (c + 1) := by
  rw [ph_meet]
  · have e1 : ph_s2 (ph_Sx f (ph_pi i0) n c 0) n c = 0 := ph_s20 n c (fun i j => if_neg (fun z => by have := of_decide_eq_true z.2; omega))
    have e2 : ph_s2 (ph_Sx f (ph_pi i0) n c 2) n c = 0 := ph_s20 n c (fun i j => if_neg (fun z => by have := of_decide_eq_true z.2; omega))
    rw [e1, e2, Nat.zero_add, Nat.add_zero]
    have h1 : ph_s2 (ph_Sx f (ph_pi i0) n c 1) n c = ph_sm (fun j => ph_Sx f (ph_pi i0) n c 1 i0 j) (c + 1) :=
      ph_sm1 (f := fun i => ph_sm (fun j => ph_Sx f (ph_pi i0) n c 1 i j) (c + 1)) (n + 1) (by omega) (fun x _ hx => ph_smz _ (fun j _ => if_neg (fun z => by have := of_decide_eq_true z.2; omega)))
    rw [h1]
    refine ph_smc (c + 1) (fun j hj => ?_)
    rw [ph_Sx, if_pos ⟨by rw [ph_le1, ph_co1]; omega, decide_eq_true ⟨rfl, rfl⟩⟩]
    rfl
  · intro k i j h k' i' j' h1 h2
    obtain ⟨rfl, rfl⟩ := of_decide_eq_true h
    rw [ph_le1] at h1
    exact decide_eq_false (by omega)
end
/-! the class's walk -/
section
variable {c n : Nat} {w L P : Nat → Int32} {wb wa : Nat → Int64} {en gr fk gc le go : Nat → Int32}
theorem ph_xu54 (hL : ph_bd L 9) (hP : ph_bd P 9) (hw : ph_bd w 3) {post : Int64 → Prop} {fc fl : Int32} {i j k r p acc : Nat} (hi : i ≤ 8) (hj : j ≤ 4) (hk : k < 3) (hp : p < 3) (hk0 : k = 0 → i < 8 ∧ j < 4) (hT : wb (ph_ix i j p) = lN (ph_F (ph_f L P w) i j p)) (h : wX_weightUpTo_54 post (nI k) (nI i) (nI j) fc fl w L P wb wa en gr fk gc le go r (lN (acc + ph_F (ph_f L P w) i j p * ph_f L P w p k i j)) (nI (p + 1))) : wX_weightUpTo_54 post (nI k) (nI i) (nI j) fc fl w L P wb wa en gr fk gc le go (r + 1) (lN acc) (nI p) := by
  have hb := ph_ixb hi hj hp
  have hf := ph_f81 (w := w) hL hP p k i j
  refine br_f (nI_ge (b := 3) hp (by decide)) (ph_xpt (And.intro (vp_in_nI hb (by decide)) (ph_xfac hL hP hw hp hk hk0 (nm_r ?_ (nm_r (nI_1 p) h)))))
  rw [nI_clamp (by omega), hT, nI_l (by omega), lN_mul, lN_add]
theorem ph_xu18 (hL : ph_bd L 9) (hP : ph_bd P 9) (hw : ph_bd w 3) {post : Int64 → Prop} {fc fl : Int32} {i j k : Nat} (hi : i ≤ 8) (hj : j ≤ 4) (hk : k < 3) (hne : ¬ (i = 0 ∧ j = 0)) (hT : ph_le k ≤ i → ph_co k ≤ j → ∀ p, p < 3 → wb (ph_ix (i - ph_le k) (j - ph_co k) p) = lN (ph_F (ph_f L P w) (i - ph_le k) (j - ph_co k) p)) (h : post (lN (ph_F (ph_f L P w) i j k))) : wX_weightUpTo_18 post (nI i) (nI j) (nI k) fc fl w L P wb wa en gr fk gc le go := by
  have hle := ph_leL k
  have hco := ph_coL k
  unfold wX_weightUpTo_18
  refine ph_xlet hk ?_
  by_cases h1 : ph_le k ≤ i
  · refine nm_r (pk_sub h1) (ph_xcol hk ?_)
    by_cases h2 : ph_co k ≤ j
    · refine nm_r (pk_sub h2) (br_f (nI_pos (by omega)) (br_t (nI_pos' (by omega)) (Exists.intro 4 ?_)))
      have hk0 : k = 0 → i - ph_le k < 8 ∧ j - ph_co k < 4 := by
        intro z; subst z; rw [ph_le0] at h1 ⊢; rw [ph_co0] at h2 ⊢; omega
      rw [ph_Feq _ hk hne h1 h2, ph_tp] at h
      exact ph_xu54 (p := 0) (acc := 0) hL hP hw (by omega) (by omega) hk (by omega) hk0 (hT h1 h2 0 (by omega)) (ph_xu54 (p := 1) hL hP hw (by omega) (by omega) hk (by omega) hk0 (hT h1 h2 1 (by omega)) (ph_xu54 (p := 2) hL hP hw (by omega) (by omega) hk (by omega) hk0 (hT h1 h2 2 (by omega)) (br_t (by decide) (by rw [Nat.zero_add]; exact h))))
    · rw [ph_Feq0 _ hk hne (Or.inr (by omega))] at h
      exact nm_e (br_f (nI_pos (by omega)) (br_f (Int32.not_le.mpr (pk_sneg (by omega) (by omega))) h))
  · rw [ph_Feq0 _ hk hne (Or.inl (by omega))] at h
    exact nm_e (ph_xcol hk (nm_e (br_t (pk_sneg (by omega) (by omega)) h)))
theorem ph_xwu (hL : ph_bd L 9) (hP : ph_bd P 9) (hw : ph_bd w 3) {post : Int64 → Prop} {fc fl : Int32} {i j k : Nat} (hi : i ≤ 8) (hj : j ≤ 4) (hk : k < 3) (hT : ph_le k ≤ i → ph_co k ≤ j → ∀ p, p < 3 → wb (ph_ix (i - ph_le k) (j - ph_co k) p) = lN (ph_F (ph_f L P w) (i - ph_le k) (j - ph_co k) p)) (h : post (lN (ph_F (ph_f L P w) i j k))) : wpX_weightUpTo post (fc, fl, w, L, P, wb, wa, en, gr, fk, gc, le, go) (nI i) (nI j) (nI k) := by
  refine pk_eq i 0 (fun z => pk_eq j 0 (fun z' => ?_) (fun z' => ?_)) (fun z => ?_)
  · subst z; subst z'
    rw [ph_F00] at h
    refine pk_eq k 0 (fun y => ?_) (fun y => ?_)
    · rw [if_pos y] at h; exact h
    · rw [if_neg y] at h; exact h
  · exact ph_xu18 hL hP hw hi hj hk (fun q => z' q.2) hT h
  · exact ph_xu18 hL hP hw hi hj hk (fun q => z q.1) hT h
theorem ph_xfb (hc : c ≤ 4) (hn : n ≤ 8) (hL : ph_bd L 9) (hP : ph_bd P 9) (hw : ph_bd w 3) {post : SX → Prop} (h : ∀ wb' : Nat → Int64, (∀ i j p, i ≤ n → j ≤ c → p < 3 → wb' (ph_ix i j p) = lN (ph_F (ph_f L P w) i j p)) → post (nI c, nI n, w, L, P, wb', wa, en, gr, fk, gc, le, go)) : wpX_fillWeightBefore post (nI c, nI n, w, L, P, wb, wa, en, gr, fk, gc, le, go) := by
  refine ph_up (N := n) (C := c) hn hc
    (fun m x wb => wX_fillWeightBefore_2 post (nI c) (nI n) m x w L P wb wa en gr fk gc le go)
    (fun m1 x m y wb => wX_fillWeightBefore_12 post (wX_fillWeightBefore_2 post (nI c) (nI n) m1) x (nI c) (nI n) m y w L P wb wa en gr fk gc le go)
    (fun m1 x m y r z wb => wX_fillWeightBefore_22 post (wX_fillWeightBefore_2 post (nI c) (nI n) m1) (wX_fillWeightBefore_12 post (wX_fillWeightBefore_2 post (nI c) (nI n) m1) x (nI c) (nI n) m) x y (nI c) (nI n) r z w L P wb wa en gr fk gc le go)
    (fun wb => post (nI c, nI n, w, L, P, wb, wa, en, gr, fk, gc, le, go))
    (ph_U (fun i j p => lN (ph_F (ph_f L P w) i j p)) n c)
    (fun _ _ _ hx hp => br_t hx hp) (fun _ _ _ hx hp => br_f hx hp) (fun _ _ _ _ _ hx hp => br_t hx (nm_e hp)) (fun _ _ _ _ _ hx hp => br_f hx hp) (fun _ _ _ _ _ _ _ hx hp => br_t hx (nm_e hp))
    ?_ (fun _ _ _ _ _ h => ph_Ut1 h) (fun _ _ _ h => ph_Ut2 h) (fun s hs => h s (ph_Ut3 hs)) wb ph_U0
  intro m1 i m j r p s hi hj hp hI hk
  have hb := ph_ixb (i := i) (j := j) (p := p) (by omega) (by omega) hp
  refine br_f (nI_ge (b := 3) hp (by decide)) (ph_xpt (ph_xwu hL hP hw (by omega) (by omega) hp (fun a1 a2 p' hp' => hI _ _ p' (by omega) (by omega) hp' (by have := ph_lc p; omega)) (And.intro (vp_in_nI hb (by decide)) (nm_r (e' := vp_updL s (ph_ix i j p) (lN (ph_F (ph_f L P w) i j p))) (by rw [nI_clamp (by omega)]) (nm_r (nI_1 p) (hk _ (ph_Up hc hj hp hI pk_uLs (fun x hx => pk_uLn hx))))))))
theorem ph_xt6 (hL : ph_bd L 9) (hP : ph_bd P 9) (hw : ph_bd w 3) {post : Int64 → Prop} {fc fl : Int32} {i j k r p acc : Nat} (hi : i ≤ 8) (hj : j ≤ 4) (hk : k < 3) (hp : p < 3) (hk0 : k = 0 → i < 8 ∧ j < 4) (hT : wb (ph_ix i j p) = lN (ph_F (ph_f L P w) i j p)) (h : wX_weightThrough_6 post (nI k) (nI i) (nI j) fc fl w L P wb wa en gr fk gc le go r (lN (acc + ph_F (ph_f L P w) i j p * ph_f L P w p k i j)) (nI (p + 1))) : wX_weightThrough_6 post (nI k) (nI i) (nI j) fc fl w L P wb wa en gr fk gc le go (r + 1) (lN acc) (nI p) := by
  have hb := ph_ixb hi hj hp
  have hf := ph_f81 (w := w) hL hP p k i j
  refine br_f (nI_ge (b := 3) hp (by decide)) (ph_xpt (And.intro (vp_in_nI hb (by decide)) (ph_xfac hL hP hw hp hk hk0 (nm_r ?_ (nm_r (nI_1 p) h)))))
  rw [nI_clamp (by omega), hT, nI_l (by omega), lN_mul, lN_add]
theorem ph_xwt (hc : c ≤ 4) (hn : n ≤ 8) (hL : ph_bd L 9) (hP : ph_bd P 9) (hw : ph_bd w 3) {post : Int64 → Prop} {i j k : Nat} (hk : k < 3) (hi : i + ph_le k ≤ n) (hj : j + ph_co k ≤ c) (hB : ∀ i j p, i ≤ n → j ≤ c → p < 3 → wb (ph_ix i j p) = lN (ph_F (ph_f L P w) i j p)) (hA : ∀ i j p, i ≤ n → j ≤ c → p < 3 → wa (ph_ix i j p) = lN (ph_B (ph_f L P w) n c i j p)) (h : post (lN (ph_tp (ph_f L P w) (ph_F (ph_f L P w) i j) k i j * ph_B (ph_f L P w) n c (i + ph_le k) (j + ph_co k) k))) : wpX_weightThrough post (nI c, nI n, w, L, P, wb, wa, en, gr, fk, gc, le, go) (nI k) (nI i) (nI j) := by
  have hk0 : k = 0 → i < 8 ∧ j < 4 := by
    intro z; subst z; rw [ph_le0] at hi; rw [ph_co0] at hj; omega
  have hb := ph_ixb (i := i + ph_le k) (j := j + ph_co k) (p := k) (by omega) (by omega) hk
  refine Exists.intro 4 (ph_xt6 (p := 0) (acc := 0) hL hP hw (by omega) (by omega) hk (by omega) hk0 (hB i j 0 (by omega) (by omega) (by omega)) (ph_xt6 (p := 1) hL hP hw (by omega) (by omega) hk (by omega) hk0 (hB i j 1 (by omega) (by omega) (by omega)) (ph_xt6 (p := 2) hL hP hw (by omega) (by omega) hk (by omega) hk0 (hB i j 2 (by omega) (by omega) (by omega)) (br_t (by decide) (ph_xpa hk (And.intro (vp_in_nI hb (by decide)) ?_))))))
  rw [nI_clamp (by omega), hA _ _ k hi hj hk, lN_mul, Nat.zero_add]
  exact h
theorem ph_xd27 (hc : c ≤ 4) (hn : n ≤ 8) (hL : ph_bd L 9) (hP : ph_bd P 9) (hw : ph_bd w 3) {post : Int64 → SX → Prop} {j0 : Nat} (hj : j0 < c) (hB : ∀ i j p, i ≤ n → j ≤ c → p < 3 → wb (ph_ix i j p) = lN (ph_F (ph_f L P w) i j p)) (hA : ∀ i j p, i ≤ n → j ≤ c → p < 3 → wa (ph_ix i j p) = lN (ph_B (ph_f L P w) n c i j p)) (h : post (lN (ph_sm (fun i => ph_tp (ph_f L P w) (ph_F (ph_f L P w) i j0) 2 i j0 * ph_B (ph_f L P w) n c i (j0 + 1) 2) (n + 1))) (nI c, nI n, w, L, P, wb, wa, en, gr, fk, gc, le, go)) : ∀ d i, i + d = n + 1 → wX_deleted_27 post (nI (j0 + 1)) (nI c) (nI n) w L P wb wa en gr fk gc le go (d + 1) (lN (ph_sm (fun i => ph_tp (ph_f L P w) (ph_F (ph_f L P w) i j0) 2 i j0 * ph_B (ph_f L P w) n c i (j0 + 1) 2) i)) (nI i) := by
  intro d
  induction d with
  | zero =>
    intro i hi
    obtain rfl : i = n + 1 := by omega
    exact br_t (nI_lt (by omega) (by omega)) h
  | succ d ih =>
    intro i hi
    refine br_f (nI_nlt (by omega) (by omega)) ?_
    rw [nI_pred]
    exact ph_xwt (k := 2) hc hn hL hP hw (by omega) (by rw [ph_le2]; omega) (by rw [ph_co2]; omega) hB hA (nm_r (lN_add _ _) (nm_r (nI_1 i) (ih (i + 1) (by omega))))
theorem ph_xi27 (hc : c ≤ 4) (hn : n ≤ 8) (hL : ph_bd L 9) (hP : ph_bd P 9) (hw : ph_bd w 3) {post : Int64 → SX → Prop} {i0 : Nat} (hi0 : i0 < n) (hB : ∀ i j p, i ≤ n → j ≤ c → p < 3 → wb (ph_ix i j p) = lN (ph_F (ph_f L P w) i j p)) (hA : ∀ i j p, i ≤ n → j ≤ c → p < 3 → wa (ph_ix i j p) = lN (ph_B (ph_f L P w) n c i j p)) (h : post (lN (ph_sm (fun j => ph_tp (ph_f L P w) (ph_F (ph_f L P w) i0 j) 1 i0 j * ph_B (ph_f L P w) n c (i0 + 1) j 1) (c + 1))) (nI c, nI n, w, L, P, wb, wa, en, gr, fk, gc, le, go)) : ∀ d j, j + d = c + 1 → wX_inserted_27 post (nI i0) (nI c) (nI n) w L P wb wa en gr fk gc le go (d + 1) (lN (ph_sm (fun j => ph_tp (ph_f L P w) (ph_F (ph_f L P w) i0 j) 1 i0 j * ph_B (ph_f L P w) n c (i0 + 1) j 1) j)) (nI j) := by
  intro d
  induction d with
  | zero =>
    intro j hj
    obtain rfl : j = c + 1 := by omega
    exact br_t (nI_lt (by omega) (by omega)) h
  | succ d ih =>
    intro j hj
    refine br_f (nI_nlt (by omega) (by omega)) ?_
    exact ph_xwt (k := 1) hc hn hL hP hw (by omega) (by rw [ph_le1]; omega) (by rw [ph_co1]; omega) hB hA (nm_r (lN_add _ _) (nm_r (nI_1 j) (ih (j + 1) (by omega))))
end
end
section
/-! the relation, the constructors, the setters -/
def i_Rel (_ : Nat) (u : SX) (v : SY) : Prop := ∃ (c n : Nat) (w L P : Nat → Int32) (wb wa : Nat → Int64) (en gr fk gc le go : Nat → Int32) (x y z : Int32) (st : Nat → Int32), 1 ≤ c ∧ c ≤ 4 ∧ n ≤ 7 ∧ ph_bd L 9 ∧ ph_bd P 9 ∧ ph_bd w 3 ∧ u = (nI c, nI n, w, L, P, wb, wa, en, gr, fk, gc, le, go) ∧ v = (nI c, nI n, x, y, z, L, P, w, st)
theorem i_up {k : Nat} {u : SX} {v : SY} (h : i_Rel k u v) : i_Rel (k + 4) u v := h
theorem ph_mkR {k c n : Nat} {w L P : Nat → Int32} {wb wa : Nat → Int64} {en gr fk gc le go : Nat → Int32} {x y z : Int32} {st : Nat → Int32} (h1 : 1 ≤ c) (h2 : c ≤ 4) (h3 : n ≤ 7) (h4 : ph_bd L 9) (h5 : ph_bd P 9) (h6 : ph_bd w 3) : i_Rel k (nI c, nI n, w, L, P, wb, wa, en, gr, fk, gc, le, go) (nI c, nI n, x, y, z, L, P, w, st) := ⟨c, n, w, L, P, wb, wa, en, gr, fk, gc, le, go, x, y, z, st, h1, h2, h3, h4, h5, h6, rfl, rfl⟩
def ph_on1 (f : Nat → Int32) : Nat → Nat → Int32
  | 0 => f
  | k + 1 => upd (ph_on1 f k) k 1
theorem ph_bd0 (b : Nat) : ph_bd (fun _ => 0) b := fun _ => ⟨0, Nat.zero_le _, rfl⟩
theorem ph_bd1 {b : Nat} (hb : 1 ≤ b) : ∀ k, ph_bd (ph_on1 (fun _ => 0) k) b := by
  intro k
  induction k with
  | zero => exact ph_bd0 b
  | succ k ih => exact ph_bdu (a := 1) ih hb
theorem ph_x151 {post : SX → Prop} {fc fl : Int32} {w L : Nat → Int32} {wb wa : Nat → Int64} {en gr fk gc le go : Nat → Int32} (h : post (fc, fl, w, L, ph_on1 (fun _ => 0) 9, wb, wa, en, gr, fk, gc, le, go)) : ∀ d i, i + d = 9 → wX_init_151 post fc fl (d + 1) (nI i) w L (ph_on1 (fun _ => 0) i) wb wa en gr fk gc le go := by
  intro d
  induction d with
  | zero =>
    intro i hi
    obtain rfl : i = 9 := by omega
    exact br_t (by decide) h
  | succ d ih =>
    intro i hi
    exact br_f (nI_ge (b := 9) (by omega) (by decide)) (And.intro (vp_in_nI (by omega) (by decide)) (nm_r (e' := ph_on1 (fun _ => 0) (i + 1)) (by rw [nI_clamp (by omega)]; rfl) (nm_r (nI_1 i) (ih (i + 1) (by omega)))))
theorem ph_x130 {post : SX → Prop} {fc fl : Int32} {w : Nat → Int32} {wb wa : Nat → Int64} {en gr fk gc le go : Nat → Int32} (h : post (fc, fl, w, ph_on1 (fun _ => 0) 20, ph_on1 (fun _ => 0) 9, wb, wa, en, gr, fk, gc, le, go)) : ∀ d i, i + d = 20 → wX_init_130 post fc fl (d + 1) (nI i) w (ph_on1 (fun _ => 0) i) (fun _ => 0) wb wa en gr fk gc le go := by
  intro d
  induction d with
  | zero =>
    intro i hi
    obtain rfl : i = 20 := by omega
    exact br_t (by decide) (Exists.intro 10 (ph_x151 h 9 0 rfl))
  | succ d ih =>
    intro i hi
    exact br_f (nI_ge (b := 20) (by omega) (by decide)) (And.intro (vp_in_nI (by omega) (by decide)) (nm_r (e' := ph_on1 (fun _ => 0) (i + 1)) (by rw [nI_clamp (by omega)]; rfl) (nm_r (nI_1 i) (ih (i + 1) (by omega)))))
theorem ph_y82 {post : SY → Prop} {f1 f2 f3 f4 f5 : Int32} {L w st : Nat → Int32} (h : post (f1, f2, f3, f4, f5, L, ph_on1 (fun _ => 0) 9, w, st)) : ∀ d i, i + d = 9 → wY_init_82 post f1 f2 f3 f4 f5 (d + 1) (nI i) L (ph_on1 (fun _ => 0) i) w st := by
  intro d
  induction d with
  | zero =>
    intro i hi
    obtain rfl : i = 9 := by omega
    exact br_t (by decide) h
  | succ d ih =>
    intro i hi
    exact br_f (nI_ge (b := 9) (by omega) (by decide)) (And.intro (vp_in_nI (by omega) (by decide)) (nm_r (e' := ph_on1 (fun _ => 0) (i + 1)) (by rw [nI_clamp (by omega)]; rfl) (nm_r (nI_1 i) (ih (i + 1) (by omega)))))
theorem ph_y61 {post : SY → Prop} {f1 f2 f3 f4 f5 : Int32} {w st : Nat → Int32} (h : post (f1, f2, f3, f4, f5, ph_on1 (fun _ => 0) 20, ph_on1 (fun _ => 0) 9, w, st)) : ∀ d i, i + d = 20 → wY_init_61 post f1 f2 f3 f4 f5 (d + 1) (nI i) (ph_on1 (fun _ => 0) i) (fun _ => 0) w st := by
  intro d
  induction d with
  | zero =>
    intro i hi
    obtain rfl : i = 20 := by omega
    exact br_t (by decide) (Exists.intro 10 (ph_y82 h 9 0 rfl))
  | succ d ih =>
    intro i hi
    exact br_f (nI_ge (b := 20) (by omega) (by decide)) (And.intro (vp_in_nI (by omega) (by decide)) (nm_r (e' := ph_on1 (fun _ => 0) (i + 1)) (by rw [nI_clamp (by omega)]; rfl) (nm_r (nI_1 i) (ih (i + 1) (by omega)))))
theorem ph_R0 {c : Nat} (h1 : 1 ≤ c) (h2 : c ≤ 4) : i_Rel 1 (nI c, nI 0, (fun _ => 0), ph_on1 (fun _ => 0) 20, ph_on1 (fun _ => 0) 9, (fun _ => 0), (fun _ => 0), (fun _ => 0), (fun _ => 0), (fun _ => 0), (fun _ => 0), (fun _ => 0), (fun _ => 0)) (nI c, nI 0, 0, 0, 0, ph_on1 (fun _ => 0) 20, ph_on1 (fun _ => 0) 9, (fun _ => 0), (fun _ => 0)) := ph_mkR h1 h2 (by omega) (ph_bd1 (by omega) 20) (ph_bd1 (by omega) 9) (ph_bd0 3)
theorem i_vc0 (k0 : Int32) : wpX_init (fun u => wpY_init (fun v => i_Rel 1 u v) k0) k0 := by
  by_cases h1 : 1 ≤ k0
  · by_cases h4 : k0 ≤ 4
    · have hp : ¬ k0 < 0 := fun z => absurd (Int32.lt_of_lt_of_le z (by decide : (0 : Int32) ≤ 1)) (Int32.not_lt.mpr h1)
      obtain ⟨c, hc, rfl⟩ := nI_of hp
      have a1 : 1 ≤ c := (nI_leI (a := 1) (by decide) hc).mp h1
      have a4 : c ≤ 4 := (nI_leI (b := 4) hc (by decide)).mp h4
      exact br_t h1 (br_t h4 (Exists.intro 21 (ph_x130 (br_t h1 (br_t h4 (Exists.intro 21 (ph_y61 (ph_R0 a1 a4) 20 0 rfl)))) 20 0 rfl)))
    · exact br_t h1 (br_f h4 (Exists.intro 21 (ph_x130 (br_t h1 (br_f h4 (Exists.intro 21 (ph_y61 (ph_R0 (c := 4) (by omega) (by omega)) 20 0 rfl)))) 20 0 rfl)))
  · exact br_f h1 (Exists.intro 21 (ph_x130 (br_f h1 (Exists.intro 21 (ph_y61 (ph_R0 (c := 1) (by omega) (by omega)) 20 0 rfl))) 20 0 rfl))
theorem i_vc_columns {k : Nat} {u : SX} {v : SY} (I : i_Rel k u v) (hk : k + 4 ≤ 2049) : wpX_columns (fun r => wpY_columns (fun r' => r' = r ∧ i_Rel (k + 4) u v) v) u := by
  have I' := I
  obtain ⟨c, n, w, L, P, wb, wa, en, gr, fk, gc, le, go, x, y, z, st, _, _, _, _, _, _, rfl, rfl⟩ := I
  exact ⟨rfl, I'⟩
theorem i_vc_length {k : Nat} {u : SX} {v : SY} (I : i_Rel k u v) (hk : k + 4 ≤ 2049) : wpX_length (fun r => wpY_length (fun r' => r' = r ∧ i_Rel (k + 4) u v) v) u := by
  have I' := I
  obtain ⟨c, n, w, L, P, wb, wa, en, gr, fk, gc, le, go, x, y, z, st, _, _, _, _, _, _, rfl, rfl⟩ := I
  exact ⟨rfl, I'⟩
theorem i_vc_clear {k : Nat} {u : SX} {v : SY} (I : i_Rel k u v) (hk : k + 4 ≤ 2049) : wpX_clear (fun u' => wpY_clear (fun v' => i_Rel (k + 4) u' v') v) u := by
  obtain ⟨c, n, w, L, P, wb, wa, en, gr, fk, gc, le, go, x, y, z, st, h1, h2, h3, h4, h5, h6, rfl, rfl⟩ := I
  exact ph_mkR (k := k + 4) (n := 0) h1 h2 (by omega) h4 h5 h6
section
variable {c n : Nat} {w L P : Nat → Int32} {wb wa : Nat → Int64} {en gr fk gc le go : Nat → Int32}
theorem ph_xic {post : Int32 → Prop} {fl v : Int32} (h0 : v < 1 ∨ nI c < v → post 0) (h1 : ¬ v < 1 → ¬ nI c < v → post 1) : wpX_isColumn post (nI c, fl, w, L, P, wb, wa, en, gr, fk, gc, le, go) v :=
  br_c (fun q => h0 (Or.inl q)) (fun q => br_c (fun q' => h0 (Or.inr q')) (fun q' => h1 q q'))
theorem ph_xip {post : Int32 → Prop} {fc v : Int32} (h0 : v < 0 ∨ nI n ≤ v → post 0) (h1 : ¬ v < 0 → ¬ nI n ≤ v → post 1) : wpX_isPlace post (fc, nI n, w, L, P, wb, wa, en, gr, fk, gc, le, go) v :=
  br_c (fun q => h0 (Or.inl q)) (fun q => br_c (fun q' => h0 (Or.inr q')) (fun q' => h1 q q'))
theorem ph_xil {post : Int32 → Prop} {fc fl v : Int32} (h0 : v < 0 ∨ 4 ≤ v → post 0) (h1 : ¬ v < 0 → ¬ 4 ≤ v → post 1) : wpX_isLetter post (fc, fl, w, L, P, wb, wa, en, gr, fk, gc, le, go) v :=
  br_c (fun q => h0 (Or.inl q)) (fun q => br_c (fun q' => h0 (Or.inr q')) (fun q' => h1 q q'))
theorem ph_xiv {post : Int32 → Prop} {fc fl v : Int32} (h0 : v < 0 ∨ 9 < v → post 0) (h1 : ¬ v < 0 → ¬ 9 < v → post 1) : wpX_isValue post (fc, fl, w, L, P, wb, wa, en, gr, fk, gc, le, go) v :=
  br_c (fun q => h0 (Or.inl q)) (fun q => br_c (fun q' => h0 (Or.inr q')) (fun q' => h1 q q'))
theorem ph_xik {post : Int32 → Prop} {fc fl v : Int32} (h0 : v < 0 ∨ 3 ≤ v → post 0) (h1 : ¬ v < 0 → ¬ 3 ≤ v → post 1) : wpX_isKind post (fc, fl, w, L, P, wb, wa, en, gr, fk, gc, le, go) v :=
  br_c (fun q => h0 (Or.inl q)) (fun q => br_c (fun q' => h0 (Or.inr q')) (fun q' => h1 q q'))
theorem ph_yic {post : Int32 → Prop} {f2 f3 f4 f5 v : Int32} {L P w st : Nat → Int32} (h0 : v < 1 ∨ nI c < v → post 0) (h1 : ¬ v < 1 → ¬ nI c < v → post 1) : wpY_isColumn post (nI c, f2, f3, f4, f5, L, P, w, st) v :=
  br_c (fun q => h0 (Or.inl q)) (fun q => br_c (fun q' => h0 (Or.inr q')) (fun q' => h1 q q'))
theorem ph_yip {post : Int32 → Prop} {f1 f3 f4 f5 v : Int32} {L P w st : Nat → Int32} (h0 : v < 0 ∨ nI n ≤ v → post 0) (h1 : ¬ v < 0 → ¬ nI n ≤ v → post 1) : wpY_isPlace post (f1, nI n, f3, f4, f5, L, P, w, st) v :=
  br_c (fun q => h0 (Or.inl q)) (fun q => br_c (fun q' => h0 (Or.inr q')) (fun q' => h1 q q'))
end
theorem ph_lt34 {v : Int32} : ¬ v < 0 → (3 < v ↔ 4 ≤ v) := by
  intro h
  obtain ⟨a, ha, rfl⟩ := nI_of h
  have h1 : (3 : Int32) < nI a ↔ 3 < a := nI_ltI (a := 3) (by decide) ha
  have h2 : (4 : Int32) ≤ nI a ↔ 4 ≤ a := nI_leI (a := 4) (by decide) ha
  rw [h1, h2]; omega
theorem ph_lt23 {v : Int32} : ¬ v < 0 → (2 < v ↔ 3 ≤ v) := by
  intro h
  obtain ⟨a, ha, rfl⟩ := nI_of h
  have h1 : (2 : Int32) < nI a ↔ 2 < a := nI_ltI (a := 2) (by decide) ha
  have h2 : (3 : Int32) ≤ nI a ↔ 3 ≤ a := nI_leI (a := 3) (by decide) ha
  rw [h1, h2]; omega
theorem ph_inL {v : Int32} (h0 : ¬ v < 0) (h : ¬ 4 ≤ v) : ∃ a, a < 4 ∧ v = nI a := by
  obtain ⟨a, ha, rfl⟩ := nI_of h0
  have h2 : (4 : Int32) ≤ nI a ↔ 4 ≤ a := nI_leI (a := 4) (by decide) ha
  rw [h2] at h
  exact ⟨a, by omega, rfl⟩
theorem ph_inK {v : Int32} (h0 : ¬ v < 0) (h : ¬ 3 ≤ v) : ∃ a, a < 3 ∧ v = nI a := by
  obtain ⟨a, ha, rfl⟩ := nI_of h0
  have h2 : (3 : Int32) ≤ nI a ↔ 3 ≤ a := nI_leI (a := 3) (by decide) ha
  rw [h2] at h
  exact ⟨a, by omega, rfl⟩
theorem ph_inV {v : Int32} (h0 : ¬ v < 0) (h : ¬ 9 < v) : ∃ a, a ≤ 9 ∧ v = nI a := by
  obtain ⟨a, ha, rfl⟩ := nI_of h0
  have h2 : (9 : Int32) < nI a ↔ 9 < a := nI_ltI (a := 9) (by decide) ha
  rw [h2] at h
  exact ⟨a, by omega, rfl⟩
theorem ph_inP {v : Int32} {n : Nat} (hn : n ≤ 8) (h0 : ¬ v < 0) (h : ¬ nI n ≤ v) : ∃ a, a < n ∧ v = nI a := by
  obtain ⟨a, ha, rfl⟩ := nI_of h0
  rw [nI_leI (by omega) ha] at h
  exact ⟨a, by omega, rfl⟩
theorem ph_inC {v : Int32} {c : Nat} (hc : c ≤ 4) (h0 : ¬ v < 1) (h : ¬ nI c < v) : ∃ a, a < c ∧ v = nI (a + 1) := by
  have hp : ¬ v < 0 := fun z => h0 (Int32.lt_of_lt_of_le z (by decide))
  obtain ⟨a, ha, rfl⟩ := nI_of hp
  have h2 : nI a < (1 : Int32) ↔ a < 1 := nI_ltI (b := 1) ha (by decide)
  rw [h2] at h0
  rw [nI_ltI (by omega) ha] at h
  exact ⟨a - 1, by omega, by rw [show a - 1 + 1 = a by omega]⟩
theorem i_vc_like {k : Nat} {u : SX} {v : SY} (I : i_Rel k u v) (hk : k + 4 ≤ 2049) (v1 : Int32) (v2 : Int32) (v3 : Int32) : wpX_like (fun r u' => wpY_like (fun r' v' => r' = r ∧ i_Rel (k + 4) u' v') v v1 v2 v3) u v1 v2 v3 := by
  have I' := I
  obtain ⟨c, n, w, L, P, wb, wa, en, gr, fk, gc, le, go, x, y, z, st, h1, h2, h3, h4, h5, h6, rfl, rfl⟩ := I
  have bad : ¬ (¬ v1 < 1 ∧ ¬ nI c < v1 ∧ ¬ v2 < 0 ∧ ¬ 4 ≤ v2 ∧ ¬ v3 < 0 ∧ ¬ 9 < v3) → wpY_like (fun r' v' => r' = -1 ∧ i_Rel (k + 4) (nI c, nI n, w, L, P, wb, wa, en, gr, fk, gc, le, go) v') (nI c, nI n, x, y, z, L, P, w, st) v1 v2 v3 := by
    intro hb
    exact br_c (fun _ => ⟨rfl, I'⟩) (fun a1 => br_c (fun _ => ⟨rfl, I'⟩) (fun a2 => br_c (fun _ => ⟨rfl, I'⟩) (fun a3 => br_c (fun _ => ⟨rfl, I'⟩) (fun a4 => br_c (fun _ => ⟨rfl, I'⟩) (fun a5 => br_c (fun a6 => absurd ⟨a1, a2, a3, fun q => a4 ((ph_lt34 a3).mpr q), a5, Int32.not_lt.mpr a6⟩ hb) (fun _ => ⟨rfl, I'⟩))))))
  unfold wpX_like
  dsimp only
  refine ph_xic (fun q => br_t rfl (bad (fun z => q.elim z.1 z.2.1))) (fun a1 a2 => br_f (by decide) ?_)
  refine ph_xil (fun q => br_t rfl (bad (fun z => q.elim z.2.2.1 z.2.2.2.1))) (fun a3 a4 => br_f (by decide) ?_)
  refine ph_xiv (fun q => br_t rfl (bad (fun z => q.elim z.2.2.2.2.1 z.2.2.2.2.2))) (fun a5 a6 => br_f (by decide) ?_)
  have b4 : ¬ 3 < v2 := fun q => a4 ((ph_lt34 a3).mp q)
  have b6 : v3 ≤ 9 := Int32.not_lt.mp a6
  obtain ⟨j, hj, rfl⟩ := ph_inC h2 a1 a2
  obtain ⟨a, ha, rfl⟩ := ph_inL a3 a4
  obtain ⟨e, he, rfl⟩ := ph_inV a5 a6
  have i1 : nI (j + 1) * 4 + nI a = nI ((j + 1) * 4 + a) := ph_i4' _ _
  have i2 : 4 * nI (j + 1) + nI a = nI ((j + 1) * 4 + a) := ph_i4 _ _
  have hv : vp_in (nI ((j + 1) * 4 + a)) 20 := vp_in_nI (by omega) (by decide)
  rw [i1]
  refine And.intro hv (nm_r (e' := L ((j + 1) * 4 + a)) (by rw [nI_clamp (by omega)]) (And.intro hv (nm_r (e' := upd L ((j + 1) * 4 + a) (nI e)) (by rw [nI_clamp (by omega)]) ?_)))
  refine br_f a1 (br_f a2 (br_f a3 (br_f b4 (br_f a5 (br_t b6 ?_)))))
  rw [i2]
  exact And.intro hv (nm_r (e' := L ((j + 1) * 4 + a)) (by rw [nI_clamp (by omega)]) (And.intro hv (nm_r (e' := upd L ((j + 1) * 4 + a) (nI e)) (by rw [nI_clamp (by omega)]) ⟨rfl, ph_mkR h1 h2 h3 (ph_bdu h4 he) h5 h6⟩)))
theorem i_vc_pass {k : Nat} {u : SX} {v : SY} (I : i_Rel k u v) (hk : k + 4 ≤ 2049) (v1 : Int32) (v2 : Int32) (v3 : Int32) : wpX_pass (fun r u' => wpY_pass (fun r' v' => r' = r ∧ i_Rel (k + 4) u' v') v v1 v2 v3) u v1 v2 v3 := by
  have I' := I
  obtain ⟨c, n, w, L, P, wb, wa, en, gr, fk, gc, le, go, x, y, z, st, h1, h2, h3, h4, h5, h6, rfl, rfl⟩ := I
  have bad : ¬ (¬ v1 < 0 ∧ ¬ 3 ≤ v1 ∧ ¬ v2 < 0 ∧ ¬ 3 ≤ v2 ∧ ¬ v3 < 0 ∧ ¬ 9 < v3) → wpY_pass (fun r' v' => r' = -1 ∧ i_Rel (k + 4) (nI c, nI n, w, L, P, wb, wa, en, gr, fk, gc, le, go) v') (nI c, nI n, x, y, z, L, P, w, st) v1 v2 v3 := by
    intro hb
    exact br_c (fun _ => ⟨rfl, I'⟩) (fun a1 => br_c (fun _ => ⟨rfl, I'⟩) (fun a2 => br_c (fun _ => ⟨rfl, I'⟩) (fun a3 => br_c (fun _ => ⟨rfl, I'⟩) (fun a4 => br_c (fun _ => ⟨rfl, I'⟩) (fun a5 => br_c (fun a6 => absurd ⟨a1, fun q => a2 ((ph_lt23 a1).mpr q), a3, fun q => a4 ((ph_lt23 a3).mpr q), a5, Int32.not_lt.mpr a6⟩ hb) (fun _ => ⟨rfl, I'⟩))))))
  unfold wpX_pass
  dsimp only
  refine ph_xik (fun q => br_t rfl (bad (fun z => q.elim z.1 z.2.1))) (fun a1 a2 => br_f (by decide) ?_)
  refine ph_xik (fun q => br_t rfl (bad (fun z => q.elim z.2.2.1 z.2.2.2.1))) (fun a3 a4 => br_f (by decide) ?_)
  refine ph_xiv (fun q => br_t rfl (bad (fun z => q.elim z.2.2.2.2.1 z.2.2.2.2.2))) (fun a5 a6 => br_f (by decide) ?_)
  have b2 : ¬ 2 < v1 := fun q => a2 ((ph_lt23 a1).mp q)
  have b4 : ¬ 2 < v2 := fun q => a4 ((ph_lt23 a3).mp q)
  have b6 : v3 ≤ 9 := Int32.not_lt.mp a6
  obtain ⟨j, hj, rfl⟩ := ph_inK a1 a2
  obtain ⟨a, ha, rfl⟩ := ph_inK a3 a4
  obtain ⟨e, he, rfl⟩ := ph_inV a5 a6
  have i1 : nI j * 3 + nI a = nI (j * 3 + a) := ph_i3' _ _
  have i2 : 3 * nI j + nI a = nI (j * 3 + a) := ph_i3 _ _
  have hv : vp_in (nI (j * 3 + a)) 9 := vp_in_nI (by omega) (by decide)
  rw [i1]
  refine And.intro hv (nm_r (e' := P (j * 3 + a)) (by rw [nI_clamp (by omega)]) (And.intro hv (nm_r (e' := upd P (j * 3 + a) (nI e)) (by rw [nI_clamp (by omega)]) ?_)))
  refine br_f a1 (br_f b2 (br_f a3 (br_f b4 (br_f a5 (br_t b6 ?_)))))
  rw [i2]
  exact And.intro hv (nm_r (e' := P (j * 3 + a)) (by rw [nI_clamp (by omega)]) (And.intro hv (nm_r (e' := upd P (j * 3 + a) (nI e)) (by rw [nI_clamp (by omega)]) ⟨rfl, ph_mkR h1 h2 h3 h4 (ph_bdu h5 he) h6⟩)))
theorem i_vc_letter {k : Nat} {u : SX} {v : SY} (I : i_Rel k u v) (hk : k + 4 ≤ 2049) (v1 : Int32) : wpX_letter (fun r u' => wpY_letter (fun r' v' => r' = r ∧ i_Rel (k + 4) u' v') v v1) u v1 := by
  have I' := I
  obtain ⟨c, n, w, L, P, wb, wa, en, gr, fk, gc, le, go, x, y, z, st, h1, h2, h3, h4, h5, h6, rfl, rfl⟩ := I
  unfold wpX_letter
  dsimp only
  refine ph_xil (fun q => br_t rfl ?_) (fun a1 a2 => br_f (by decide) ?_)
  · exact br_c (fun _ => ⟨rfl, I'⟩) (fun a1 => br_c (fun a2 => absurd (q.resolve_left a1) (fun q' => Int32.not_lt.mpr a2 ((ph_lt34 a1).mpr q'))) (fun _ => ⟨rfl, I'⟩))
  · have b2 : v1 ≤ 3 := Int32.not_lt.mp (fun q => a2 ((ph_lt34 a1).mp q))
    obtain ⟨a, ha, rfl⟩ := ph_inL a1 a2
    by_cases h7 : n = 7
    · subst h7
      exact br_f (by decide) (br_f a1 (br_t b2 (br_t rfl ⟨rfl, I'⟩)))
    · have hv : vp_in (nI n) 8 := vp_in_nI (by omega) (by decide)
      have hne : ¬ nI n = 7 := fun q => h7 ((nI_eq (b := 7) (by omega) (by decide)).mp q)
      exact br_t (nI_lt (b := 7) (by omega) (by decide)) (And.intro hv (nm_r (e' := upd w n (nI a)) (by rw [nI_clamp (by omega)]) (nm_r (nI_1 n) (br_f a1 (br_t b2 (br_f hne (And.intro hv (nm_r (e' := upd w n (nI a)) (by rw [nI_clamp (by omega)]) (nm_r (nI_1 n) ⟨rfl, ph_mkR h1 h2 (by omega) h4 h5 (ph_bdu h6 (by omega))⟩)))))))))
end
section
/-! the questions -/
theorem i_vc_sum {k : Nat} {u : SX} {v : SY} (I : i_Rel k u v) (hk : k + 4 ≤ 2049) : wpX_sum (fun r u' => wpY_sum (fun r' v' => r' = r ∧ i_Rel (k + 4) u' v') v) u := by
  obtain ⟨c, n, w, L, P, wb, wa, en, gr, fk, gc, le, go, x, y, z, st, h1, h2, h3, h4, h5, h6, rfl, rfl⟩ := I
  exact ph_xsum h2 (by omega) h4 h5 h6 (fun wa' => ph_ysum h2 (by omega) h4 h5 h6 (fun st' => ⟨rfl, ph_mkR h1 h2 h3 h4 h5 h6⟩))
theorem i_vc_ways {k : Nat} {u : SX} {v : SY} (I : i_Rel k u v) (hk : k + 4 ≤ 2049) : wpX_ways (fun r u' => wpY_ways (fun r' v' => r' = r ∧ i_Rel (k + 4) u' v') v) u := by
  obtain ⟨c, n, w, L, P, wb, wa, en, gr, fk, gc, le, go, x, y, z, st, h1, h2, h3, h4, h5, h6, rfl, rfl⟩ := I
  exact ph_xways h2 (by omega) (fun en' => ph_yways h2 (by omega) (fun st' => ⟨rfl, ph_mkR h1 h2 h3 h4 h5 h6⟩))
theorem i_vc_best {k : Nat} {u : SX} {v : SY} (I : i_Rel k u v) (hk : k + 4 ≤ 2049) : wpX_best (fun r u' => wpY_best (fun r' v' => r' = r ∧ i_Rel (k + 4) u' v') v) u := by
  obtain ⟨c, n, w, L, P, wb, wa, en, gr, fk, gc, le, go, x, y, z, st, h1, h2, h3, h4, h5, h6, rfl, rfl⟩ := I
  refine ph_xbest h2 (by omega) h4 h5 h6 (fun gr' fk' gc' => ?_)
  unfold wpY_best
  dsimp only
  exact ph_ygr h2 (by omega) h4 h5 h6 (fun st' => ⟨rfl, ph_mkR h1 h2 h3 h4 h5 h6⟩)
theorem i_vc_bestStep {k : Nat} {u : SX} {v : SY} (I : i_Rel k u v) (hk : k + 4 ≤ 2049) (v1 : Int32) : wpX_bestStep (fun r u' => wpY_bestStep (fun r' v' => r' = r ∧ i_Rel (k + 4) u' v') v v1) u v1 := by
  obtain ⟨c, n, w, L, P, wb, wa, en, gr, fk, gc, le, go, x, y, z, st, h1, h2, h3, h4, h5, h6, rfl, rfl⟩ := I
  exact ph_bstep h2 h3 h4 h5 h6 (fun _ _ _ _ _ _ _ => ph_mkR h1 h2 h3 h4 h5 h6)
theorem i_vc_bestOf {k : Nat} {u : SX} {v : SY} (I : i_Rel k u v) (hk : k + 4 ≤ 2049) (v1 : Int32) : wpX_bestOf (fun r u' => wpY_bestOf (fun r' v' => r' = r ∧ i_Rel (k + 4) u' v') v v1) u v1 := by
  obtain ⟨c, n, w, L, P, wb, wa, en, gr, fk, gc, le, go, x, y, z, st, h1, h2, h3, h4, h5, h6, rfl, rfl⟩ := I
  exact ph_bof h2 h3 h4 h5 h6 (fun _ _ _ _ _ => ph_mkR h1 h2 h3 h4 h5 h6)
theorem i_vc_ties {k : Nat} {u : SX} {v : SY} (I : i_Rel k u v) (hk : k + 4 ≤ 2049) : wpX_ties (fun r u' => wpY_ties (fun r' v' => r' = r ∧ i_Rel (k + 4) u' v') v) u := by
  obtain ⟨c, n, w, L, P, wb, wa, en, gr, fk, gc, le, go, x, y, z, st, h1, h2, h3, h4, h5, h6, rfl, rfl⟩ := I
  exact ph_xties h2 (by omega) h4 h5 h6 (fun gr' fk' gc' => ph_yti h2 (by omega) h4 h5 h6 (fun st' => ⟨rfl, ph_mkR h1 h2 h3 h4 h5 h6⟩))
theorem i_vc_worst {k : Nat} {u : SX} {v : SY} (I : i_Rel k u v) (hk : k + 4 ≤ 2049) : wpX_worst (fun r u' => wpY_worst (fun r' v' => r' = r ∧ i_Rel (k + 4) u' v') v) u := by
  obtain ⟨c, n, w, L, P, wb, wa, en, gr, fk, gc, le, go, x, y, z, st, h1, h2, h3, h4, h5, h6, rfl, rfl⟩ := I
  exact ph_xworst h2 (by omega) h4 h5 h6 (fun le' => ph_ywo h2 (by omega) h4 h5 h6 (fun st' => ⟨rfl, ph_mkR h1 h2 h3 h4 h5 h6⟩))
theorem i_vc_next {k : Nat} {u : SX} {v : SY} (I : i_Rel k u v) (hk : k + 4 ≤ 2049) : wpX_next (fun r u' => wpY_next (fun r' v' => r' = r ∧ i_Rel (k + 4) u' v') v) u := by
  obtain ⟨c, n, w, L, P, wb, wa, en, gr, fk, gc, le, go, x, y, z, st, h1, h2, h3, h4, h5, h6, rfl, rfl⟩ := I
  exact ph_xnext h2 h3 h4 h5 h6 (fun wa' => ph_ynext h2 h3 h4 h5 h6 (fun x y z st' => ⟨rfl, ph_mkR h1 h2 h3 h4 h5 (ph_bdw h6 n 4 (by omega))⟩))
theorem i_vc_matched {k : Nat} {u : SX} {v : SY} (I : i_Rel k u v) (hk : k + 4 ≤ 2049) (v1 : Int32) (v2 : Int32) : wpX_matched (fun r u' => wpY_matched (fun r' v' => r' = r ∧ i_Rel (k + 4) u' v') v v1 v2) u v1 v2 := by
  have I' := I
  obtain ⟨c, n, w, L, P, wb, wa, en, gr, fk, gc, le, go, x, y, z, st, h1, h2, h3, h4, h5, h6, rfl, rfl⟩ := I
  have bad : ¬ (¬ v1 < 0 ∧ ¬ nI n ≤ v1 ∧ ¬ v2 < 1 ∧ ¬ nI c < v2) → wpY_matched (fun r' v' => r' = 0 ∧ i_Rel (k + 4) (nI c, nI n, w, L, P, wb, wa, en, gr, fk, gc, le, go) v') (nI c, nI n, x, y, z, L, P, w, st) v1 v2 := by
    intro hb
    unfold wpY_matched
    dsimp only
    refine ph_yip (fun _ => br_t rfl ⟨rfl, I'⟩) (fun a1 a2 => br_f (by decide) ?_)
    exact ph_yic (fun _ => br_t rfl ⟨rfl, I'⟩) (fun a3 a4 => absurd ⟨a1, a2, a3, a4⟩ hb)
  unfold wpX_matched
  dsimp only
  refine ph_xip (fun q => br_t rfl (bad (fun z => q.elim z.1 z.2.1))) (fun a1 a2 => br_f (by decide) ?_)
  refine ph_xic (fun q => br_t rfl (bad (fun z => q.elim z.2.2.1 z.2.2.2))) (fun a3 a4 => br_f (by decide) ?_)
  obtain ⟨i0, hi, rfl⟩ := ph_inP (by omega) a1 a2
  obtain ⟨j0, hj, rfl⟩ := ph_inC h2 a3 a4
  refine ph_xfb h2 (by omega) h4 h5 h6 (fun wb' hB => ?_)
  refine ph_xfa h2 (by omega) h4 h5 h6 (fun wa' hA => ?_)
  rw [nI_pred]
  refine ph_xwt (k := 0) h2 (by omega) h4 h5 h6 (by omega) (by rw [ph_le0]; omega) (by rw [ph_co0]; omega) hB hA ?_
  unfold wpY_matched
  dsimp only
  refine ph_yip (fun q => absurd q (fun q => q.elim a1 a2)) (fun _ _ => br_f (by decide) ?_)
  refine ph_yic (fun q => absurd q (fun q => q.elim a3 a4)) (fun _ _ => br_f (by decide) ?_)
  refine ph_ysw (ka := 0) h2 (by omega) h4 h5 h6 (by omega) (fun st' => ⟨?_, ph_mkR h1 h2 h3 h4 h5 h6⟩)
  refine congrArg lN ((ph_SwQ (mk' := ph_pm i0 j0) (fun k i j b1 b2 b3 => ?_)).trans (ph_Qm hi hj))
  refine decide_eq_decide.mpr ⟨fun q => ?_, fun q => ?_⟩
  · obtain ⟨rfl, q2, q3⟩ := q
    have e2 : nI (j + 1) = nI (j0 + 1) := q2.resolve_left (nI_pos (by omega))
    have e3 := q3.resolve_left a1
    have e4 := (nI_eq (by omega) (by omega)).mp e2
    have e5 := (nI_eq (by omega) (by omega)).mp e3
    exact ⟨rfl, e5, by omega⟩
  · obtain ⟨rfl, rfl, rfl⟩ := q
    exact ⟨rfl, Or.inr rfl, Or.inr rfl⟩
theorem i_vc_deleted {k : Nat} {u : SX} {v : SY} (I : i_Rel k u v) (hk : k + 4 ≤ 2049) (v1 : Int32) : wpX_deleted (fun r u' => wpY_deleted (fun r' v' => r' = r ∧ i_Rel (k + 4) u' v') v v1) u v1 := by
  have I' := I
  obtain ⟨c, n, w, L, P, wb, wa, en, gr, fk, gc, le, go, x, y, z, st, h1, h2, h3, h4, h5, h6, rfl, rfl⟩ := I
  unfold wpX_deleted
  dsimp only
  refine ph_xic (fun q => br_t rfl ?_) (fun a3 a4 => br_f (by decide) ?_)
  · unfold wpY_deleted
    dsimp only
    exact ph_yic (fun _ => br_t rfl ⟨rfl, I'⟩) (fun a3 a4 => absurd q (fun q => q.elim a3 a4))
  obtain ⟨j0, hj, rfl⟩ := ph_inC h2 a3 a4
  refine ph_xfb h2 (by omega) h4 h5 h6 (fun wb' hB => ?_)
  refine ph_xfa h2 (by omega) h4 h5 h6 (fun wa' hA => ?_)
  refine Exists.intro _ (ph_xd27 h2 (by omega) h4 h5 h6 hj hB hA ?_ (n + 1) 0 (by omega))
  unfold wpY_deleted
  dsimp only
  refine ph_yic (fun q => absurd q (fun q => q.elim a3 a4)) (fun _ _ => br_f (by decide) ?_)
  refine ph_ysw (ka := 2) h2 (by omega) h4 h5 h6 (by omega) (fun st' => ⟨?_, ph_mkR h1 h2 h3 h4 h5 h6⟩)
  refine congrArg lN ((ph_SwQ (mk' := ph_pd j0) (fun k i j b1 b2 b3 => ?_)).trans (ph_Qd hj))
  refine decide_eq_decide.mpr ⟨fun q => ?_, fun q => ?_⟩
  · obtain ⟨rfl, q2, q3⟩ := q
    have e2 : nI (j + 1) = nI (j0 + 1) := q2.resolve_left (nI_pos (by omega))
    have e4 := (nI_eq (by omega) (by omega)).mp e2
    exact ⟨rfl, by omega⟩
  · obtain ⟨rfl, rfl⟩ := q
    exact ⟨rfl, Or.inr rfl, Or.inl (by decide)⟩
theorem i_vc_inserted {k : Nat} {u : SX} {v : SY} (I : i_Rel k u v) (hk : k + 4 ≤ 2049) (v1 : Int32) : wpX_inserted (fun r u' => wpY_inserted (fun r' v' => r' = r ∧ i_Rel (k + 4) u' v') v v1) u v1 := by
  have I' := I
  obtain ⟨c, n, w, L, P, wb, wa, en, gr, fk, gc, le, go, x, y, z, st, h1, h2, h3, h4, h5, h6, rfl, rfl⟩ := I
  unfold wpX_inserted
  dsimp only
  refine ph_xip (fun q => br_t rfl ?_) (fun a1 a2 => br_f (by decide) ?_)
  · unfold wpY_inserted
    dsimp only
    exact ph_yip (fun _ => br_t rfl ⟨rfl, I'⟩) (fun a3 a4 => absurd q (fun q => q.elim a3 a4))
  obtain ⟨i0, hi, rfl⟩ := ph_inP (by omega) a1 a2
  refine ph_xfb h2 (by omega) h4 h5 h6 (fun wb' hB => ?_)
  refine ph_xfa h2 (by omega) h4 h5 h6 (fun wa' hA => ?_)
  refine Exists.intro _ (ph_xi27 h2 (by omega) h4 h5 h6 hi hB hA ?_ (c + 1) 0 (by omega))
  unfold wpY_inserted
  dsimp only
  refine ph_yip (fun q => absurd q (fun q => q.elim a1 a2)) (fun _ _ => br_f (by decide) ?_)
  refine ph_ysw (ka := 1) h2 (by omega) h4 h5 h6 (by omega) (fun st' => ⟨?_, ph_mkR h1 h2 h3 h4 h5 h6⟩)
  refine congrArg lN ((ph_SwQ (mk' := ph_pi i0) (fun k i j b1 b2 b3 => ?_)).trans (ph_Qi hi))
  refine decide_eq_decide.mpr ⟨fun q => ?_, fun q => ?_⟩
  · obtain ⟨rfl, q2, q3⟩ := q
    have e3 := q3.resolve_left a1
    have e5 := (nI_eq (by omega) (by omega)).mp e3
    exact ⟨rfl, e5⟩
  · obtain ⟨rfl, rfl⟩ := q
    exact ⟨rfl, Or.inl (by decide), Or.inr rfl⟩
end
