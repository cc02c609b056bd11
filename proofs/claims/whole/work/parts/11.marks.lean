/-! ways that have a step: forward and backward sums -/
def ph_oP (x y : Nat × Nat) : Nat × Nat := (x.1 + y.1, x.2 + y.2)
def ph_aP (f : Nat → Nat → Nat → Nat → Nat) (mk : Nat → Nat → Nat → Bool) (p k i j : Nat) (x : Nat × Nat) : Nat × Nat := (f p k i j * x.1, f p k i j * (if mk k i j then x.1 else x.2))
theorem ph_lawP (f : Nat → Nat → Nat → Nat → Nat) (mk : Nat → Nat → Nat → Bool) : ph_law ph_oP (0, 0) (ph_aP f mk) := by
  refine ⟨fun x y z => ?_, fun x => ?_, fun x => ?_, fun p k i j x y => ?_, fun p k i j => ?_⟩
  · simp only [ph_oP, Nat.add_assoc]
  · simp only [ph_oP, Nat.zero_add]
  · simp only [ph_oP, Nat.add_zero]
  · simp only [ph_oP, ph_aP, Nat.mul_add]
    by_cases z : mk k i j = true
    · simp only [if_pos z, Nat.mul_add]
    · simp only [if_neg z, Nat.mul_add]
  · simp only [ph_aP, Nat.mul_zero, ite_self]
theorem ph_gvP (f : Nat → Nat → Nat → Nat → Nat) (mk : Nat → Nat → Nat → Bool) : ∀ (t : List Nat) (i j p : Nat), ph_gv (1, 0) (ph_aP f mk) i j p t = (ph_wt f i j p t, if ph_has mk i j t then ph_wt f i j p t else 0) := by
  intro t
  induction t with
  | nil => intro i j p; rfl
  | cons k t ih =>
    intro i j p
    show ph_aP f mk p k i j (ph_gv (1, 0) (ph_aP f mk) (i + ph_le k) (j + ph_co k) k t) = _
    rw [ih, ph_wt, ph_has]
    simp only [ph_aP]
    by_cases z : mk k i j = true
    · rw [if_pos z, z, Bool.true_or, if_pos rfl]
    · have z' : mk k i j = false := Bool.eq_false_iff.mpr z
      rw [if_neg z, z', Bool.false_or]
      by_cases y : ph_has mk (i + ph_le k) (j + ph_co k) t = true
      · rw [if_pos y, if_pos y]
      · rw [if_neg y, if_neg y, Nat.mul_zero]
def ph_Q (f : Nat → Nat → Nat → Nat → Nat) (mk : Nat → Nat → Nat → Bool) (n c i j p : Nat) : Nat × Nat := ph_T ph_oP (0, 0) (1, 0) (ph_aP f mk) n c i j p
theorem ph_lf1 (g : List Nat → Nat × Nat) : ∀ l, (ph_lf ph_oP (0, 0) g l).1 = ph_lf Nat.add 0 (fun t => (g t).1) l := by
  intro l
  induction l with
  | nil => rfl
  | cons t l ih => show (g t).1 + (ph_lf ph_oP (0, 0) g l).1 = (g t).1 + _; rw [ih]
theorem ph_lf2 (g : List Nat → Nat × Nat) : ∀ l, (ph_lf ph_oP (0, 0) g l).2 = ph_lf Nat.add 0 (fun t => (g t).2) l := by
  intro l
  induction l with
  | nil => rfl
  | cons t l ih => show (g t).2 + (ph_lf ph_oP (0, 0) g l).2 = (g t).2 + _; rw [ih]
theorem ph_Q1 (f : Nat → Nat → Nat → Nat → Nat) (mk : Nat → Nat → Nat → Bool) (n c i j p : Nat) : (ph_Q f mk n c i j p).1 = ph_B f n c i j p := by
  rw [ph_Q, ph_T, ph_lf1, ph_B, ph_T]
  exact ph_lfc (fun t => by rw [ph_gvP, ph_wtg]) _
theorem ph_Q2 (f : Nat → Nat → Nat → Nat → Nat) (mk : Nat → Nat → Nat → Bool) (n c i j p : Nat) : (ph_Q f mk n c i j p).2 = ph_lf Nat.add 0 (fun t => if ph_has mk i j t then ph_wt f i j p t else 0) (ph_ways (n - i) (c - j)) := by
  rw [ph_Q, ph_T, ph_lf2]
  exact ph_lfc (fun t => by rw [ph_gvP]) _
theorem ph_has0 {mk : Nat → Nat → Nat → Bool} : ∀ (t : List Nat) (i j : Nat), (∀ k i' j', i ≤ i' → j ≤ j' → mk k i' j' = false) → ph_has mk i j t = false := by
  intro t
  induction t with
  | nil => intro i j _; rfl
  | cons k t ih =>
    intro i j h
    rw [ph_has, h k i j (Nat.le_refl _) (Nat.le_refl _), Bool.false_or]
    exact ih _ _ (fun k' i' j' h1 h2 => h k' i' j' (by omega) (by omega))
theorem ph_Q0 (f : Nat → Nat → Nat → Nat → Nat) {mk : Nat → Nat → Nat → Bool} (n c : Nat) {i j : Nat} (p : Nat) (h : ∀ k i' j', i ≤ i' → j ≤ j' → mk k i' j' = false) : (ph_Q f mk n c i j p).2 = 0 := by
  rw [ph_Q2]
  refine ph_lfp (fun x => x = 0) rfl (fun x y hx hy => by rw [hx, hy]) _ (fun t _ => ?_)
  rw [ph_has0 t i j h]
  rfl
/-! sums -/
def ph_sm (f : Nat → Nat) : Nat → Nat
  | 0 => 0
  | k + 1 => ph_sm f k + f k
theorem ph_smc {f g : Nat → Nat} : ∀ N, (∀ x, x < N → f x = g x) → ph_sm f N = ph_sm g N := by
  intro N
  induction N with
  | zero => intro _; rfl
  | succ N ih => intro h; show ph_sm f N + f N = ph_sm g N + g N; rw [ih (fun x hx => h x (by omega)), h N (by omega)]
theorem ph_smz {f : Nat → Nat} : ∀ N, (∀ x, x < N → f x = 0) → ph_sm f N = 0 := by
  intro N
  induction N with
  | zero => intro _; rfl
  | succ N ih => intro h; show ph_sm f N + f N = 0; rw [ih (fun x hx => h x (by omega)), h N (by omega)]
theorem ph_sma (f g : Nat → Nat) : ∀ N, ph_sm (fun x => f x + g x) N = ph_sm f N + ph_sm g N := by
  intro N
  induction N with
  | zero => rfl
  | succ N ih => show ph_sm (fun x => f x + g x) N + (f N + g N) = (ph_sm f N + f N) + (ph_sm g N + g N); rw [ih]; omega
theorem ph_smf (f : Nat → Nat) : ∀ N, ph_sm f (N + 1) = f 0 + ph_sm (fun x => f (x + 1)) N := by
  intro N
  induction N with
  | zero => show 0 + f 0 = f 0 + 0; omega
  | succ N ih => show ph_sm f (N + 1) + f (N + 1) = f 0 + (ph_sm (fun x => f (x + 1)) N + f (N + 1)); rw [ih]; omega
theorem ph_sm1 {f : Nat → Nat} {x0 : Nat} : ∀ N, x0 < N → (∀ x, x < N → x ≠ x0 → f x = 0) → ph_sm f N = f x0 := by
  intro N
  induction N with
  | zero => intro h; exact absurd h (Nat.not_lt_zero _)
  | succ N ih =>
    intro h hz
    show ph_sm f N + f N = f x0
    by_cases z : x0 = N
    · subst z
      rw [ph_smz _ (fun x hx => hz x (by omega) (by omega)), Nat.zero_add]
    · rw [ih (by omega) (fun x hx => hz x (by omega)), hz N (by omega) (fun q => z q.symm), Nat.add_zero]
/-! forward -/
def ph_tp (f : Nat → Nat → Nat → Nat → Nat) (r : Nat → Nat) (k i j : Nat) : Nat := r 0 * f 0 k i j + r 1 * f 1 k i j + r 2 * f 2 k i j
def ph_F0 (f : Nat → Nat → Nat → Nat → Nat) : Nat → Nat → Nat
  | 0 => fun k => if k = 0 then 1 else 0
  | j + 1 => fun k => if k = 2 then ph_tp f (ph_F0 f j) 2 0 j else 0
def ph_Fr (f : Nat → Nat → Nat → Nat → Nat) (pr : Nat → Nat → Nat) (i : Nat) : Nat → Nat → Nat
  | 0 => fun k => if k = 1 then ph_tp f (pr 0) 1 i 0 else 0
  | j + 1 => fun k => if k = 0 then ph_tp f (pr j) 0 i j else if k = 1 then ph_tp f (pr (j + 1)) 1 i (j + 1) else if k = 2 then ph_tp f (ph_Fr f pr i j) 2 (i + 1) j else 0
def ph_F (f : Nat → Nat → Nat → Nat → Nat) : Nat → Nat → Nat → Nat
  | 0 => ph_F0 f
  | i + 1 => ph_Fr f (ph_F f i) i
theorem ph_F00 (f : Nat → Nat → Nat → Nat → Nat) (k : Nat) : ph_F f 0 0 k = if k = 0 then 1 else 0 := rfl
theorem ph_Fm (f : Nat → Nat → Nat → Nat → Nat) (i j : Nat) : ph_F f (i + 1) (j + 1) 0 = ph_tp f (ph_F f i j) 0 i j := rfl
theorem ph_Fi (f : Nat → Nat → Nat → Nat → Nat) (i j : Nat) : ph_F f (i + 1) j 1 = ph_tp f (ph_F f i j) 1 i j := by cases j <;> rfl
theorem ph_Fd (f : Nat → Nat → Nat → Nat → Nat) (i j : Nat) : ph_F f i (j + 1) 2 = ph_tp f (ph_F f i j) 2 i j := by cases i <;> rfl
theorem ph_Fm0 (f : Nat → Nat → Nat → Nat → Nat) (j : Nat) : ph_F f 0 (j + 1) 0 = 0 := rfl
theorem ph_Fm1 (f : Nat → Nat → Nat → Nat → Nat) (i : Nat) : ph_F f (i + 1) 0 0 = 0 := rfl
theorem ph_Fi0 (f : Nat → Nat → Nat → Nat → Nat) (j : Nat) : ph_F f 0 j 1 = 0 := by cases j <;> rfl
theorem ph_Fd0 (f : Nat → Nat → Nat → Nat → Nat) (i : Nat) : ph_F f i 0 2 = 0 := by cases i <;> rfl
theorem ph_Feq (f : Nat → Nat → Nat → Nat → Nat) {i j k : Nat} (hk : k < 3) (h : ¬ (i = 0 ∧ j = 0)) (h1 : ph_le k ≤ i) (h2 : ph_co k ≤ j) : ph_F f i j k = ph_tp f (ph_F f (i - ph_le k) (j - ph_co k)) k (i - ph_le k) (j - ph_co k) := by
  rcases ph_k3 hk with rfl | rfl | rfl
  · rw [ph_le0] at h1; rw [ph_co0] at h2
    obtain ⟨i, rfl⟩ : ∃ x, i = x + 1 := ⟨i - 1, by omega⟩
    obtain ⟨j, rfl⟩ : ∃ x, j = x + 1 := ⟨j - 1, by omega⟩
    exact ph_Fm f i j
  · rw [ph_le1] at h1
    obtain ⟨i, rfl⟩ : ∃ x, i = x + 1 := ⟨i - 1, by omega⟩
    exact ph_Fi f i j
  · rw [ph_co2] at h2
    obtain ⟨j, rfl⟩ : ∃ x, j = x + 1 := ⟨j - 1, by omega⟩
    exact ph_Fd f i j
theorem ph_Feq0 (f : Nat → Nat → Nat → Nat → Nat) {i j k : Nat} (hk : k < 3) (h : ¬ (i = 0 ∧ j = 0)) (h1 : i < ph_le k ∨ j < ph_co k) : ph_F f i j k = 0 := by
  rcases ph_k3 hk with rfl | rfl | rfl
  · rw [ph_le0, ph_co0] at h1
    cases i with
    | zero =>
      cases j with
      | zero => exact absurd ⟨rfl, rfl⟩ h
      | succ j => rfl
    | succ i =>
      cases j with
      | zero => rfl
      | succ j => omega
  · rw [ph_le1, ph_co1] at h1
    obtain rfl : i = 0 := by omega
    exact ph_Fi0 f j
  · rw [ph_le2, ph_co2] at h1
    obtain rfl : j = 0 := by omega
    exact ph_Fd0 f i
/-! the two meet -/
section
variable (f : Nat → Nat → Nat → Nat → Nat) (mk : Nat → Nat → Nat → Bool) (n c : Nat)
def ph_can (k i j : Nat) : Prop := i + ph_le k ≤ n ∧ j + ph_co k ≤ c
def ph_Sx (k i j : Nat) : Nat := if (i + ph_le k ≤ n ∧ j + ph_co k ≤ c) ∧ mk k i j = true then ph_tp f (ph_F f i j) k i j * ph_B f n c (i + ph_le k) (j + ph_co k) k else 0
def ph_Ex (k i j : Nat) : Nat := ph_tp f (ph_F f i j) k i j * (ph_Q f mk n c (i + ph_le k) (j + ph_co k) k).2
def ph_Ec (k i j : Nat) : Nat := if i + ph_le k ≤ n ∧ j + ph_co k ≤ c then ph_Ex f mk n c k i j else 0
def ph_Zx (k i j : Nat) : Nat := ph_F f i j k * (ph_Q f mk n c i j k).2
def ph_yx (k i j : Nat) : Nat := if i + ph_le k ≤ n ∧ j + ph_co k ≤ c then (if mk k i j then ph_B f n c (i + ph_le k) (j + ph_co k) k else (ph_Q f mk n c (i + ph_le k) (j + ph_co k) k).2) else 0
end
theorem ph_ring (a0 a1 a2 b00 b01 b02 b10 b11 b12 b20 b21 b22 y0 y1 y2 : Nat) : a0 * (b00 * y0 + b01 * y1 + b02 * y2) + a1 * (b10 * y0 + b11 * y1 + b12 * y2) + a2 * (b20 * y0 + b21 * y1 + b22 * y2) = (a0 * b00 + a1 * b10 + a2 * b20) * y0 + (a0 * b01 + a1 * b11 + a2 * b21) * y1 + (a0 * b02 + a1 * b12 + a2 * b22) * y2 := by
  simp only [Nat.mul_add, Nat.add_mul, Nat.mul_assoc]
  omega
section
variable {f : Nat → Nat → Nat → Nat → Nat} {mk : Nat → Nat → Nat → Bool} {n c : Nat}
theorem ph_Xy (i j p k : Nat) : (ph_X ph_oP (0, 0) (1, 0) (ph_aP f mk) n c i j p k).2 = f p k i j * ph_yx f mk n c k i j := by
  rw [ph_X, ph_yx]
  by_cases z : i + ph_le k ≤ n ∧ j + ph_co k ≤ c
  · rw [if_pos z, if_pos z]
    show f p k i j * (if mk k i j then (ph_Q f mk n c (i + ph_le k) (j + ph_co k) k).1 else (ph_Q f mk n c (i + ph_le k) (j + ph_co k) k).2) = _
    rw [ph_Q1]
  · rw [if_neg z, if_neg z, Nat.mul_zero]
theorem ph_Grec {i j : Nat} (p : Nat) (hi : i ≤ n) (hj : j ≤ c) : (ph_Q f mk n c i j p).2 = f p 0 i j * ph_yx f mk n c 0 i j + f p 1 i j * ph_yx f mk n c 1 i j + f p 2 i j * ph_yx f mk n c 2 i j := by
  by_cases z : i = n ∧ j = c
  · obtain ⟨rfl, rfl⟩ := z
    rw [ph_Q, ph_Tend (ph_lawP f mk), ph_yx, ph_yx, ph_yx, if_neg (by rw [ph_le0]; omega), if_neg (by rw [ph_le1]; omega), if_neg (by rw [ph_co2]; omega)]
    rfl
  · rw [ph_Q, ph_Trec (ph_lawP f mk) p hi hj z, ← ph_Xy, ← ph_Xy, ← ph_Xy]
    show 0 + (ph_X ph_oP (0, 0) (1, 0) (ph_aP f mk) n c i j p 0).2 + (ph_X ph_oP (0, 0) (1, 0) (ph_aP f mk) n c i j p 1).2 + (ph_X ph_oP (0, 0) (1, 0) (ph_aP f mk) n c i j p 2).2 = _
    rw [Nat.zero_add]
theorem ph_ty (hm : ∀ k i j, mk k i j = true → ∀ k' i' j', i + ph_le k ≤ i' → j + ph_co k ≤ j' → mk k' i' j' = false) (k i j : Nat) : ph_tp f (ph_F f i j) k i j * ph_yx f mk n c k i j = ph_Sx f mk n c k i j + ph_Ec f mk n c k i j := by
  rw [ph_yx, ph_Sx, ph_Ec, ph_Ex]
  by_cases z : i + ph_le k ≤ n ∧ j + ph_co k ≤ c
  · rw [if_pos z, if_pos z]
    by_cases y : mk k i j = true
    · rw [if_pos y, if_pos ⟨z, y⟩, ph_Q0 f n c k (hm k i j y), Nat.mul_zero, Nat.add_zero]
    · rw [if_neg y, if_neg (fun q => y q.2), Nat.zero_add]
  · rw [if_neg z, if_neg z, if_neg (fun q => z q.1), Nat.mul_zero]
theorem ph_Dz (hm : ∀ k i j, mk k i j = true → ∀ k' i' j', i + ph_le k ≤ i' → j + ph_co k ≤ j' → mk k' i' j' = false) {i j : Nat} (hi : i ≤ n) (hj : j ≤ c) : ph_Zx f mk n c 0 i j + ph_Zx f mk n c 1 i j + ph_Zx f mk n c 2 i j = (ph_Sx f mk n c 0 i j + ph_Sx f mk n c 1 i j + ph_Sx f mk n c 2 i j) + (ph_Ec f mk n c 0 i j + ph_Ec f mk n c 1 i j + ph_Ec f mk n c 2 i j) := by
  unfold ph_Zx
  rw [ph_Grec 0 hi hj, ph_Grec 1 hi hj, ph_Grec 2 hi hj, ph_ring]
  have h0 := ph_ty (f := f) (n := n) (c := c) hm 0 i j
  have h1 := ph_ty (f := f) (n := n) (c := c) hm 1 i j
  have h2 := ph_ty (f := f) (n := n) (c := c) hm 2 i j
  unfold ph_tp at h0 h1 h2
  rw [h0, h1, h2]
  omega
end
def ph_s2 (g : Nat → Nat → Nat) (n c : Nat) : Nat := ph_sm (fun i => ph_sm (fun j => g i j) (c + 1)) (n + 1)
theorem ph_s2a (g h : Nat → Nat → Nat) (n c : Nat) : ph_s2 (fun i j => g i j + h i j) n c = ph_s2 g n c + ph_s2 h n c := by
  unfold ph_s2
  rw [← ph_sma]
  exact ph_smc _ (fun i _ => ph_sma (fun j => g i j) (fun j => h i j) (c + 1))
theorem ph_s2c {g h : Nat → Nat → Nat} {n c : Nat} (e : ∀ i j, i ≤ n → j ≤ c → g i j = h i j) : ph_s2 g n c = ph_s2 h n c :=
  ph_smc _ (fun i hi => ph_smc _ (fun j hj => e i j (by omega) (by omega)))
section
variable {f : Nat → Nat → Nat → Nat → Nat} {mk : Nat → Nat → Nat → Bool} {n c : Nat}
theorem ph_m0 : ph_s2 (ph_Zx f mk n c 0) n c = (ph_Q f mk n c 0 0 0).2 + ph_s2 (ph_Ec f mk n c 0) n c := by
  unfold ph_s2
  rw [ph_smf]
  have r0 : ph_sm (fun j => ph_Zx f mk n c 0 0 j) (c + 1) = (ph_Q f mk n c 0 0 0).2 := by
    rw [ph_smf, ph_smz c (fun x _ => by rw [ph_Zx, ph_Fm0, Nat.zero_mul])]
    rw [ph_Zx, ph_F00, if_pos rfl, Nat.one_mul, Nat.add_zero]
  have r1 : ph_sm (fun i => ph_sm (fun j => ph_Ec f mk n c 0 i j) (c + 1)) (n + 1) = ph_sm (fun i => ph_sm (fun j => ph_Ec f mk n c 0 i j) (c + 1)) n := by
    show _ + ph_sm (fun j => ph_Ec f mk n c 0 n j) (c + 1) = _
    rw [ph_smz (c + 1) (fun x _ => by rw [ph_Ec, if_neg (by rw [ph_le0]; omega)]), Nat.add_zero]
  rw [r0, r1]
  refine congrArg _ (ph_smc n (fun i hi => ?_))
  rw [ph_smf]
  show ph_Zx f mk n c 0 (i + 1) 0 + ph_sm (fun x => ph_Zx f mk n c 0 (i + 1) (x + 1)) c = ph_sm (fun j => ph_Ec f mk n c 0 i j) c + ph_Ec f mk n c 0 i c
  have e1 : ph_Zx f mk n c 0 (i + 1) 0 = 0 := by rw [ph_Zx, ph_Fm1, Nat.zero_mul]
  have e2 : ph_Ec f mk n c 0 i c = 0 := by rw [ph_Ec, if_neg (by rw [ph_co0]; omega)]
  rw [e1, e2, Nat.zero_add, Nat.add_zero]
  refine ph_smc c (fun j hj => ?_)
  rw [ph_Ec, if_pos (by rw [ph_le0, ph_co0]; omega), ph_Ex, ph_Zx, ph_Fm]
  rfl
theorem ph_m1 : ph_s2 (ph_Zx f mk n c 1) n c = ph_s2 (ph_Ec f mk n c 1) n c := by
  unfold ph_s2
  rw [ph_smf]
  have r0 : ph_sm (fun j => ph_Zx f mk n c 1 0 j) (c + 1) = 0 := ph_smz (c + 1) (fun x _ => by rw [ph_Zx, ph_Fi0, Nat.zero_mul])
  have r1 : ph_sm (fun i => ph_sm (fun j => ph_Ec f mk n c 1 i j) (c + 1)) (n + 1) = ph_sm (fun i => ph_sm (fun j => ph_Ec f mk n c 1 i j) (c + 1)) n := by
    show _ + ph_sm (fun j => ph_Ec f mk n c 1 n j) (c + 1) = _
    rw [ph_smz (c + 1) (fun x _ => by rw [ph_Ec, if_neg (by rw [ph_le1]; omega)]), Nat.add_zero]
  rw [r0, r1, Nat.zero_add]
  refine ph_smc n (fun i hi => ph_smc (c + 1) (fun j hj => ?_))
  rw [ph_Ec, if_pos (by rw [ph_le1, ph_co1]; omega), ph_Ex, ph_Zx, ph_Fi]
  rfl
theorem ph_m2 : ph_s2 (ph_Zx f mk n c 2) n c = ph_s2 (ph_Ec f mk n c 2) n c := by
  unfold ph_s2
  refine ph_smc (n + 1) (fun i hi => ?_)
  rw [ph_smf]
  show ph_Zx f mk n c 2 i 0 + ph_sm (fun x => ph_Zx f mk n c 2 i (x + 1)) c = ph_sm (fun j => ph_Ec f mk n c 2 i j) c + ph_Ec f mk n c 2 i c
  have e1 : ph_Zx f mk n c 2 i 0 = 0 := by rw [ph_Zx, ph_Fd0, Nat.zero_mul]
  have e2 : ph_Ec f mk n c 2 i c = 0 := by rw [ph_Ec, if_neg (by rw [ph_co2]; omega)]
  rw [e1, e2, Nat.zero_add, Nat.add_zero]
  refine ph_smc c (fun j hj => ?_)
  rw [ph_Ec, if_pos (by rw [ph_le2, ph_co2]; omega), ph_Ex, ph_Zx, ph_Fd]
  rfl
theorem ph_meet (hm : ∀ k i j, mk k i j = true → ∀ k' i' j', i + ph_le k ≤ i' → j + ph_co k ≤ j' → mk k' i' j' = false) : (ph_Q f mk n c 0 0 0).2 = ph_s2 (ph_Sx f mk n c 0) n c + ph_s2 (ph_Sx f mk n c 1) n c + ph_s2 (ph_Sx f mk n c 2) n c := by
  have h := ph_s2c (n := n) (c := c) (fun i j hi hj => ph_Dz (f := f) hm hi hj)
  rw [ph_s2a, ph_s2a, ph_s2a, ph_s2a, ph_s2a, ph_s2a, ph_s2a] at h
  have h0 := ph_m0 (f := f) (mk := mk) (n := n) (c := c)
  have h1 := ph_m1 (f := f) (mk := mk) (n := n) (c := c)
  have h2 := ph_m2 (f := f) (mk := mk) (n := n) (c := c)
  omega
end
