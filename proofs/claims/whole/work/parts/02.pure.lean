def tv_T : Int := 1000000000
abbrev tv_M : Type := Nat → Nat → Int
def tv_ph (w : Nat) (A : tv_M) : tv_M := fun i j =>
  if A i w < tv_T ∧ A w j < tv_T ∧ A i w + A w j < A i j then A i w + A w j else A i j
def tv_fw (A : tv_M) : Nat → tv_M
  | 0 => A
  | k + 1 => tv_ph k (tv_fw A k)
def tv_Good (A : tv_M) : Prop := ∀ t, t < 7 → 0 ≤ tv_fw A 7 t t
def tv_B (b : Int) (A : tv_M) : Prop := ∀ i j, i < 7 → j < 7 → A i j = tv_T ∨ (-b ≤ A i j ∧ A i j ≤ b)
theorem tv_ph_le (w : Nat) (A : tv_M) (i j : Nat) : tv_ph w A i j ≤ A i j := by
  unfold tv_ph; split <;> omega
theorem tv_ph_sum (w : Nat) (A : tv_M) (i j : Nat) (h1 : A i w < tv_T) (h2 : A w j < tv_T) : tv_ph w A i j ≤ A i w + A w j := by
  unfold tv_ph; split <;> omega
theorem tv_ph_cases (w : Nat) (A : tv_M) (i j : Nat) : tv_ph w A i j = A i j ∨ (A i w < tv_T ∧ A w j < tv_T ∧ tv_ph w A i j = A i w + A w j) := by
  unfold tv_ph
  by_cases h : A i w < tv_T ∧ A w j < tv_T ∧ A i w + A w j < A i j
  · rw [if_pos h]; exact Or.inr ⟨h.1, h.2.1, rfl⟩
  · rw [if_neg h]; exact Or.inl rfl
theorem tv_fw_le1 (A : tv_M) (a d i j : Nat) : tv_fw A (a + d) i j ≤ tv_fw A a i j := by
  induction d with
  | zero => exact Int.le_refl _
  | succ d ih => exact Int.le_trans (tv_ph_le (a + d) (tv_fw A (a + d)) i j) ih
theorem tv_fw_le (A : tv_M) {a b : Nat} (h : a ≤ b) (i j : Nat) : tv_fw A b i j ≤ tv_fw A a i j := by
  have e : b = a + (b - a) := by omega
  rw [e]; exact tv_fw_le1 A a (b - a) i j
theorem tv_ph_B {b : Int} {A : tv_M} {w : Nat} (hw : w < 7) (hb : 0 ≤ b) (h : tv_B b A) : tv_B (2 * b) (tv_ph w A) := by
  intro i j hi hj
  have h1 := h i j hi hj
  have h2 := h i w hi hw
  have h3 := h w j hw hj
  rcases tv_ph_cases w A i j with e | ⟨l1, l2, e⟩
  · rw [e]; rcases h1 with h1 | h1
    · exact Or.inl h1
    · exact Or.inr (by omega)
  · rw [e]; exact Or.inr (by omega)
def tv_bd : Nat → Int
  | 0 => 21
  | k + 1 => 2 * tv_bd k
theorem tv_bd_pos (k : Nat) : 0 ≤ tv_bd k := by
  induction k with
  | zero => decide
  | succ k ih => show 0 ≤ 2 * tv_bd k; omega
theorem tv_bd_le {k : Nat} (h : k ≤ 7) : tv_bd k ≤ 2688 := (by decide +kernel : ∀ k, k < 8 → tv_bd k ≤ 2688) k (by omega)
theorem tv_fw_B {A : tv_M} (h : tv_B 21 A) {k : Nat} (hk : k ≤ 7) : tv_B (tv_bd k) (tv_fw A k) := by
  induction k with
  | zero => exact h
  | succ k ih => exact tv_ph_B (by omega) (tv_bd_pos k) (ih (by omega))
/-- closed below k -/
def tv_C (k : Nat) (D : tv_M) : Prop := ∀ i j m, i < 7 → j < 7 → m < k → D i m < tv_T → D m j < tv_T → D i j ≤ D i m + D m j
theorem tv_C_step {k : Nat} {b : Int} {D : tv_M} (hk : k < 7) (hb : 0 ≤ b) (h2 : 2 * b < tv_T) (hB : tv_B b D) (h0 : 0 ≤ D k k) (hC : tv_C k D) : tv_C (k + 1) (tv_ph k D) := by
  have fin : ∀ i j, i < 7 → j < 7 → D i j < tv_T → -b ≤ D i j ∧ D i j ≤ b := fun i j hi hj h => by
    rcases hB i j hi hj with e | e
    · omega
    · exact e
  have lo : ∀ i j, i < 7 → j < 7 → D i j ≤ tv_T := fun i j hi hj => by
    rcases hB i j hi hj with e | e <;> omega
  intro i j m hi hj hm l1 l2
  by_cases e : m = k
  · subst e
    have a1 : tv_ph m D i m = D i m := by
      rcases tv_ph_cases m D i m with q | ⟨_, _, q⟩
      · exact q
      · have := tv_ph_le m D i m; omega
    have a2 : tv_ph m D m j = D m j := by
      rcases tv_ph_cases m D m j with q | ⟨_, _, q⟩
      · exact q
      · have := tv_ph_le m D m j; omega
    rw [a1] at l1 ⊢; rw [a2] at l2 ⊢
    exact tv_ph_sum m D i j l1 l2
  · have hm' : m < k := by omega
    have hm7 : m < 7 := by omega
    have T0 := tv_ph_le k D i j
    rcases tv_ph_cases k D i m with q1 | ⟨p1, p2, q1⟩ <;> rcases tv_ph_cases k D m j with q2 | ⟨p3, p4, q2⟩
    · have := hC i j m hi hj hm' (by omega) (by omega); omega
    · -- D i m, D m k + D k j
      have r := hC i k m hi hk hm' (by omega) p3
      have f1 := fin i m hi hm7 (by omega)
      have f2 := fin m k hm7 hk p3
      have s := tv_ph_sum k D i j (by omega) p4
      omega
    · have r := hC k j m hk hj hm' p2 (by omega)
      have f1 := fin m j hm7 hj (by omega)
      have f2 := fin k m hk hm7 p2
      have s := tv_ph_sum k D i j p1 (by omega)
      omega
    · have r := hC k k m hk hk hm' p2 p3
      have s := tv_ph_sum k D i j p1 p4
      omega
theorem tv_closed {A : tv_M} (hB : tv_B 21 A) (hG : tv_Good A) : ∀ k, k ≤ 7 → tv_C k (tv_fw A k) := by
  intro k
  induction k with
  | zero => intro _ i j m _ _ hm; omega
  | succ k ih =>
    intro hk
    have h0 : 0 ≤ tv_fw A k k k := Int.le_trans (hG k (by omega)) (tv_fw_le A (by omega) k k)
    have hb := tv_bd_le (k := k) (by omega)
    exact tv_C_step (by omega) (tv_bd_pos k) (by have hT : tv_T = 1000000000 := rfl; omega) (tv_fw_B hB (by omega)) h0 (ih (by omega))
theorem tv_ph_mono {w : Nat} {A B : tv_M} (hw : w < 7) (h : ∀ i j, i < 7 → j < 7 → A i j ≤ B i j) : ∀ i j, i < 7 → j < 7 → tv_ph w A i j ≤ tv_ph w B i j := by
  intro i j hi hj
  have h1 := h i j hi hj
  have h2 := h i w hi hw
  have h3 := h w j hw hj
  rcases tv_ph_cases w B i j with e | ⟨l1, l2, e⟩
  · rw [e]; exact Int.le_trans (tv_ph_le w A i j) h1
  · have := tv_ph_sum w A i j (by omega) (by omega); omega
theorem tv_fw_mono {A B : tv_M} (h : ∀ i j, i < 7 → j < 7 → A i j ≤ B i j) {k : Nat} (hk : k ≤ 7) : ∀ i j, i < 7 → j < 7 → tv_fw A k i j ≤ tv_fw B k i j := by
  induction k with
  | zero => exact h
  | succ k ih => exact tv_ph_mono (by omega) (ih (by omega))
theorem tv_Good_mono {A B : tv_M} (h : ∀ i j, i < 7 → j < 7 → A i j ≤ B i j) (g : tv_Good A) : tv_Good B :=
  fun t ht => Int.le_trans (g t ht) (tv_fw_mono h (Nat.le_refl 7) t t ht ht)
theorem tv_pair {A : tv_M} (hB : tv_B 21 A) (hG : tv_Good A) {i j : Nat} (hi : i < 7) (hj : j < 7) (l1 : tv_fw A 7 i j < tv_T) (l2 : tv_fw A 7 j i < tv_T) : 0 ≤ tv_fw A 7 i j + tv_fw A 7 j i :=
  Int.le_trans (hG i hi) (tv_closed hB hG 7 (Nat.le_refl 7) i i j hi hi hj l1 l2)
theorem tv_tri {A : tv_M} (hB : tv_B 21 A) {x y z : Nat} (hx : x < 7) (hy : y < 7) (hz : z < 7) (a1 : A x y < tv_T) (a2 : A y z < tv_T) (a3 : A z x < tv_T) (neg : A x y + A y z + A z x < 0) : ¬ tv_Good A := by
  intro hG
  have C := tv_closed hB hG 7 (Nat.le_refl 7)
  have d1 : tv_fw A 7 x y ≤ A x y := tv_fw_le A (Nat.zero_le 7) x y
  have d2 : tv_fw A 7 y z ≤ A y z := tv_fw_le A (Nat.zero_le 7) y z
  have d3 : tv_fw A 7 z x ≤ A z x := tv_fw_le A (Nat.zero_le 7) z x
  have c1 := C x z y hx hz hy (by omega) (by omega)
  have B7 := tv_fw_B hB (Nat.le_refl 7)
  have hb := tv_bd_le (Nat.le_refl 7)
  have f1 := B7 x y hx hy
  have f2 := B7 y z hy hz
  have hT : tv_T = 1000000000 := rfl
  have lt : tv_fw A 7 x z < tv_T := by omega
  have c2 := C x x z hx hx hz lt (by omega)
  have g := hG x hx
  omega
theorem tv_fw_congr {A B : tv_M} (h : ∀ i j, i < 7 → j < 7 → A i j = B i j) {k : Nat} (hk : k ≤ 7) : ∀ i j, i < 7 → j < 7 → tv_fw A k i j = tv_fw B k i j :=
  fun i j hi hj => Int.le_antisymm (tv_fw_mono (fun i j hi hj => Int.le_of_eq (h i j hi hj)) hk i j hi hj) (tv_fw_mono (fun i j hi hj => Int.le_of_eq (h i j hi hj).symm) hk i j hi hj)
theorem tv_Good_congr {A B : tv_M} (h : ∀ i j, i < 7 → j < 7 → A i j = B i j) : tv_Good A → tv_Good B :=
  tv_Good_mono (fun i j hi hj => Int.le_of_eq (h i j hi hj))
/-- a meaning v makes a matrix good -/
theorem tv_pot {A : tv_M} (v : Nat → Int) (h : ∀ i j, i < 7 → j < 7 → v i - v j ≤ A i j) : ∀ k, k ≤ 7 → ∀ i j, i < 7 → j < 7 → v i - v j ≤ tv_fw A k i j := by
  intro k
  induction k with
  | zero => intro _; exact h
  | succ k ih =>
    intro hk i j hi hj
    have ih' := ih (by omega)
    have a1 := ih' i j hi hj
    have a2 := ih' i k hi (by omega)
    have a3 := ih' k j (by omega) hj
    show v i - v j ≤ tv_ph k (tv_fw A k) i j
    rcases tv_ph_cases k (tv_fw A k) i j with e | ⟨_, _, e⟩
    · rw [e]; exact a1
    · rw [e]; omega
theorem tv_pot_Good {A : tv_M} (v : Nat → Int) (h : ∀ i j, i < 7 → j < 7 → v i - v j ≤ A i j) : tv_Good A := by
  intro t ht
  have := tv_pot v h 7 (Nat.le_refl 7) t t ht ht
  omega
theorem tv_ph_col {w : Nat} {A : tv_M} (h0 : A w w = 0) (i : Nat) : tv_ph w A i w = A i w := by
  rcases tv_ph_cases w A i w with q | ⟨_, _, q⟩
  · exact q
  · rw [q]; omega
theorem tv_ph_row {w : Nat} {A : tv_M} (h0 : A w w = 0) (j : Nat) : tv_ph w A w j = A w j := by
  rcases tv_ph_cases w A w j with q | ⟨_, _, q⟩
  · exact q
  · rw [q]; omega
/-- the reference's phase: no guard, top 1000000 that drifts -/
def tv_yp (w : Nat) (B : tv_M) : tv_M := fun i j => if B i w + B w j < B i j then B i w + B w j else B i j
def tv_yw (B : tv_M) : Nat → tv_M
  | 0 => B
  | k + 1 => tv_yp k (tv_yw B k)
theorem tv_yp_col {w : Nat} {A : tv_M} (h0 : A w w = 0) (i : Nat) : tv_yp w A i w = A i w := by
  unfold tv_yp; split <;> omega
theorem tv_yp_row {w : Nat} {A : tv_M} (h0 : A w w = 0) (j : Nat) : tv_yp w A w j = A w j := by
  unfold tv_yp; split <;> omega
def tv_E (b x y : Int) : Prop := (x = 1000000000 ∧ 1000000 - b ≤ y ∧ y ≤ 1000000) ∨ (x = y ∧ -b ≤ x ∧ x ≤ b)
def tv_EM (b : Int) (A B : tv_M) : Prop := ∀ i j, i < 7 → j < 7 → tv_E b (A i j) (B i j)
theorem tv_E_step {b a1 a2 a3 y1 y2 y3 : Int} (hb : 0 ≤ b) (hb2 : b ≤ 1344) (h1 : tv_E b a1 y1) (h2 : tv_E b a2 y2) (h3 : tv_E b a3 y3) :
    tv_E (2 * b) (if a2 < 1000000000 ∧ a3 < 1000000000 ∧ a2 + a3 < a1 then a2 + a3 else a1) (if y2 + y3 < y1 then y2 + y3 else y1) := by
  unfold tv_E at *
  by_cases c : a2 < 1000000000 ∧ a3 < 1000000000 ∧ a2 + a3 < a1
  · rw [if_pos c]
    by_cases d : y2 + y3 < y1
    · rw [if_pos d]; omega
    · rw [if_neg d]; omega
  · rw [if_neg c]
    by_cases d : y2 + y3 < y1
    · rw [if_pos d]; omega
    · rw [if_neg d]; omega
theorem tv_EM_step {b : Int} {A B : tv_M} {w : Nat} (hw : w < 7) (hb : 0 ≤ b) (hb2 : b ≤ 1344) (h : tv_EM b A B) : tv_EM (2 * b) (tv_ph w A) (tv_yp w B) := by
  intro i j hi hj
  exact tv_E_step hb hb2 (h i j hi hj) (h i w hi hw) (h w j hw hj)
theorem tv_bd_le6 {k : Nat} (h : k < 7) : tv_bd k ≤ 1344 := (by decide +kernel : ∀ k, k < 7 → tv_bd k ≤ 1344) k h
theorem tv_EM_fw {A B : tv_M} (h : tv_EM 21 A B) : ∀ k, k ≤ 7 → tv_EM (tv_bd k) (tv_fw A k) (tv_yw B k) := by
  intro k
  induction k with
  | zero => intro _; exact h
  | succ k ih => intro hk; exact tv_EM_step (by omega) (tv_bd_pos k) (tv_bd_le6 (by omega)) (ih (by omega))
/-- a table of 49 cells holds a matrix; or has a negative cell on its diagonal -/
def tv_is (b : Nat → Int32) (A : tv_M) : Prop := ∀ i j, i < 7 → j < 7 → (b (7 * i + j)).toInt = A i j
def tv_neg (b : Nat → Int32) : Prop := ∃ t, t < 7 ∧ (b (7 * t + t)).toInt < 0
def tv_mix (A B : tv_M) (c : Nat) : tv_M := fun i j => if 7 * i + j < c then B i j else A i j
theorem tv_is_upd {b : Nat → Int32} {A B : tv_M} {t u : Nat} {v : Int32} (ht : t < 7) (hu : u < 7) (h : tv_is b A) (hv : v.toInt = B t u) (hB : ∀ i j, i < 7 → j < 7 → ¬ (i = t ∧ j = u) → B i j = A i j) : tv_is (upd b (7 * t + u) v) B := by
  intro i j hi hj
  by_cases e : 7 * i + j = 7 * t + u
  · have e1 : i = t := by omega
    have e2 : j = u := by omega
    subst e1; subst e2
    rw [pk_us]; exact hv
  · rw [pk_un e, hB i j hi hj (by omega)]; exact h i j hi hj
theorem tv_neg_upd {b : Nat → Int32} {k : Nat} {v : Int32} (h : tv_neg b) (hv : v.toInt ≤ (b k).toInt) : tv_neg (upd b k v) := by
  obtain ⟨t, ht, h⟩ := h
  refine ⟨t, ht, ?_⟩
  by_cases e : 7 * t + t = k
  · subst e; rw [pk_us]; omega
  · rw [pk_un e]; exact h
theorem tv_mix_S {b : Nat → Int32} {A B : tv_M} {t u : Nat} {v : Int32} (ht : t < 7) (hu : u < 7) (h : tv_is b (tv_mix A B (7 * t + u))) (hv : v.toInt = B t u) : tv_is (upd b (7 * t + u) v) (tv_mix A B (7 * t + u + 1)) := by
  refine tv_is_upd ht hu h ?_ ?_
  · rw [hv]; unfold tv_mix; rw [if_pos (by omega)]
  · intro i j hi hj e
    unfold tv_mix
    by_cases c : 7 * i + j < 7 * t + u
    · rw [if_pos c, if_pos (by omega)]
    · rw [if_neg c, if_neg (by omega)]
theorem tv_mix_N {b : Nat → Int32} {A B : tv_M} {t u : Nat} (ht : t < 7) (hu : u < 7) (h : tv_is b (tv_mix A B (7 * t + u))) (hv : B t u = A t u) : tv_is b (tv_mix A B (7 * t + u + 1)) := by
  intro i j hi hj
  rw [h i j hi hj]
  unfold tv_mix
  by_cases c : 7 * i + j < 7 * t + u
  · rw [if_pos c, if_pos (by omega)]
  · rw [if_neg c]
    by_cases e : 7 * i + j = 7 * t + u
    · have e1 : i = t := by omega
      have e2 : j = u := by omega
      subst e1; subst e2
      rw [if_pos (by omega), hv]
    · rw [if_neg (by omega)]
theorem tv_mix_0 {b : Nat → Int32} {A B : tv_M} (h : tv_is b A) : tv_is b (tv_mix A B 0) := by
  intro i j hi hj
  rw [h i j hi hj]; unfold tv_mix; rw [if_neg (by omega)]
theorem tv_mix_49 {b : Nat → Int32} {A B : tv_M} (h : tv_is b (tv_mix A B 49)) : tv_is b B := by
  intro i j hi hj
  rw [h i j hi hj]; unfold tv_mix; rw [if_pos (by omega)]
theorem tv_mix_eq {A B : tv_M} {c i j : Nat} (h : B i j = A i j) : tv_mix A B c i j = A i j := by
  unfold tv_mix; split
  · exact h
  · rfl
