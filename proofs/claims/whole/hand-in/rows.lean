section
theorem pk_us {f : Nat → Int32} {k : Nat} {x : Int32} : upd f k x k = x := if_pos rfl
theorem pk_un {f : Nat → Int32} {k j : Nat} {x : Int32} (h : j ≠ k) : upd f k x j = f j := if_neg h
theorem pk_sub {a b : Nat} (h : b ≤ a) : nI a - nI b = nI (a - b) := by
  obtain ⟨c, rfl⟩ : ∃ c, a = c + b := ⟨a - b, by omega⟩
  rw [← nI_add, Int32.add_sub_cancel, Nat.add_sub_cancel]
theorem pk_m1 (n : Nat) : nI (n + 1) + (-1) = nI n := by
  rw [← nI_1, Int32.add_assoc, show (1 : Int32) + (-1) = 0 from rfl, Int32.add_zero]
theorem pk_mul (a b : Nat) : nI a * nI b = nI (a * b) := (Int32.ofNat_mul a b).symm
theorem pk_div {a d : Nat} (ha : a < 2 ^ 31) (h0 : 0 < d) (hd : d < 2 ^ 31) : nI a / nI d = nI (a / d) := by
  apply Int32.toInt_inj.mp
  rw [lg_idiv_nonneg (by rw [nI_toInt ha]; omega) (by rw [nI_toInt hd]; omega), nI_toInt ha, nI_toInt hd, nI_toInt (Nat.lt_of_le_of_lt (Nat.div_le_self a d) ha)]
  first | rfl | exact (Int.natCast_ediv _ _).symm
theorem pk_rem {a d : Nat} (ha : a < 2 ^ 31) (h0 : 0 < d) (hd : d < 2 ^ 31) : nI a - nI a / nI d * nI d = nI (a % d) := by
  rw [pk_div ha h0 hd, pk_mul, pk_sub (Nat.div_mul_le_self a d)]
  exact congrArg nI (by have := Nat.div_add_mod' a d; omega)
theorem pk_ix (x : Int32) {n : Nat} (hn : n < 2 ^ 31) : x < 0 ∨ nI n ≤ x ∨ ∃ j : Nat, j < n ∧ x = nI j := by
  by_cases h : x < 0
  · exact Or.inl h
  · obtain ⟨j, hj, rfl⟩ := nI_of h
    by_cases h2 : j < n
    · exact Or.inr (Or.inr ⟨j, h2, rfl⟩)
    · exact Or.inr (Or.inl (nI_le (by omega) hj))
theorem pk_le {x y : Int32} {A B : Prop} (a b : Nat) (f : a ≤ b → A) (g : b < a → B) (hx : x = nI a := by rfl) (hy : y = nI b := by rfl) (ha : a < 2 ^ 31 := by omega) (hb : b < 2 ^ 31 := by omega) : (x ≤ y → A) ∧ (¬ x ≤ y → B) := by
  subst hx hy
  rw [nI_leI ha hb]
  exact ⟨f, fun z => g (by omega)⟩
theorem pk_lt {x y : Int32} {A B : Prop} (a b : Nat) (f : a < b → A) (g : b ≤ a → B) (hx : x = nI a := by rfl) (hy : y = nI b := by rfl) (ha : a < 2 ^ 31 := by omega) (hb : b < 2 ^ 31 := by omega) : (x < y → A) ∧ (¬ x < y → B) := by
  subst hx hy
  rw [nI_ltI ha hb]
  exact ⟨f, fun z => g (by omega)⟩
theorem pk_eq {x y : Int32} {A B : Prop} (a b : Nat) (f : a = b → A) (g : a ≠ b → B) (hx : x = nI a := by rfl) (hy : y = nI b := by rfl) (ha : a < 2 ^ 31 := by omega) (hb : b < 2 ^ 31 := by omega) : (x = y → A) ∧ (¬ x = y → B) := by
  subst hx hy
  rw [nI_eq ha hb]
  exact ⟨f, g⟩
theorem pk_in {x : Int32} (n N : Nat) (h : n < N) (hx : x = nI n := by rfl) (hN : N < 2 ^ 31 := by omega) : vp_in x N := by
  subst hx
  exact vp_in_nI h hN
theorem pk_cl {x : Int32} (n : Nat) (hx : x = nI n := by rfl) (h : n < 2 ^ 31 := by omega) : x.toNatClampNeg = n := by
  subst hx
  exact nI_clamp h
theorem pk_tn {n : Nat} (h : n < 2 ^ 32) : (nI n).toBitVec.toNat = n := Nat.mod_eq_of_lt h
theorem pk_and (x : Int32) {m : Int32} (k : Nat) (hm : m.toBitVec.toNat = 2 ^ k - 1) : x &&& m = nI (x.toBitVec.toNat % 2 ^ k) := by
  apply Int32.toBitVec_inj.mp
  apply BitVec.eq_of_toNat_eq
  rw [Int32.toBitVec_and, BitVec.toNat_and, hm, Nat.and_two_pow_sub_one_eq_mod]
  show _ = (BitVec.ofNat 32 _).toNat
  rw [BitVec.toNat_ofNat]
  exact (Nat.mod_eq_of_lt (Nat.lt_of_le_of_lt (Nat.mod_le _ _) x.toBitVec.isLt)).symm
theorem pk_andN {n : Nat} (h : n < 2 ^ 32) {m : Int32} (k : Nat) (hm : m.toBitVec.toNat = 2 ^ k - 1) : nI n &&& m = nI (n % 2 ^ k) := by
  rw [pk_and _ k hm, pk_tn h]
theorem pk_shl (a s : Int32) (k : Nat) (hs : (s.toBitVec.smod 32).toNat = k) : (a <<< s).toBitVec.toNat = a.toBitVec.toNat * 2 ^ k % 2 ^ 32 := by
  show (a.toBitVec <<< (s.toBitVec.smod 32).toNat).toNat = _
  rw [hs, BitVec.toNat_shiftLeft, Nat.shiftLeft_eq]
theorem pk_shlN {n : Nat} (s : Int32) (k : Nat) (hs : (s.toBitVec.smod 32).toNat = k) (h : n * 2 ^ k < 2 ^ 32) : nI n <<< s = nI (n * 2 ^ k) := by
  apply Int32.toBitVec_inj.mp
  apply BitVec.eq_of_toNat_eq
  have hn : n < 2 ^ 32 := Nat.lt_of_le_of_lt (Nat.le_mul_of_pos_right n (Nat.two_pow_pos k)) h
  rw [pk_shl _ _ k hs, pk_tn hn, pk_tn h, Nat.mod_eq_of_lt h]
theorem pk_shr (a s : Int32) (k : Nat) (hs : (s.toBitVec.smod 32).toNat = k) : (a >>> s).toInt = a.toInt >>> k := by
  show (a.toBitVec.sshiftRight (s.toBitVec.smod 32).toNat).toInt = _
  rw [hs, BitVec.toInt_sshiftRight]
  rfl
theorem pk_shrN {n : Nat} (h : n < 2 ^ 31) (s : Int32) (k : Nat) (hs : (s.toBitVec.smod 32).toNat = k) : nI n >>> s = nI (n / 2 ^ k) := by
  apply Int32.toInt_inj.mp
  have h2 : n / 2 ^ k ≤ n := Nat.div_le_self _ _
  rw [pk_shr _ _ k hs, nI_toInt h, nI_toInt (by omega), Int.shiftRight_eq_div_pow]
  rfl
theorem pk_loop {σ : Type} (W : Nat → Nat → σ → Prop) (I : Nat → σ → Prop) (e i0 : Nat) (s : σ) (hi : i0 ≤ e) (h0 : I i0 s) (hx : ∀ n s, I e s → W (n + 1) e s)
    (hs : ∀ n i s, i < e → I i s → (∀ s', I (i + 1) s' → W n (i + 1) s') → W (n + 1) i s) : ∃ n, W n i0 s :=
  ⟨e + 1, loop_i W I e hx hs (e + 1) i0 s hi (by omega) h0⟩
theorem pk_least (P : Nat → Prop) (h : ∃ k, P k) : ∃ k, P k ∧ ∀ j, j < k → ¬ P j := by
  obtain ⟨k, hk⟩ := h
  induction k using Nat.strongRecOn with
  | ind k ih =>
    by_cases e : ∃ j, j < k ∧ P j
    · obtain ⟨j, hj, pj⟩ := e
      exact ih j hj pj
    · exact ⟨k, hk, fun j hj pj => e ⟨j, hj, pj⟩⟩
def bt (x : Int32) (i : Nat) : Bool := x.toBitVec.getLsbD i
theorem b_ext {x y : Int32} (h : ∀ i, i < 32 → bt x i = bt y i) : x = y := Int32.toBitVec_inj.mp (BitVec.eq_of_getLsbD_eq (fun i hi => h i hi))
theorem b_or (x y : Int32) (i : Nat) : bt (x ||| y) i = (bt x i || bt y i) := by unfold bt; rw [Int32.toBitVec_or, BitVec.getLsbD_or]
theorem b_and (x y : Int32) (i : Nat) : bt (x &&& y) i = (bt x i && bt y i) := by unfold bt; rw [Int32.toBitVec_and, BitVec.getLsbD_and]
theorem b_xor (x y : Int32) (i : Nat) : bt (x ^^^ y) i = (bt x i ^^ bt y i) := by unfold bt; rw [Int32.toBitVec_xor, BitVec.getLsbD_xor]
theorem b_0 (i : Nat) : bt 0 i = false := BitVec.getLsbD_zero
theorem s_l : ∀ n, n < 32 → ((nI n &&& 31).toBitVec.smod 32).toNat = n := by decide +kernel
end
section
def tv_T : Int := 1000000000
abbrev tv_M : Type := Nat → Nat → Int
def tv_ph (w : Nat) (A : tv_M) : tv_M := fun i j =>
  if A i w < tv_T ∧ A w j < tv_T ∧ A i w + A w j < A i j then A i w + A w j else A i j
def tv_fw (A : tv_M) : Nat → tv_M
  | 0 => A
  | k + 1 => tv_ph k (tv_fw A k)
def tv_Good (A : tv_M) : Prop := ∀ t, t < 7 → 0 ≤ tv_fw A 7 t t
def tv_B (b : Int) (A : tv_M) : Prop := ∀ i j, i < 7 → j < 7 → A i j = tv_T ∨ (-b ≤ A i j ∧ A i j ≤ b)
theorem tv_ph_le (w : Nat) (A : tv_M) (i j : Nat) : tv_ph w A i j ≤ A i j := by
  unfold tv_ph; split <;> omega
theorem tv_ph_sum (w : Nat) (A : tv_M) (i j : Nat) (h1 : A i w < tv_T) (h2 : A w j < tv_T) : tv_ph w A i j ≤ A i w + A w j := by
  unfold tv_ph; split <;> omega
theorem tv_ph_cases (w : Nat) (A : tv_M) (i j : Nat) : tv_ph w A i j = A i j ∨ (A i w < tv_T ∧ A w j < tv_T ∧ tv_ph w A i j = A i w + A w j) := by
  unfold tv_ph
  by_cases h : A i w < tv_T ∧ A w j < tv_T ∧ A i w + A w j < A i j
  · rw [if_pos h]; exact Or.inr ⟨h.1, h.2.1, rfl⟩
  · rw [if_neg h]; exact Or.inl rfl
theorem tv_fw_le1 (A : tv_M) (a d i j : Nat) : tv_fw A (a + d) i j ≤ tv_fw A a i j := by
  induction d with
  | zero => exact Int.le_refl _
  | succ d ih => exact Int.le_trans (tv_ph_le (a + d) (tv_fw A (a + d)) i j) ih
theorem tv_fw_le (A : tv_M) {a b : Nat} (h : a ≤ b) (i j : Nat) : tv_fw A b i j ≤ tv_fw A a i j := by
  have e : b = a + (b - a) := by omega
  rw [e]; exact tv_fw_le1 A a (b - a) i j
theorem tv_ph_B {b : Int} {A : tv_M} {w : Nat} (hw : w < 7) (hb : 0 ≤ b) (h : tv_B b A) : tv_B (2 * b) (tv_ph w A) := by
  intro i j hi hj
  have h1 := h i j hi hj
  have h2 := h i w hi hw
  have h3 := h w j hw hj
  rcases tv_ph_cases w A i j with e | ⟨l1, l2, e⟩
  · rw [e]; rcases h1 with h1 | h1
    · exact Or.inl h1
    · exact Or.inr (by omega)
  · rw [e]; exact Or.inr (by omega)
def tv_bd : Nat → Int
  | 0 => 21
  | k + 1 => 2 * tv_bd k
theorem tv_bd_pos (k : Nat) : 0 ≤ tv_bd k := by
  induction k with
  | zero => decide
  | succ k ih => show 0 ≤ 2 * tv_bd k; omega
theorem tv_bd_le {k : Nat} (h : k ≤ 7) : tv_bd k ≤ 2688 := (by decide +kernel : ∀ k, k < 8 → tv_bd k ≤ 2688) k (by omega)
theorem tv_fw_B {A : tv_M} (h : tv_B 21 A) {k : Nat} (hk : k ≤ 7) : tv_B (tv_bd k) (tv_fw A k) := by
  induction k with
  | zero => exact h
  | succ k ih => exact tv_ph_B (by omega) (tv_bd_pos k) (ih (by omega))
/-- closed below k -/
def tv_C (k : Nat) (D : tv_M) : Prop := ∀ i j m, i < 7 → j < 7 → m < k → D i m < tv_T → D m j < tv_T → D i j ≤ D i m + D m j
theorem tv_C_step {k : Nat} {b : Int} {D : tv_M} (hk : k < 7) (hb : 0 ≤ b) (h2 : 2 * b < tv_T) (hB : tv_B b D) (h0 : 0 ≤ D k k) (hC : tv_C k D) : tv_C (k + 1) (tv_ph k D) := by
  have fin : ∀ i j, i < 7 → j < 7 → D i j < tv_T → -b ≤ D i j ∧ D i j ≤ b := fun i j hi hj h => by
    rcases hB i j hi hj with e | e
    · omega
    · exact e
  have lo : ∀ i j, i < 7 → j < 7 → D i j ≤ tv_T := fun i j hi hj => by
    rcases hB i j hi hj with e | e <;> omega
  intro i j m hi hj hm l1 l2
  by_cases e : m = k
  · subst e
    have a1 : tv_ph m D i m = D i m := by
      rcases tv_ph_cases m D i m with q | ⟨_, _, q⟩
      · exact q
      · have := tv_ph_le m D i m; omega
    have a2 : tv_ph m D m j = D m j := by
      rcases tv_ph_cases m D m j with q | ⟨_, _, q⟩
      · exact q
      · have := tv_ph_le m D m j; omega
    rw [a1] at l1 ⊢; rw [a2] at l2 ⊢
    exact tv_ph_sum m D i j l1 l2
  · have hm' : m < k := by omega
    have hm7 : m < 7 := by omega
    have T0 := tv_ph_le k D i j
    rcases tv_ph_cases k D i m with q1 | ⟨p1, p2, q1⟩ <;> rcases tv_ph_cases k D m j with q2 | ⟨p3, p4, q2⟩
    · have := hC i j m hi hj hm' (by omega) (by omega); omega
    · -- D i m, D m k + D k j
      have r := hC i k m hi hk hm' (by omega) p3
      have f1 := fin i m hi hm7 (by omega)
      have f2 := fin m k hm7 hk p3
      have s := tv_ph_sum k D i j (by omega) p4
      omega
    · have r := hC k j m hk hj hm' p2 (by omega)
      have f1 := fin m j hm7 hj (by omega)
      have f2 := fin k m hk hm7 p2
      have s := tv_ph_sum k D i j p1 (by omega)
      omega
    · have r := hC k k m hk hk hm' p2 p3
      have s := tv_ph_sum k D i j p1 p4
      omega
theorem tv_closed {A : tv_M} (hB : tv_B 21 A) (hG : tv_Good A) : ∀ k, k ≤ 7 → tv_C k (tv_fw A k) := by
  intro k
  induction k with
  | zero => intro _ i j m _ _ hm; omega
  | succ k ih =>
    intro hk
    have h0 : 0 ≤ tv_fw A k k k := Int.le_trans (hG k (by omega)) (tv_fw_le A (by omega) k k)
    have hb := tv_bd_le (k := k) (by omega)
    exact tv_C_step (by omega) (tv_bd_pos k) (by have hT : tv_T = 1000000000 := rfl; omega) (tv_fw_B hB (by omega)) h0 (ih (by omega))
theorem tv_ph_mono {w : Nat} {A B : tv_M} (hw : w < 7) (h : ∀ i j, i < 7 → j < 7 → A i j ≤ B i j) : ∀ i j, i < 7 → j < 7 → tv_ph w A i j ≤ tv_ph w B i j := by
  intro i j hi hj
  have h1 := h i j hi hj
  have h2 := h i w hi hw
  have h3 := h w j hw hj
  rcases tv_ph_cases w B i j with e | ⟨l1, l2, e⟩
  · rw [e]; exact Int.le_trans (tv_ph_le w A i j) h1
  · have := tv_ph_sum w A i j (by omega) (by omega); omega
theorem tv_fw_mono {A B : tv_M} (h : ∀ i j, i < 7 → j < 7 → A i j ≤ B i j) {k : Nat} (hk : k ≤ 7) : ∀ i j, i < 7 → j < 7 → tv_fw A k i j ≤ tv_fw B k i j := by
  induction k with
  | zero => exact h
  | succ k ih => exact tv_ph_mono (by omega) (ih (by omega))
theorem tv_Good_mono {A B : tv_M} (h : ∀ i j, i < 7 → j < 7 → A i j ≤ B i j) (g : tv_Good A) : tv_Good B :=
  fun t ht => Int.le_trans (g t ht) (tv_fw_mono h (Nat.le_refl 7) t t ht ht)
theorem tv_pair {A : tv_M} (hB : tv_B 21 A) (hG : tv_Good A) {i j : Nat} (hi : i < 7) (hj : j < 7) (l1 : tv_fw A 7 i j < tv_T) (l2 : tv_fw A 7 j i < tv_T) : 0 ≤ tv_fw A 7 i j + tv_fw A 7 j i :=
  Int.le_trans (hG i hi) (tv_closed hB hG 7 (Nat.le_refl 7) i i j hi hi hj l1 l2)
theorem tv_tri {A : tv_M} (hB : tv_B 21 A) {x y z : Nat} (hx : x < 7) (hy : y < 7) (hz : z < 7) (a1 : A x y < tv_T) (a2 : A y z < tv_T) (a3 : A z x < tv_T) (neg : A x y + A y z + A z x < 0) : ¬ tv_Good A := by
  intro hG
  have C := tv_closed hB hG 7 (Nat.le_refl 7)
  have d1 : tv_fw A 7 x y ≤ A x y := tv_fw_le A (Nat.zero_le 7) x y
  have d2 : tv_fw A 7 y z ≤ A y z := tv_fw_le A (Nat.zero_le 7) y z
  have d3 : tv_fw A 7 z x ≤ A z x := tv_fw_le A (Nat.zero_le 7) z x
  have c1 := C x z y hx hz hy (by omega) (by omega)
  have B7 := tv_fw_B hB (Nat.le_refl 7)
  have hb := tv_bd_le (Nat.le_refl 7)
  have f1 := B7 x y hx hy
  have f2 := B7 y z hy hz
  have hT : tv_T = 1000000000 := rfl
  have lt : tv_fw A 7 x z < tv_T := by omega
  have c2 := C x x z hx hx hz lt (by omega)
  have g := hG x hx
  omega
theorem tv_fw_congr {A B : tv_M} (h : ∀ i j, i < 7 → j < 7 → A i j = B i j) {k : Nat} (hk : k ≤ 7) : ∀ i j, i < 7 → j < 7 → tv_fw A k i j = tv_fw B k i j :=
  fun i j hi hj => Int.le_antisymm (tv_fw_mono (fun i j hi hj => Int.le_of_eq (h i j hi hj)) hk i j hi hj) (tv_fw_mono (fun i j hi hj => Int.le_of_eq (h i j hi hj).symm) hk i j hi hj)
theorem tv_Good_congr {A B : tv_M} (h : ∀ i j, i < 7 → j < 7 → A i j = B i j) : tv_Good A → tv_Good B :=
  tv_Good_mono (fun i j hi hj => Int.le_of_eq (h i j hi hj))
/-- a meaning v makes a matrix good -/
theorem tv_pot {A : tv_M} (v : Nat → Int) (h : ∀ i j, i < 7 → j < 7 → v i - v j ≤ A i j) : ∀ k, k ≤ 7 → ∀ i j, i < 7 → j < 7 → v i - v j ≤ tv_fw A k i j := by
  intro k
  induction k with
  | zero => intro _; exact h
  | succ k ih =>
    intro hk i j hi hj
    have ih' := ih (by omega)
    have a1 := ih' i j hi hj
    have a2 := ih' i k hi (by omega)
    have a3 := ih' k j (by omega) hj
    show v i - v j ≤ tv_ph k (tv_fw A k) i j
    rcases tv_ph_cases k (tv_fw A k) i j with e | ⟨_, _, e⟩
    · rw [e]; exact a1
    · rw [e]; omega
theorem tv_pot_Good {A : tv_M} (v : Nat → Int) (h : ∀ i j, i < 7 → j < 7 → v i - v j ≤ A i j) : tv_Good A := by
  intro t ht
  have := tv_pot v h 7 (Nat.le_refl 7) t t ht ht
  omega
theorem tv_ph_col {w : Nat} {A : tv_M} (h0 : A w w = 0) (i : Nat) : tv_ph w A i w = A i w := by
  rcases tv_ph_cases w A i w with q | ⟨_, _, q⟩
  · exact q
  · rw [q]; omega
theorem tv_ph_row {w : Nat} {A : tv_M} (h0 : A w w = 0) (j : Nat) : tv_ph w A w j = A w j := by
  rcases tv_ph_cases w A w j with q | ⟨_, _, q⟩
  · exact q
  · rw [q]; omega
/-- the reference's phase: no guard, top 1000000 that drifts -/
def tv_yp (w : Nat) (B : tv_M) : tv_M := fun i j => if B i w + B w j < B i j then B i w + B w j else B i j
def tv_yw (B : tv_M) : Nat → tv_M
  | 0 => B
  | k + 1 => tv_yp k (tv_yw B k)
theorem tv_yp_col {w : Nat} {A : tv_M} (h0 : A w w = 0) (i : Nat) : tv_yp w A i w = A i w := by
  unfold tv_yp; split <;> omega
theorem tv_yp_row {w : Nat} {A : tv_M} (h0 : A w w = 0) (j : Nat) : tv_yp w A w j = A w j := by
  unfold tv_yp; split <;> omega
def tv_E (b x y : Int) : Prop := (x = 1000000000 ∧ 1000000 - b ≤ y ∧ y ≤ 1000000) ∨ (x = y ∧ -b ≤ x ∧ x ≤ b)
def tv_EM (b : Int) (A B : tv_M) : Prop := ∀ i j, i < 7 → j < 7 → tv_E b (A i j) (B i j)
theorem tv_E_step {b a1 a2 a3 y1 y2 y3 : Int} (hb : 0 ≤ b) (hb2 : b ≤ 1344) (h1 : tv_E b a1 y1) (h2 : tv_E b a2 y2) (h3 : tv_E b a3 y3) :
    tv_E (2 * b) (if a2 < 1000000000 ∧ a3 < 1000000000 ∧ a2 + a3 < a1 then a2 + a3 else a1) (if y2 + y3 < y1 then y2 + y3 else y1) := by
  unfold tv_E at *
  by_cases c : a2 < 1000000000 ∧ a3 < 1000000000 ∧ a2 + a3 < a1
  · rw [if_pos c]
    by_cases d : y2 + y3 < y1
    · rw [if_pos d]; omega
    · rw [if_neg d]; omega
  · rw [if_neg c]
    by_cases d : y2 + y3 < y1
    · rw [if_pos d]; omega
    · rw [if_neg d]; omega
theorem tv_EM_step {b : Int} {A B : tv_M} {w : Nat} (hw : w < 7) (hb : 0 ≤ b) (hb2 : b ≤ 1344) (h : tv_EM b A B) : tv_EM (2 * b) (tv_ph w A) (tv_yp w B) := by
  intro i j hi hj
  exact tv_E_step hb hb2 (h i j hi hj) (h i w hi hw) (h w j hw hj)
theorem tv_bd_le6 {k : Nat} (h : k < 7) : tv_bd k ≤ 1344 := (by decide +kernel : ∀ k, k < 7 → tv_bd k ≤ 1344) k h
theorem tv_EM_fw {A B : tv_M} (h : tv_EM 21 A B) : ∀ k, k ≤ 7 → tv_EM (tv_bd k) (tv_fw A k) (tv_yw B k) := by
  intro k
  induction k with
  | zero => intro _; exact h
  | succ k ih => intro hk; exact tv_EM_step (by omega) (tv_bd_pos k) (tv_bd_le6 (by omega)) (ih (by omega))
/-- a table of 49 cells holds a matrix; or has a negative cell on its diagonal -/
def tv_is (b : Nat → Int32) (A : tv_M) : Prop := ∀ i j, i < 7 → j < 7 → (b (7 * i + j)).toInt = A i j
def tv_neg (b : Nat → Int32) : Prop := ∃ t, t < 7 ∧ (b (7 * t + t)).toInt < 0
def tv_mix (A B : tv_M) (c : Nat) : tv_M := fun i j => if 7 * i + j < c then B i j else A i j
theorem tv_is_upd {b : Nat → Int32} {A B : tv_M} {t u : Nat} {v : Int32} (ht : t < 7) (hu : u < 7) (h : tv_is b A) (hv : v.toInt = B t u) (hB : ∀ i j, i < 7 → j < 7 → ¬ (i = t ∧ j = u) → B i j = A i j) : tv_is (upd b (7 * t + u) v) B := by
  intro i j hi hj
  by_cases e : 7 * i + j = 7 * t + u
  · have e1 : i = t := by omega
    have e2 : j = u := by omega
    subst e1; subst e2
    rw [pk_us]; exact hv
  · rw [pk_un e, hB i j hi hj (by omega)]; exact h i j hi hj
theorem tv_neg_upd {b : Nat → Int32} {k : Nat} {v : Int32} (h : tv_neg b) (hv : v.toInt ≤ (b k).toInt) : tv_neg (upd b k v) := by
  obtain ⟨t, ht, h⟩ := h
  refine ⟨t, ht, ?_⟩
  by_cases e : 7 * t + t = k
  · subst e; rw [pk_us]; omega
  · rw [pk_un e]; exact h
theorem tv_mix_S {b : Nat → Int32} {A B : tv_M} {t u : Nat} {v : Int32} (ht : t < 7) (hu : u < 7) (h : tv_is b (tv_mix A B (7 * t + u))) (hv : v.toInt = B t u) : tv_is (upd b (7 * t + u) v) (tv_mix A B (7 * t + u + 1)) := by
  refine tv_is_upd ht hu h ?_ ?_
  · rw [hv]; unfold tv_mix; rw [if_pos (by omega)]
  · intro i j hi hj e
    unfold tv_mix
    by_cases c : 7 * i + j < 7 * t + u
    · rw [if_pos c, if_pos (by omega)]
    · rw [if_neg c, if_neg (by omega)]
theorem tv_mix_N {b : Nat → Int32} {A B : tv_M} {t u : Nat} (ht : t < 7) (hu : u < 7) (h : tv_is b (tv_mix A B (7 * t + u))) (hv : B t u = A t u) : tv_is b (tv_mix A B (7 * t + u + 1)) := by
  intro i j hi hj
  rw [h i j hi hj]
  unfold tv_mix
  by_cases c : 7 * i + j < 7 * t + u
  · rw [if_pos c, if_pos (by omega)]
  · rw [if_neg c]
    by_cases e : 7 * i + j = 7 * t + u
    · have e1 : i = t := by omega
      have e2 : j = u := by omega
      subst e1; subst e2
      rw [if_pos (by omega), hv]
    · rw [if_neg (by omega)]
theorem tv_mix_0 {b : Nat → Int32} {A B : tv_M} (h : tv_is b A) : tv_is b (tv_mix A B 0) := by
  intro i j hi hj
  rw [h i j hi hj]; unfold tv_mix; rw [if_neg (by omega)]
theorem tv_mix_49 {b : Nat → Int32} {A B : tv_M} (h : tv_is b (tv_mix A B 49)) : tv_is b B := by
  intro i j hi hj
  rw [h i j hi hj]; unfold tv_mix; rw [if_pos (by omega)]
theorem tv_mix_eq {A B : tv_M} {c i j : Nat} (h : B i j = A i j) : tv_mix A B c i j = A i j := by
  unfold tv_mix; split
  · exact h
  · rfl
end
section
def tv_ti (A : tv_M) (t u : Nat) (v : Int) : tv_M := fun i j => if i = t ∧ j = u ∧ v < A i j then v else A i j
def tv_tl (A : tv_M) : List (Nat × Nat × Int) → tv_M
  | [] => A
  | c :: l => tv_tl (tv_ti A c.1 c.2.1 c.2.2) l
theorem tv_tl_app (l1 l2 : List (Nat × Nat × Int)) : ∀ A : tv_M, tv_tl A (l1 ++ l2) = tv_tl (tv_tl A l1) l2 := by
  induction l1 with
  | nil => intro A; rfl
  | cons c l ih => intro A; exact ih _
def tv_best (i j : Nat) : Int → List (Nat × Nat × Int) → Int
  | b, [] => b
  | b, c :: l => tv_best i j (if i = c.1 ∧ j = c.2.1 ∧ c.2.2 < b then c.2.2 else b) l
theorem tv_tl_best (i j : Nat) (l : List (Nat × Nat × Int)) : ∀ A : tv_M, tv_tl A l i j = tv_best i j (A i j) l := by
  induction l with
  | nil => intro A; rfl
  | cons c l ih => intro A; exact ih _
def tv_min (a b : Int) : Int := if b < a then b else a
theorem tv_best_min (i j : Nat) (l : List (Nat × Nat × Int)) : ∀ a b : Int, tv_best i j (tv_min a b) l = tv_min a (tv_best i j b l) := by
  induction l with
  | nil => intro a b; rfl
  | cons c l ih =>
    intro a b
    show tv_best i j (if i = c.1 ∧ j = c.2.1 ∧ c.2.2 < tv_min a b then c.2.2 else tv_min a b) l = tv_min a (tv_best i j (if i = c.1 ∧ j = c.2.1 ∧ c.2.2 < b then c.2.2 else b) l)
    rw [← ih]
    refine congrArg (fun z => tv_best i j z l) ?_
    by_cases h : i = c.1 ∧ j = c.2.1
    · have e1 : ∀ q : Prop, (i = c.1 ∧ j = c.2.1 ∧ q) ↔ q := fun q => ⟨fun z => z.2.2, fun z => ⟨h.1, h.2, z⟩⟩
      simp only [e1]
      unfold tv_min
      by_cases d1 : b < a <;> by_cases d2 : c.2.2 < b <;> by_cases d3 : c.2.2 < a <;> simp only [d1, d2, d3, if_true, if_false] <;> omega
    · have h1 : ∀ q : Prop, ¬ (i = c.1 ∧ j = c.2.1 ∧ q) := fun q z => h ⟨z.1, z.2.1⟩
      rw [if_neg (h1 _), if_neg (h1 _)]
theorem tv_tl_T {A : tv_M} {i j : Nat} (l : List (Nat × Nat × Int)) (h : A i j ≤ 1000000000) : tv_tl A l i j = tv_min (A i j) (tv_best i j 1000000000 l) := by
  rw [tv_tl_best, ← tv_best_min]
  refine congrArg (fun z => tv_best i j z l) ?_
  unfold tv_min; split <;> omega
/-- atoms: L, R terms, O offsets, pattern p, top T -/
def tv_at (T : Int) (L R : Nat → Nat) (O : Nat → Int) (p : Nat) : Nat → tv_M
  | 0 => fun i j => if i = j then 0 else T
  | m + 1 => if p / 2 ^ m % 2 = 1 then tv_ti (tv_at T L R O p m) (L m) (R m) (O m) else tv_ti (tv_at T L R O p m) (R m) (L m) (-O m - 1)
def tv_cx1 (x y r : Nat) : List (Nat × Nat × Int) :=
  if r = 0 then [(x, y, -1)] else if r = 1 then [(x, y, 0), (y, x, 0), (x + 3, y + 3, 0), (y + 3, x + 3, 0)] else [(y, x, -1)]
def tv_cx (o : Nat) : List (Nat × Nat × Int) := tv_cx1 0 1 (o % 3) ++ (tv_cx1 0 2 (o / 3 % 3) ++ tv_cx1 1 2 (o / 9))
def tv_rk (o x : Nat) : Nat := if x = 0 then o % 3 else if x = 1 then o / 3 % 3 else o / 9
def tv_cy1 (o q : Nat) : List (Nat × Nat × Int) :=
  (if tv_rk o (q / 3) ≤ tv_rk o (q % 3) then [(q / 3, q % 3, if tv_rk o (q / 3) < tv_rk o (q % 3) then (-1 : Int) else 0)] else []) ++
  (if tv_rk o (q / 3) = tv_rk o (q % 3) then [(q / 3 + 3, q % 3 + 3, (0 : Int))] else [])
def tv_cy (o : Nat) : Nat → List (Nat × Nat × Int)
  | 0 => []
  | q + 1 => tv_cy o q ++ tv_cy1 o q
def tv_io (o : Nat) : Bool :=
  ((1 <<< tv_rk o 0) ||| ((1 <<< tv_rk o 1) ||| (1 <<< tv_rk o 2))) == 1 || (((1 <<< tv_rk o 0) ||| ((1 <<< tv_rk o 1) ||| (1 <<< tv_rk o 2))) == 3 || ((1 <<< tv_rk o 0) ||| ((1 <<< tv_rk o 1) ||| (1 <<< tv_rk o 2))) == 7)
def tv_rl (a b : Nat) : Nat := if a < b then 0 else if a = b then 1 else 2
def tv_tau (o : Nat) : Nat := tv_rl (tv_rk o 0) (tv_rk o 1) + 3 * tv_rl (tv_rk o 0) (tv_rk o 2) + 9 * tv_rl (tv_rk o 1) (tv_rk o 2)
theorem tv_T1a : ∀ r, r < 27 → tv_io r = true → tv_tau r < 27 := by decide +kernel
theorem tv_T1b : ∀ r, r < 27 → tv_io r = true → ∀ i, i < 7 → ∀ j, j < 7 → i = j ∨ tv_best i j 1000000000 (tv_cx (tv_tau r)) = tv_best i j 1000000000 (tv_cy r 9) := by decide +kernel
theorem tv_T1c : ∀ r, r < 27 → tv_io r = true → ∀ i, i < 7 → 0 ≤ tv_best i i 1000000000 (tv_cx (tv_tau r)) ∧ 0 ≤ tv_best i i 1000000000 (tv_cy r 9) := by decide +kernel
theorem tv_T2 : ∀ o, o < 27 → (∃ r, r < 27 ∧ tv_io r = true ∧ tv_tau r = o) ∨
    (tv_best 0 1 1000000000 (tv_cx o) ≤ 0 ∧ tv_best 1 2 1000000000 (tv_cx o) ≤ 0 ∧ tv_best 2 0 1000000000 (tv_cx o) ≤ 0 ∧ tv_best 0 1 1000000000 (tv_cx o) + tv_best 1 2 1000000000 (tv_cx o) + tv_best 2 0 1000000000 (tv_cx o) < 0) ∨
    (tv_best 0 2 1000000000 (tv_cx o) ≤ 0 ∧ tv_best 2 1 1000000000 (tv_cx o) ≤ 0 ∧ tv_best 1 0 1000000000 (tv_cx o) ≤ 0 ∧ tv_best 0 2 1000000000 (tv_cx o) + tv_best 2 1 1000000000 (tv_cx o) + tv_best 1 0 1000000000 (tv_cx o) < 0) := by
  have e : ∀ o, o < 27 → ((List.range 27).any (fun r => tv_io r && tv_tau r == o) = true) ∨
    (tv_best 0 1 1000000000 (tv_cx o) ≤ 0 ∧ tv_best 1 2 1000000000 (tv_cx o) ≤ 0 ∧ tv_best 2 0 1000000000 (tv_cx o) ≤ 0 ∧ tv_best 0 1 1000000000 (tv_cx o) + tv_best 1 2 1000000000 (tv_cx o) + tv_best 2 0 1000000000 (tv_cx o) < 0) ∨
    (tv_best 0 2 1000000000 (tv_cx o) ≤ 0 ∧ tv_best 2 1 1000000000 (tv_cx o) ≤ 0 ∧ tv_best 1 0 1000000000 (tv_cx o) ≤ 0 ∧ tv_best 0 2 1000000000 (tv_cx o) + tv_best 2 1 1000000000 (tv_cx o) + tv_best 1 0 1000000000 (tv_cx o) < 0) := by decide +kernel
  intro o ho
  rcases e o ho with h | h
  · left
    rw [List.any_eq_true] at h
    obtain ⟨r, hr, h⟩ := h
    rw [Bool.and_eq_true] at h
    exact ⟨r, List.mem_range.mp hr, h.1, eq_of_beq h.2⟩
  · exact Or.inr h
/-- lists of small constraints -/
def tv_sm (l : List (Nat × Nat × Int)) : Prop := ∀ c, c ∈ l → -21 ≤ c.2.2 ∧ c.2.2 ≤ 21
theorem tv_smX : ∀ o, o < 27 → tv_sm (tv_cx o) := by
  have h : ∀ o, o < 27 → ((tv_cx o).all (fun c => decide (-21 ≤ c.2.2 ∧ c.2.2 ≤ 21)) = true) := by decide +kernel
  intro o ho c hc
  exact of_decide_eq_true (List.all_eq_true.mp (h o ho) c hc)
theorem tv_smY : ∀ o, o < 27 → tv_sm (tv_cy o 9) := by
  have h : ∀ o, o < 27 → ((tv_cy o 9).all (fun c => decide (-21 ≤ c.2.2 ∧ c.2.2 ≤ 21)) = true) := by decide +kernel
  intro o ho c hc
  exact of_decide_eq_true (List.all_eq_true.mp (h o ho) c hc)
theorem tv_ti_B {A : tv_M} {t u : Nat} {v : Int} (h : tv_B 21 A) (hv : -21 ≤ v ∧ v ≤ 21) : tv_B 21 (tv_ti A t u v) := by
  intro i j hi hj
  unfold tv_ti
  split
  · exact Or.inr hv
  · exact h i j hi hj
theorem tv_tl_B (l : List (Nat × Nat × Int)) : ∀ A : tv_M, tv_sm l → tv_B 21 A → tv_B 21 (tv_tl A l) := by
  induction l with
  | nil => intro A _ h; exact h
  | cons c l ih =>
    intro A hs h
    exact ih _ (fun d hd => hs d (List.mem_cons_of_mem _ hd)) (tv_ti_B h (hs c (List.mem_cons_self ..)))
theorem tv_ti_E {A B : tv_M} {t u : Nat} {v : Int} (h : tv_EM 21 A B) (hv : -21 ≤ v ∧ v ≤ 21) : tv_EM 21 (tv_ti A t u v) (tv_ti B t u v) := by
  intro i j hi hj
  have h1 := h i j hi hj
  unfold tv_ti
  unfold tv_E at *
  by_cases e : i = t ∧ j = u
  · have e1 : ∀ q : Prop, (i = t ∧ j = u ∧ q) ↔ q := fun q => ⟨fun z => z.2.2, fun z => ⟨e.1, e.2, z⟩⟩
    simp only [e1]
    by_cases d1 : v < A i j
    · rw [if_pos d1]
      by_cases d2 : v < B i j
      · rw [if_pos d2]; exact Or.inr ⟨rfl, hv.1, hv.2⟩
      · exfalso; omega
    · rw [if_neg d1]
      by_cases d2 : v < B i j
      · exfalso; omega
      · rw [if_neg d2]; exact h1
  · have h1' : ∀ q : Prop, ¬ (i = t ∧ j = u ∧ q) := fun q z => e ⟨z.1, z.2.1⟩
    rw [if_neg (h1' _), if_neg (h1' _)]; exact h1
theorem tv_tl_E (l : List (Nat × Nat × Int)) : ∀ A B : tv_M, tv_sm l → tv_EM 21 A B → tv_EM 21 (tv_tl A l) (tv_tl B l) := by
  induction l with
  | nil => intro A B _ h; exact h
  | cons c l ih =>
    intro A B hs h
    exact ih _ _ (fun d hd => hs d (List.mem_cons_of_mem _ hd)) (tv_ti_E h (hs c (List.mem_cons_self ..)))
/-- atoms as they are stored: terms 0 .. 6 that differ, offsets -20 .. 20 -/
def tv_va (L R : Nat → Nat) (O : Nat → Int) (n : Nat) : Prop := ∀ i, i < n → L i < 7 ∧ R i < 7 ∧ L i ≠ R i ∧ -20 ≤ O i ∧ O i ≤ 20
theorem tv_at_B {L R : Nat → Nat} {O : Nat → Int} {p n : Nat} (h : tv_va L R O n) : ∀ m, m ≤ n → tv_B 21 (tv_at 1000000000 L R O p m) := by
  intro m
  induction m with
  | zero =>
    intro _ i j _ _
    show (if i = j then (0 : Int) else 1000000000) = tv_T ∨ _
    by_cases e : i = j
    · right; show -21 ≤ (if i = j then (0 : Int) else 1000000000) ∧ (if i = j then (0 : Int) else 1000000000) ≤ 21
      rw [if_pos e]; decide
    · left; rw [if_neg e]; rfl
  | succ m ih =>
    intro hm
    have hv := h m (by omega)
    show tv_B 21 (if p / 2 ^ m % 2 = 1 then _ else _)
    split
    · exact tv_ti_B (ih (by omega)) (by omega)
    · exact tv_ti_B (ih (by omega)) (by omega)
theorem tv_at_E {L R : Nat → Nat} {O : Nat → Int} {p n : Nat} (h : tv_va L R O n) : ∀ m, m ≤ n → tv_EM 21 (tv_at 1000000000 L R O p m) (tv_at 1000000 L R O p m) := by
  intro m
  induction m with
  | zero =>
    intro _ i j _ _
    show tv_E 21 (if i = j then (0 : Int) else 1000000000) (if i = j then (0 : Int) else 1000000)
    unfold tv_E
    by_cases e : i = j
    · rw [if_pos e, if_pos e]; omega
    · rw [if_neg e, if_neg e]; omega
  | succ m ih =>
    intro hm
    have hv := h m (by omega)
    show tv_EM 21 (if p / 2 ^ m % 2 = 1 then _ else _) (if p / 2 ^ m % 2 = 1 then _ else _)
    split
    · exact tv_ti_E (ih (by omega)) (by omega)
    · exact tv_ti_E (ih (by omega)) (by omega)
theorem tv_at_diag {T : Int} {L R : Nat → Nat} {O : Nat → Int} {p n : Nat} (h : tv_va L R O n) (i : Nat) : ∀ m, m ≤ n → tv_at T L R O p m i i = 0 := by
  intro m
  induction m with
  | zero => intro _; exact if_pos rfl
  | succ m ih =>
    intro hm
    have hv := h m (by omega)
    have e := ih (by omega)
    have q : ∀ t u v, t ≠ u → tv_ti (tv_at T L R O p m) t u v i i = 0 := by
      intro t u v htu
      unfold tv_ti
      rw [if_neg (by omega)]; exact e
    show (if p / 2 ^ m % 2 = 1 then tv_ti (tv_at T L R O p m) (L m) (R m) (O m) else tv_ti (tv_at T L R O p m) (R m) (L m) (-O m - 1)) i i = 0
    split
    · exact q _ _ _ hv.2.2.1
    · exact q _ _ _ (fun z => hv.2.2.1 z.symm)
theorem tv_at_congr {T : Int} {L R L' R' : Nat → Nat} {O O' : Nat → Int} {p p' n : Nat} (h : ∀ i, i < n → L i = L' i ∧ R i = R' i ∧ O i = O' i ∧ p / 2 ^ i % 2 = p' / 2 ^ i % 2) : ∀ m, m ≤ n → tv_at T L R O p m = tv_at T L' R' O' p' m := by
  intro m
  induction m with
  | zero => intro _; rfl
  | succ m ih =>
    intro hm
    obtain ⟨h1, h2, h3, h4⟩ := h m (by omega)
    show (if p / 2 ^ m % 2 = 1 then tv_ti (tv_at T L R O p m) (L m) (R m) (O m) else tv_ti (tv_at T L R O p m) (R m) (L m) (-O m - 1)) = (if p' / 2 ^ m % 2 = 1 then tv_ti (tv_at T L' R' O' p' m) (L' m) (R' m) (O' m) else tv_ti (tv_at T L' R' O' p' m) (R' m) (L' m) (-O' m - 1))
    rw [ih (by omega), h1, h2, h3, h4]
theorem tv_at_le {T : Int} {L R : Nat → Nat} {O : Nat → Int} {p m : Nat} (i j : Nat) : tv_at T L R O p (m + 1) i j ≤ tv_at T L R O p m i j := by
  have q : ∀ t u v, tv_ti (tv_at T L R O p m) t u v i j ≤ tv_at T L R O p m i j := by
    intro t u v
    unfold tv_ti
    split <;> omega
  show (if p / 2 ^ m % 2 = 1 then tv_ti (tv_at T L R O p m) (L m) (R m) (O m) else tv_ti (tv_at T L R O p m) (R m) (L m) (-O m - 1)) i j ≤ _
  split
  · exact q _ _ _
  · exact q _ _ _
theorem tv_tl_le (l : List (Nat × Nat × Int)) (i j : Nat) : ∀ A : tv_M, tv_tl A l i j ≤ A i j := by
  induction l with
  | nil => intro A; exact Int.le_refl _
  | cons c l ih =>
    intro A
    refine Int.le_trans (ih _) ?_
    unfold tv_ti; split <;> omega
def tv_SX (L R : Nat → Nat) (O : Nat → Int) (n p o : Nat) : tv_M := tv_tl (tv_at 1000000000 L R O p n) (tv_cx o)
def tv_SY (T : Int) (L R : Nat → Nat) (O : Nat → Int) (n p r : Nat) : tv_M := tv_tl (tv_at T L R O p n) (tv_cy r 9)
section
variable {L R : Nat → Nat} {O : Nat → Int} {n p : Nat}
theorem tv_SX_B (h : tv_va L R O n) {o : Nat} (ho : o < 27) : tv_B 21 (tv_SX L R O n p o) := tv_tl_B _ _ (tv_smX o ho) (tv_at_B h n (Nat.le_refl n))
theorem tv_SY_B (h : tv_va L R O n) {o : Nat} (ho : o < 27) : tv_B 21 (tv_SY 1000000000 L R O n p o) := tv_tl_B _ _ (tv_smY o ho) (tv_at_B h n (Nat.le_refl n))
theorem tv_SY_E (h : tv_va L R O n) {o : Nat} (ho : o < 27) : tv_EM 21 (tv_SY 1000000000 L R O n p o) (tv_SY 1000000 L R O n p o) := tv_tl_E _ _ _ (tv_smY o ho) (tv_at_E h n (Nat.le_refl n))
theorem tv_SX_d (h : tv_va L R O n) (o i : Nat) : tv_SX L R O n p o i i ≤ 0 := Int.le_trans (tv_tl_le _ i i _) (Int.le_of_eq (tv_at_diag h i n (Nat.le_refl n)))
theorem tv_SY_d (h : tv_va L R O n) (o i : Nat) : tv_SY 1000000000 L R O n p o i i ≤ 0 := Int.le_trans (tv_tl_le _ i i _) (Int.le_of_eq (tv_at_diag h i n (Nat.le_refl n)))
theorem tv_at_top (h : tv_va L R O n) {i j : Nat} (hi : i < 7) (hj : j < 7) : tv_at 1000000000 L R O p n i j ≤ 1000000000 := by
  rcases tv_at_B (p := p) h n (Nat.le_refl n) i j hi hj with e | e
  · rw [e]; exact Int.le_refl _
  · omega
theorem tv_S_eq (h : tv_va L R O n) {r : Nat} (hr : r < 27) (hi : tv_io r = true) : ∀ i j, i < 7 → j < 7 → tv_SX L R O n p (tv_tau r) i j = tv_SY 1000000000 L R O n p r i j := by
  intro i j h1 h2
  unfold tv_SX tv_SY
  rw [tv_tl_T _ (tv_at_top h h1 h2), tv_tl_T _ (tv_at_top h h1 h2)]
  by_cases e : i = j
  · subst e
    have t2 := tv_T1c r hr hi i h1
    rw [tv_at_diag h i n (Nat.le_refl n)]
    unfold tv_min
    rw [if_neg (by omega), if_neg (by omega)]
  · rw [(tv_T1b r hr hi i h1 j h2).resolve_left e]
theorem tv_S_bad (h : tv_va L R O n) {o : Nat} (ho : o < 27) (hn : ¬ ∃ r, r < 27 ∧ tv_io r = true ∧ tv_tau r = o) : ¬ tv_Good (tv_SX L R O n p o) := by
  have le : ∀ i j, i < 7 → j < 7 → tv_SX L R O n p o i j ≤ tv_best i j 1000000000 (tv_cx o) := by
    intro i j hi hj
    unfold tv_SX
    rw [tv_tl_T _ (tv_at_top h hi hj)]
    unfold tv_min; split <;> omega
  have hT : tv_T = 1000000000 := rfl
  rcases tv_T2 o ho with t | ⟨t1, t2, t3, t4⟩ | ⟨t1, t2, t3, t4⟩
  · exact absurd t hn
  · have a1 := le 0 1 (by omega) (by omega)
    have a2 := le 1 2 (by omega) (by omega)
    have a3 := le 2 0 (by omega) (by omega)
    exact tv_tri (tv_SX_B h ho) (x := 0) (y := 1) (z := 2) (by omega) (by omega) (by omega) (by omega) (by omega) (by omega) (by omega)
  · have a1 := le 0 2 (by omega) (by omega)
    have a2 := le 2 1 (by omega) (by omega)
    have a3 := le 1 0 (by omega) (by omega)
    exact tv_tri (tv_SX_B h ho) (x := 0) (y := 2) (z := 1) (by omega) (by omega) (by omega) (by omega) (by omega) (by omega) (by omega)
theorem tv_toY (h : tv_va L R O n) {o : Nat} (ho : o < 27) (g : tv_Good (tv_SX L R O n p o)) : ∃ r, r < 27 ∧ tv_io r = true ∧ tv_Good (tv_SY 1000000000 L R O n p r) ∧ ∀ i j, i < 7 → j < 7 → tv_fw (tv_SX L R O n p o) 7 i j = tv_fw (tv_SY 1000000000 L R O n p r) 7 i j := by
  by_cases hn : ∃ r, r < 27 ∧ tv_io r = true ∧ tv_tau r = o
  · obtain ⟨r, hr, hi, e⟩ := hn
    have q := tv_S_eq (p := p) h hr hi
    rw [e] at q
    exact ⟨r, hr, hi, tv_Good_congr q g, tv_fw_congr q (Nat.le_refl 7)⟩
  · exact absurd g (tv_S_bad h ho hn)
theorem tv_toX (h : tv_va L R O n) {r : Nat} (hr : r < 27) (hi : tv_io r = true) (g : tv_Good (tv_SY 1000000000 L R O n p r)) : ∃ o, o < 27 ∧ tv_Good (tv_SX L R O n p o) ∧ ∀ i j, i < 7 → j < 7 → tv_fw (tv_SX L R O n p o) 7 i j = tv_fw (tv_SY 1000000000 L R O n p r) 7 i j := by
  have q := tv_S_eq (p := p) h hr hi
  exact ⟨tv_tau r, tv_T1a r hr hi, tv_Good_congr (fun i j hi hj => (q i j hi hj).symm) g, tv_fw_congr q (Nat.le_refl 7)⟩
end
/-- some meaning has pattern p over the first n atoms -/
def tv_Fe (L R : Nat → Nat) (O : Nat → Int) (n p : Nat) : Prop := ∃ o, o < 27 ∧ tv_Good (tv_SX L R O n p o)
theorem tv_Fe_Y {L R : Nat → Nat} {O : Nat → Int} {n p : Nat} (h : tv_va L R O n) : tv_Fe L R O n p ↔ ∃ r, r < 27 ∧ tv_io r = true ∧ tv_Good (tv_SY 1000000000 L R O n p r) := by
  constructor
  · intro ⟨o, ho, g⟩
    obtain ⟨r, hr, hi, g', _⟩ := tv_toY h ho g
    exact ⟨r, hr, hi, g'⟩
  · intro ⟨r, hr, hi, g⟩
    obtain ⟨o, ho, g', _⟩ := tv_toX h hr hi g
    exact ⟨o, ho, g'⟩
theorem tv_Fe_congr {L R L' R' : Nat → Nat} {O O' : Nat → Int} {p p' n : Nat} (h : ∀ i, i < n → L i = L' i ∧ R i = R' i ∧ O i = O' i ∧ p / 2 ^ i % 2 = p' / 2 ^ i % 2) : tv_Fe L R O n p ↔ tv_Fe L' R' O' n p' := by
  unfold tv_Fe tv_SX
  rw [tv_at_congr (T := 1000000000) h n (Nat.le_refl n)]
theorem tv_tl_mono (l : List (Nat × Nat × Int)) : ∀ A B : tv_M, (∀ i j, A i j ≤ B i j) → ∀ i j, tv_tl A l i j ≤ tv_tl B l i j := by
  induction l with
  | nil => intro A B h; exact h
  | cons c l ih =>
    intro A B h
    refine ih _ _ ?_
    intro i j
    have := h i j
    unfold tv_ti
    by_cases d1 : i = c.1 ∧ j = c.2.1 ∧ c.2.2 < A i j
    · rw [if_pos d1, if_pos ⟨d1.1, d1.2.1, by omega⟩]; exact Int.le_refl _
    · rw [if_neg d1]
      by_cases d2 : i = c.1 ∧ j = c.2.1 ∧ c.2.2 < B i j
      · rw [if_pos d2]
        have : ¬ c.2.2 < A i j := fun z => d1 ⟨d2.1, d2.2.1, z⟩
        omega
      · rw [if_neg d2]; exact this
theorem tv_Fe_step {L R : Nat → Nat} {O : Nat → Int} {n p : Nat} (h : tv_Fe L R O (n + 1) p) : tv_Fe L R O n p := by
  obtain ⟨o, ho, g⟩ := h
  exact ⟨o, ho, tv_Good_mono (fun i j _ _ => tv_tl_mono _ _ _ (fun i j => tv_at_le i j) i j) g⟩
theorem tv_bits : ∀ n, n < 8 → ∀ m, m < n → ∀ p, p < 2 ^ n → (p + 2 ^ n) / 2 ^ m % 2 = p / 2 ^ m % 2 := by decide +kernel
theorem tv_Fe_half {L R : Nat → Nat} {O : Nat → Int} {n p : Nat} (hn : n < 8) (hp : p < 2 ^ n) (h : tv_Fe L R O (n + 1) (p + 2 ^ n)) : tv_Fe L R O n p :=
  (tv_Fe_congr (fun i hi => ⟨rfl, rfl, rfl, tv_bits n hn i hi p hp⟩)).mp (tv_Fe_step h)
theorem tv_Fe_0 (L R : Nat → Nat) (O : Nat → Int) : tv_Fe L R O 0 0 := by
  refine ⟨13, by omega, tv_pot_Good (fun _ => 0) ?_⟩
  intro i j hi hj
  show (0 : Int) - 0 ≤ tv_SX L R O 0 0 13 i j
  have e : ∀ i, i < 7 → ∀ j, j < 7 → (0 : Int) ≤ tv_best i j (if i = j then 0 else 1000000000) (tv_cx 13) := by decide +kernel
  unfold tv_SX
  rw [tv_tl_best]
  have := e i hi j hj
  show (0 : Int) - 0 ≤ tv_best i j (if i = j then 0 else 1000000000) (tv_cx 13)
  omega
end
section
noncomputable def tv_fo {σ : Type} (G : Nat → Prop) (f : σ → Nat → σ) (s : σ) : Nat → σ
  | 0 => s
  | m + 1 => @ite σ (G m) (Classical.propDecidable (G m)) (f (tv_fo G f s m) m) (tv_fo G f s m)
theorem tv_fo_t {σ : Type} {G : Nat → Prop} {f : σ → Nat → σ} {s : σ} {m : Nat} (h : G m) : tv_fo G f s (m + 1) = f (tv_fo G f s m) m := if_pos h
theorem tv_fo_f {σ : Type} {G : Nat → Prop} {f : σ → Nat → σ} {s : σ} {m : Nat} (h : ¬ G m) : tv_fo G f s (m + 1) = tv_fo G f s m := if_neg h
theorem tv_fo_gap1 {σ : Type} {G : Nat → Prop} {f : σ → Nat → σ} {s : σ} {a : Nat} : ∀ d, (∀ q, a ≤ q → q < a + d → ¬ G q) → tv_fo G f s (a + d) = tv_fo G f s a := by
  intro d
  induction d with
  | zero => intro _; rfl
  | succ d ih =>
    intro h
    exact (tv_fo_f (h (a + d) (by omega) (by omega))).trans (ih (fun q h1 h2 => h q h1 (by omega)))
theorem tv_fo_gap {σ : Type} {G : Nat → Prop} {f : σ → Nat → σ} {s : σ} {a b : Nat} (hab : a ≤ b) (h : ∀ q, a ≤ q → q < b → ¬ G q) : tv_fo G f s b = tv_fo G f s a := by
  have e : b = a + (b - a) := by omega
  rw [e]
  exact tv_fo_gap1 (b - a) (fun q h1 h2 => h q h1 (by omega))
noncomputable def tv_cn (G : Nat → Prop) (m : Nat) : Nat := tv_fo G (fun c _ => c + 1) 0 m
theorem tv_cn_t {G : Nat → Prop} {m : Nat} (h : G m) : tv_cn G (m + 1) = tv_cn G m + 1 := tv_fo_t h
theorem tv_cn_f {G : Nat → Prop} {m : Nat} (h : ¬ G m) : tv_cn G (m + 1) = tv_cn G m := tv_fo_f h
theorem tv_cn_b (G : Nat → Prop) : ∀ m, tv_cn G m ≤ m := by
  intro m
  induction m with
  | zero => exact Nat.le_refl 0
  | succ m ih =>
    by_cases h : G m
    · rw [tv_cn_t h]; omega
    · rw [tv_cn_f h]; omega
theorem tv_cn_le {G H : Nat → Prop} : ∀ m, (∀ p, p < m → G p → H p) → tv_cn G m ≤ tv_cn H m := by
  intro m
  induction m with
  | zero => intro _; exact Nat.le_refl _
  | succ m ih =>
    intro h
    have i := ih (fun p hp => h p (by omega))
    by_cases g : G m
    · rw [tv_cn_t g, tv_cn_t (h m (by omega) g)]; omega
    · rw [tv_cn_f g]
      by_cases g' : H m
      · rw [tv_cn_t g']; omega
      · rw [tv_cn_f g']; exact i
theorem tv_cn_eq {G H : Nat → Prop} : ∀ m, (∀ p, p < m → G p → H p) → (tv_cn H m = tv_cn G m ↔ ∀ p, p < m → H p → G p) := by
  intro m
  induction m with
  | zero => intro _; exact ⟨fun _ p hp => absurd hp (by omega), fun _ => rfl⟩
  | succ m ih =>
    intro h
    have hm : ∀ p, p < m → G p → H p := fun p hp => h p (by omega)
    have i := ih hm
    have l := tv_cn_le m hm
    by_cases g : G m
    · have g' := h m (by omega) g
      rw [tv_cn_t g, tv_cn_t g']
      constructor
      · intro e p hp hh
        by_cases q : p = m
        · subst q; exact g
        · exact i.mp (by omega) p (by omega) hh
      · intro e
        have := i.mpr (fun p hp => e p (by omega))
        omega
    · rw [tv_cn_f g]
      by_cases g' : H m
      · rw [tv_cn_t g']
        constructor
        · intro e; omega
        · intro e; exact absurd (e m (by omega) g') g
      · rw [tv_cn_f g']
        constructor
        · intro e p hp hh
          by_cases q : p = m
          · subst q; exact absurd hh g'
          · exact i.mp e p (by omega) hh
        · intro e; exact i.mpr (fun p hp => e p (by omega))
theorem tv_fo_congr {σ : Type} {G H : Nat → Prop} {f : σ → Nat → σ} {s : σ} : ∀ m, (∀ p, p < m → (G p ↔ H p)) → tv_fo G f s m = tv_fo H f s m := by
  intro m
  induction m with
  | zero => intro _; rfl
  | succ m ih =>
    intro h
    have i := ih (fun p hp => h p (by omega))
    by_cases g : G m
    · rw [tv_fo_t g, tv_fo_t ((h m (by omega)).mp g), i]
    · rw [tv_fo_f g, tv_fo_f (fun z => g ((h m (by omega)).mpr z)), i]
/-- a truth as an int -/
noncomputable def tv_i (P : Prop) : Int32 := @ite Int32 P (Classical.propDecidable P) 1 0
theorem tv_i_t {P : Prop} (h : P) : tv_i P = 1 := if_pos h
theorem tv_i_f {P : Prop} (h : ¬ P) : tv_i P = 0 := if_neg h
theorem tv_i_0 {P : Prop} : tv_i P = 0 ↔ ¬ P := by
  by_cases h : P
  · rw [tv_i_t h]; exact ⟨fun z => absurd z (by decide), fun z => absurd h z⟩
  · rw [tv_i_f h]; exact ⟨fun _ => h, fun _ => rfl⟩
theorem tv_i_c {P Q : Prop} (h : P ↔ Q) : tv_i P = tv_i Q := by rw [propext h]
theorem tv_i_n (P : Prop) : narrow .boolean (.int (tv_i P)) = .int (tv_i P) := by
  by_cases h : P
  · rw [tv_i_t h]; rfl
  · rw [tv_i_f h]; rfl
theorem tv_addI {a b : Int32} (h1 : -2147483648 ≤ a.toInt + b.toInt) (h2 : a.toInt + b.toInt < 2147483648) : (a + b).toInt = a.toInt + b.toInt := by
  rw [Int32.toInt_add]
  exact Int.bmod_eq_of_le (by omega) (by omega)
theorem tv_negI {a : Int32} (h1 : -2147483648 < a.toInt) : (-a).toInt = -a.toInt := by
  have h2 := Int32.toInt_lt a
  rw [Int32.toInt_neg]
  exact Int.bmod_eq_of_le (by omega) (by omega)
theorem tv_subI {a b : Int32} (h1 : -2147483648 ≤ a.toInt - b.toInt) (h2 : a.toInt - b.toInt < 2147483648) : (a - b).toInt = a.toInt - b.toInt := by
  rw [Int32.toInt_sub]
  exact Int.bmod_eq_of_le (by omega) (by omega)
/-- bits of a pattern -/
theorem tv_bit {p i : Nat} (hp : p < 2147483648) (hi : i < 32) : (nI p >>> (nI i &&& 31)) &&& 1 = nI (p / 2 ^ i % 2) := by
  rw [pk_shrN hp _ i (s_l i hi)]
  have h : p / 2 ^ i ≤ p := Nat.div_le_self _ _
  have h2 : p / 2 ^ i < 2 ^ 32 := Nat.lt_of_le_of_lt h (by omega)
  exact pk_andN h2 1 (by decide)
theorem tv_pow {n : Nat} (h : n < 31) : (1 : Int32) <<< (nI n &&& 31) = nI (2 ^ n) := by
  have e : (1 : Int32) = nI 1 := rfl
  have h2 : 2 ^ n < 2 ^ 32 := Nat.pow_lt_pow_right (by decide) (by omega)
  rw [e, pk_shlN _ n (s_l n (by omega)) (by omega), Nat.one_mul]
/-- a clause by its two sets is met by p -/
def tv_xm (h f : Int32) (p : Nat) : Prop := ¬ (h &&& nI p) = 0 ∨ ¬ (f &&& (nI p ^^^ (-1))) = 0
def tv_lb (p j : Nat) : Prop := ¬ p / 2 ^ (j / 2) % 2 = j % 2
def tv_he (j : Nat) : Int32 := if j % 2 = 0 then nI (2 ^ (j / 2)) else 0
def tv_fa (j : Nat) : Int32 := if j % 2 = 1 then nI (2 ^ (j / 2)) else 0
theorem tv_or0 (x y : Int32) : x ||| y = 0 ↔ x = 0 ∧ y = 0 := by
  constructor
  · intro h
    have q : ∀ i, bt x i = false ∧ bt y i = false := by
      intro i
      have e : bt (x ||| y) i = false := by rw [h]; exact b_0 i
      rw [b_or] at e
      exact Bool.or_eq_false_iff.mp e
    exact ⟨b_ext (fun i _ => (q i).1.trans (b_0 i).symm), b_ext (fun i _ => (q i).2.trans (b_0 i).symm)⟩
  · rintro ⟨rfl, rfl⟩; rfl
theorem tv_and_or (x y z : Int32) : (x ||| y) &&& z = (x &&& z) ||| (y &&& z) := by
  apply b_ext
  intro i _
  rw [b_and, b_or, b_or, b_and, b_and]
  cases bt x i <;> cases bt y i <;> cases bt z i <;> rfl
theorem tv_xm_or (h f a b : Int32) (p : Nat) : tv_xm (h ||| a) (f ||| b) p ↔ tv_xm h f p ∨ tv_xm a b p := by
  unfold tv_xm
  rw [tv_and_or, tv_and_or, tv_or0, tv_or0]
  have key : ∀ P1 P2 P3 P4 : Prop, (¬ (P1 ∧ P2) ∨ ¬ (P3 ∧ P4)) ↔ ((¬ P1 ∨ ¬ P3) ∨ (¬ P2 ∨ ¬ P4)) := by
    intro P1 P2 P3 P4
    by_cases h1 : P1 <;> by_cases h2 : P2 <;> by_cases h3 : P3 <;> by_cases h4 : P4 <;> simp [h1, h2, h3, h4]
  exact key _ _ _ _
theorem tv_xm_0 (p : Nat) : ¬ tv_xm 0 0 p := by
  have z : ∀ x : Int32, (0 : Int32) &&& x = 0 := by
    intro x; apply b_ext; intro i _; rw [b_and, b_0]; rfl
  intro h
  rcases h with h | h
  · exact h (z _)
  · exact h (z _)
theorem tv_xm_lit {j p : Nat} (hj : j < 16) (hp : p < 256) : tv_xm (tv_he j) (tv_fa j) p ↔ tv_lb p j :=
  (by decide +kernel : ∀ j, j < 16 → ∀ p, p < 256 → ((¬ ((if j % 2 = 0 then nI (2 ^ (j / 2)) else 0) &&& nI p) = 0 ∨ ¬ ((if j % 2 = 1 then nI (2 ^ (j / 2)) else 0) &&& (nI p ^^^ (-1))) = 0) ↔ ¬ p / 2 ^ (j / 2) % 2 = j % 2)) j hj p hp
def tv_ym (lits : Nat → Int32) (base size p : Nat) : Prop := ∃ i, i < size ∧ tv_lb p (lits (base + i)).toNatClampNeg
def tv_li (lits : Nat → Int32) (base size : Nat) : Prop := ∀ i, i < size → ∃ j : Nat, j < 16 ∧ lits (base + i) = nI j
def tv_cl (h f : Int32) (lits : Nat → Int32) (base size : Nat) : Prop := tv_li lits base size ∧ ∀ p, p < 256 → (tv_xm h f p ↔ tv_ym lits base size p)
theorem tv_cl_congr {h f : Int32} {l l' : Nat → Int32} {b b' s : Nat} (e : ∀ i, i < s → l' (b' + i) = l (b + i)) (c : tv_cl h f l b s) : tv_cl h f l' b' s := by
  refine ⟨fun i hi => ?_, fun p hp => ?_⟩
  · rw [e i hi]; exact c.1 i hi
  · rw [c.2 p hp]
    constructor
    · rintro ⟨i, hi, q⟩; exact ⟨i, hi, by rw [e i hi]; exact q⟩
    · rintro ⟨i, hi, q⟩; exact ⟨i, hi, by rw [e i hi] at q; exact q⟩
theorem tv_cl_0 (l : Nat → Int32) (b : Nat) : tv_cl 0 0 l b 0 := by
  refine ⟨fun i hi => absurd hi (by omega), fun p _ => ⟨fun h => absurd h (tv_xm_0 p), ?_⟩⟩
  rintro ⟨i, hi, _⟩; omega
theorem tv_cl_add {h f : Int32} {l : Nat → Int32} {b s j : Nat} (c : tv_cl h f l b s) (hj : j < 16) : tv_cl (h ||| tv_he j) (f ||| tv_fa j) (upd l (b + s) (nI j)) b (s + 1) := by
  have e : ∀ i, i < s → upd l (b + s) (nI j) (b + i) = l (b + i) := fun i hi => pk_un (by omega)
  have e2 : upd l (b + s) (nI j) (b + s) = nI j := pk_us
  refine ⟨fun i hi => ?_, fun p hp => ?_⟩
  · by_cases q : i = s
    · subst q; exact ⟨j, hj, e2⟩
    · rw [e i (by omega)]; exact c.1 i (by omega)
  · rw [tv_xm_or, c.2 p hp, tv_xm_lit hj hp]
    constructor
    · rintro (⟨i, hi, q⟩ | q)
      · exact ⟨i, by omega, by rw [e i hi]; exact q⟩
      · exact ⟨s, by omega, by rw [e2, nI_clamp (by omega)]; exact q⟩
    · rintro ⟨i, hi, q⟩
      by_cases z : i = s
      · subst z; rw [e2, nI_clamp (by omega)] at q; exact Or.inr q
      · rw [e i (by omega)] at q; exact Or.inl ⟨i, by omega, q⟩
theorem tv_or_0 (x : Int32) : 0 ||| x = x := by
  apply b_ext; intro i _; rw [b_or, b_0]; rfl
theorem tv_cl_1 {l : Nat → Int32} {b j : Nat} (hj : j < 16) : tv_cl (tv_he j) (tv_fa j) (upd l b (nI j)) b 1 := by
  have := tv_cl_add (tv_cl_0 l b) hj
  rw [tv_or_0, tv_or_0] at this
  exact this
/-- the good patterns: real, and met by every clause but one -/
def tv_G (F : Nat → Prop) (M : Nat → Nat → Prop) (c : Nat) (but : Int32) (p : Nat) : Prop := F p ∧ ∀ k, k < c → ¬ nI k = but → M k p
end
section
/-- g is the greatest of the values P, or d if there is none -/
def tv_mx (P : Int → Prop) (d g : Int) : Prop := (g = d ∧ ∀ v, ¬ P v) ∨ (P g ∧ ∀ v, P v → v ≤ g)
theorem tv_mx_un {P Q P' : Int → Prop} {d g g' : Int} (hP : ∀ v, P v → d < v) (hQ : ∀ v, Q v → d < v) (h : tv_mx P d g) (h' : tv_mx Q d g') (e : ∀ v, P' v ↔ P v ∨ Q v) : (g < g' → tv_mx P' d g') ∧ (¬ g < g' → tv_mx P' d g) := by
  rcases h with ⟨h1, h2⟩ | ⟨h1, h2⟩ <;> rcases h' with ⟨k1, k2⟩ | ⟨k1, k2⟩
  · refine ⟨fun z => by omega, fun _ => Or.inl ⟨h1, fun v hv => ?_⟩⟩
    rcases (e v).mp hv with q | q
    · exact h2 v q
    · exact k2 v q
  · have := hQ _ k1
    refine ⟨fun _ => Or.inr ⟨(e _).mpr (Or.inr k1), fun v hv => ?_⟩, fun z => by omega⟩
    rcases (e v).mp hv with q | q
    · exact absurd q (h2 v)
    · exact k2 v q
  · have := hP _ h1
    refine ⟨fun z => by omega, fun _ => Or.inr ⟨(e _).mpr (Or.inl h1), fun v hv => ?_⟩⟩
    rcases (e v).mp hv with q | q
    · exact h2 v q
    · exact absurd q (k2 v)
  · refine ⟨fun z => Or.inr ⟨(e _).mpr (Or.inr k1), fun v hv => ?_⟩, fun z => Or.inr ⟨(e _).mpr (Or.inl h1), fun v hv => ?_⟩⟩
    · rcases (e v).mp hv with q | q
      · have := h2 v q; omega
      · exact k2 v q
    · rcases (e v).mp hv with q | q
      · exact h2 v q
      · have := k2 v q; omega
theorem tv_mx_1 (v d : Int) : tv_mx (fun w => w = v) d v := Or.inr ⟨rfl, fun w hw => by omega⟩
theorem tv_mx_c {P P' : Int → Prop} {d g : Int} (h : tv_mx P d g) (e : ∀ v, P' v ↔ P v) : tv_mx P' d g := by
  rcases h with ⟨h1, h2⟩ | ⟨h1, h2⟩
  · exact Or.inl ⟨h1, fun v hv => h2 v ((e v).mp hv)⟩
  · exact Or.inr ⟨(e g).mpr h1, fun v hv => h2 v ((e v).mp hv)⟩
theorem tv_mx_0 (d : Int) {P : Int → Prop} (h : ∀ v, ¬ P v) : tv_mx P d d := Or.inl ⟨rfl, h⟩
/-- what least answers -/
theorem tv_mx_XY {P Q : Int → Prop} {g g' : Int} (h : tv_mx P (-1000000000) g) (h' : tv_mx Q (-3000) g') (e1 : ∀ v, P v → ∃ w, Q w ∧ tv_E 2688 v w) (e2 : ∀ w, Q w → ∃ v, P v ∧ tv_E 2688 v w) :
    (g = -1000000000 ∧ g' = -3000) ∨ (g = 1000000000 ∧ 500000 < g' ∧ g' ≤ 1000000) ∨ (g = g' ∧ -2688 ≤ g ∧ g ≤ 2688) := by
  rcases h with ⟨h1, h2⟩ | ⟨h1, h2⟩
  · rcases h' with ⟨k1, k2⟩ | ⟨k1, k2⟩
    · exact Or.inl ⟨h1, k1⟩
    · obtain ⟨v, hv, _⟩ := e2 _ k1
      exact absurd hv (h2 v)
  · rcases h' with ⟨k1, k2⟩ | ⟨k1, k2⟩
    · obtain ⟨v, hv, _⟩ := e1 _ h1
      exact absurd hv (k2 v)
    · obtain ⟨w, hw, ew⟩ := e1 _ h1
      obtain ⟨v, hv, ev⟩ := e2 _ k1
      have a1 := h2 v hv
      have a2 := k2 w hw
      unfold tv_E at ew ev
      omega
/-- differing: the class asks for a positive bound, the reference for one that is not 0 -/
theorem tv_diff {S D' : tv_M} {t u : Nat} (ht : t < 7) (hu : u < 7) (hB : tv_B 21 S) (hG : tv_Good S) (hE : tv_EM 2688 (tv_fw S 7) D') : (¬ D' t u = 0 ∨ ¬ D' u t = 0) ↔ (0 < tv_fw S 7 t u ∨ 0 < tv_fw S 7 u t) := by
  have a := hE t u ht hu
  have b := hE u t hu ht
  have hT : tv_T = 1000000000 := rfl
  have B7 := tv_fw_B hB (Nat.le_refl 7)
  have hb := tv_bd_le (Nat.le_refl 7)
  have f1 := B7 t u ht hu
  have f2 := B7 u t hu ht
  unfold tv_E at a b
  constructor
  · intro h
    by_cases l1 : tv_fw S 7 t u < tv_T
    · by_cases l2 : tv_fw S 7 u t < tv_T
      · have := tv_pair hB hG ht hu l1 l2
        omega
      · right; omega
    · left; omega
  · intro h; omega
/-- stored atoms -/
abbrev tv_L (a : Nat → Int32) : Nat → Nat := fun i => (a i).toNatClampNeg
abbrev tv_O (a : Nat → Int32) : Nat → Int := fun i => (a i).toInt
def tv_av (aL aR aO : Nat → Int32) (n : Nat) : Prop := ∀ i, i < n → ∃ a b : Nat, a < 7 ∧ b < 7 ∧ a ≠ b ∧ aL i = nI a ∧ aR i = nI b ∧ -20 ≤ (aO i).toInt ∧ (aO i).toInt ≤ 20
theorem tv_av_va {aL aR aO : Nat → Int32} {n : Nat} (h : tv_av aL aR aO n) : tv_va (tv_L aL) (tv_L aR) (tv_O aO) n := by
  intro i hi
  obtain ⟨a, b, ha, hb, hab, e1, e2, h3, h4⟩ := h i hi
  show (aL i).toNatClampNeg < 7 ∧ (aR i).toNatClampNeg < 7 ∧ (aL i).toNatClampNeg ≠ (aR i).toNatClampNeg ∧ -20 ≤ (aO i).toInt ∧ (aO i).toInt ≤ 20
  rw [e1, e2, nI_clamp (by omega), nI_clamp (by omega)]
  exact ⟨ha, hb, hab, h3, h4⟩
theorem tv_av_le {aL aR aO : Nat → Int32} {n m : Nat} (h : tv_av aL aR aO n) (hm : m ≤ n) : tv_av aL aR aO m := fun i hi => h i (by omega)
/-- levels: saved counts -/
def tv_lv (lA lC : Nat → Int32) : Nat → Nat → Nat → Prop
  | 0, _, _ => True
  | l + 1, n, c => ∃ a b : Nat, a ≤ n ∧ b ≤ c ∧ lA l = nI a ∧ lC l = nI b ∧ tv_lv lA lC l a b
theorem tv_lv_up {lA lC : Nat → Int32} {l n c n' c' : Nat} (h : tv_lv lA lC l n c) (hn : n ≤ n') (hc : c ≤ c') : tv_lv lA lC l n' c' := by
  cases l with
  | zero => trivial
  | succ l =>
    obtain ⟨a, b, ha, hb, q⟩ := h
    exact ⟨a, b, by omega, by omega, q⟩
theorem tv_lv_congr {lA lC lA' lC' : Nat → Int32} : ∀ {l n c : Nat}, (∀ i, i < l → lA' i = lA i ∧ lC' i = lC i) → tv_lv lA lC l n c → tv_lv lA' lC' l n c := by
  intro l
  induction l with
  | zero => intro n c _ _; trivial
  | succ l ih =>
    intro n c e h
    obtain ⟨a, b, ha, hb, e1, e2, q⟩ := h
    exact ⟨a, b, ha, hb, (e l (by omega)).1.trans e1, (e l (by omega)).2.trans e2, ih (fun i hi => e i (by omega)) q⟩
theorem tv_lv_push {lA lC : Nat → Int32} {l n c : Nat} (h : tv_lv lA lC l n c) : tv_lv (upd lA l (nI n)) (upd lC l (nI c)) (l + 1) n c :=
  ⟨n, c, Nat.le_refl n, Nat.le_refl c, pk_us, pk_us, tv_lv_congr (fun i hi => ⟨pk_un (by omega), pk_un (by omega)⟩) h⟩
/-- the class's table of real patterns -/
def tv_rp (aL aR aO rl : Nat → Int32) (n : Nat) : Prop := ∀ m, m ≤ n → ∀ p, p < 2 ^ m → rl (2 ^ m + p) = tv_i (tv_Fe (tv_L aL) (tv_L aR) (tv_O aO) m p)
/-- the real patterns over n atoms -/
def tv_F (aL aR aO : Nat → Int32) (n p : Nat) : Prop := p < 2 ^ n ∧ tv_Fe (tv_L aL) (tv_L aR) (tv_O aO) n p
def tv_kn (aL aR aO fe : Nat → Int32) (kn : Int32) (n : Nat) : Prop := ¬ kn = 0 → ∀ p, p < 256 → fe p = tv_i (tv_F aL aR aO n p)
def tv_cs (cH cF li sz : Nat → Int32) (c : Nat) : Prop := ∀ k, k < c → ∃ s : Nat, s ≤ 4 ∧ sz k = nI s ∧ tv_cl (cH k) (cF k) li (4 * k) s
end
section
theorem tv_lI {a b : Int32} : a < b ↔ a.toInt < b.toInt := Int32.lt_iff_toInt_lt
theorem tv_eI {a b : Int32} : a ≤ b ↔ a.toInt ≤ b.toInt := Int32.le_iff_toInt_le
theorem tv_TI : (1000000000 : Int32).toInt = 1000000000 := by decide +kernel
section
variable {S S' : tv_M} {w t u : Nat} {b : Nat → Int32} {f : Int32}
/-- between two phases; within a phase (cells below c are done); within a row of it -/
def tv_ic (S : tv_M) (w : Nat) (b : Nat → Int32) : Prop := tv_is b (tv_fw S w) ∨ (tv_neg b ∧ ¬ tv_Good S)
def tv_iv (S : tv_M) (w c : Nat) (b : Nat → Int32) : Prop := (tv_fw S w w w = 0 ∧ tv_is b (tv_mix (tv_fw S w) (tv_ph w (tv_fw S w)) c)) ∨ (tv_neg b ∧ ¬ tv_Good S)
def tv_ir (S : tv_M) (w t u : Nat) (f : Int32) (b : Nat → Int32) : Prop := (tv_fw S w w w = 0 ∧ tv_is b (tv_mix (tv_fw S w) (tv_ph w (tv_fw S w)) (7 * t + u)) ∧ f.toInt = tv_fw S w t w) ∨ (tv_neg b ∧ ¬ tv_Good S)
theorem tv_fw_d (hd : ∀ i, i < 7 → S i i ≤ 0) {i : Nat} (hi : i < 7) (k : Nat) : tv_fw S k i i ≤ 0 := Int.le_trans (tv_fw_le S (Nat.zero_le k) i i) (hd i hi)
theorem tv_fw_bad (hw : w < 7) (h : tv_fw S w w w < 0) : ¬ tv_Good S := by
  intro g
  have a := g w hw
  have b := tv_fw_le S (Nat.le_of_lt hw) w w
  omega
theorem tv_iv_start (hd : ∀ i, i < 7 → S i i ≤ 0) (hw : w < 7) (h : tv_ic S w b) : tv_iv S w 0 b := by
  rcases h with h | h
  · have a := tv_fw_d hd hw w
    by_cases e : tv_fw S w w w = 0
    · exact Or.inl ⟨e, tv_mix_0 h⟩
    · have e2 : tv_fw S w w w < 0 := by omega
      exact Or.inr ⟨⟨w, hw, by rw [h w w hw hw]; exact e2⟩, tv_fw_bad hw e2⟩
  · exact Or.inr h
theorem tv_iv_end (h : tv_iv S w 49 b) : tv_ic S (w + 1) b := by
  rcases h with h | h
  · exact Or.inl (tv_mix_49 h.2)
  · exact Or.inr h
theorem tv_ir_start (hw : w < 7) (ht : t < 7) (h : tv_iv S w (7 * t) b) : tv_ir S w t 0 (b (7 * t + w)) b := by
  rcases h with ⟨h1, h2⟩ | h
  · refine Or.inl ⟨h1, h2, ?_⟩
    rw [h2 t w ht hw]
    exact tv_mix_eq (tv_ph_col h1 t)
  · exact Or.inr h
theorem tv_ir_end (h : tv_ir S w t 7 f b) : tv_iv S w (7 * (t + 1)) b := by
  rcases h with ⟨h1, h2, _⟩ | h
  · exact Or.inl ⟨h1, h2⟩
  · exact Or.inr h
theorem tv_ir_skip (ht : t < 7) (hu : u ≤ 7) (hf : ¬ f.toInt < 1000000000) (h : tv_ir S w t u f b) : tv_ir S w t 7 f b := by
  rcases h with ⟨h1, h2, h3⟩ | h
  · refine Or.inl ⟨h1, ?_, h3⟩
    have hT : tv_T = 1000000000 := rfl
    have q : ∀ j, tv_ph w (tv_fw S w) t j = tv_fw S w t j := by
      intro j
      rcases tv_ph_cases w (tv_fw S w) t j with q | ⟨q, _, _⟩
      · exact q
      · omega
    intro i j hi hj
    rw [h2 i j hi hj]
    unfold tv_mix
    by_cases c1 : 7 * i + j < 7 * t + u
    · rw [if_pos c1]
      by_cases c2 : 7 * i + j < 7 * t + 7
      · rw [if_pos c2]
      · exact absurd c1 (by omega)
    · rw [if_neg c1]
      by_cases c2 : 7 * i + j < 7 * t + 7
      · rw [if_pos c2]
        have e : i = t := by omega
        subst e
        exact (q j).symm
      · rw [if_neg c2]
  · exact Or.inr h
theorem tv_ir_vals (hB : tv_B 21 S) (hw : w < 7) (ht : t < 7) (hu : u < 7) (h1 : tv_fw S w w w = 0) (h2 : tv_is b (tv_mix (tv_fw S w) (tv_ph w (tv_fw S w)) (7 * t + u))) :
    (b (7 * w + u)).toInt = tv_fw S w w u ∧ (b (7 * t + u)).toInt = tv_fw S w t u ∧ (tv_fw S w w u = 1000000000 ∨ (-1344 ≤ tv_fw S w w u ∧ tv_fw S w w u ≤ 1344)) ∧ (tv_fw S w t w = 1000000000 ∨ (-1344 ≤ tv_fw S w t w ∧ tv_fw S w t w ≤ 1344)) := by
  have B := tv_fw_B hB (Nat.le_of_lt hw)
  have bd := tv_bd_le6 hw
  have hT : tv_T = 1000000000 := rfl
  refine ⟨?_, ?_, ?_, ?_⟩
  · rw [h2 w u hw hu]; exact tv_mix_eq (tv_ph_row h1 u)
  · rw [h2 t u ht hu]; unfold tv_mix; rw [if_neg (by omega)]
  · have := B w u hw hu; omega
  · have := B t w ht hw; omega
theorem tv_ir_store (hB : tv_B 21 S) (hw : w < 7) (ht : t < 7) (hu : u < 7) (h : tv_ir S w t u f b) (hf : f < 1000000000) (hs : b (7 * w + u) < 1000000000) (hl : f + b (7 * w + u) < b (7 * t + u)) : tv_ir S w t (u + 1) f (upd b (7 * t + u) (f + b (7 * w + u))) := by
  rw [tv_lI, tv_TI] at hf hs
  rw [tv_lI] at hl
  rcases h with ⟨h1, h2, h3⟩ | h
  · obtain ⟨e1, e2, e3, e4⟩ := tv_ir_vals hB hw ht hu h1 h2
    have e : (f + b (7 * w + u)).toInt = tv_fw S w t w + tv_fw S w w u := by
      rw [tv_addI (by omega) (by omega), e1, h3]
    refine Or.inl ⟨h1, tv_mix_S ht hu h2 ?_, h3⟩
    rw [e] at hl ⊢
    have hT : tv_T = 1000000000 := rfl
    unfold tv_ph
    rw [if_pos ⟨by omega, by omega, by omega⟩]
  · exact Or.inr ⟨tv_neg_upd h.1 (by omega), h.2⟩
theorem tv_ir_keep (hB : tv_B 21 S) (hw : w < 7) (ht : t < 7) (hu : u < 7) (h : tv_ir S w t u f b) (hn : ¬ (f < 1000000000 ∧ b (7 * w + u) < 1000000000 ∧ f + b (7 * w + u) < b (7 * t + u))) : tv_ir S w t (u + 1) f b := by
  rw [tv_lI, tv_lI, tv_lI, tv_TI] at hn
  rcases h with ⟨h1, h2, h3⟩ | h
  · obtain ⟨e1, e2, e3, e4⟩ := tv_ir_vals hB hw ht hu h1 h2
    refine Or.inl ⟨h1, tv_mix_N ht hu h2 ?_, h3⟩
    have hT : tv_T = 1000000000 := rfl
    rcases tv_ph_cases w (tv_fw S w) t u with q | ⟨q1, q2, q3⟩
    · exact q
    · have e : (f + b (7 * w + u)).toInt = tv_fw S w t w + tv_fw S w w u := by
        rw [tv_addI (by omega) (by omega), e1, h3]
      have := tv_ph_le w (tv_fw S w) t u
      rw [e] at hn
      omega
  · exact Or.inr h
/-- the reference's cells -/
def tv_jc (S S' : tv_M) (w : Nat) (b : Nat → Int32) : Prop := tv_is b (tv_yw S' w) ∨ (tv_neg b ∧ ¬ tv_Good S)
def tv_jv (S S' : tv_M) (w c : Nat) (b : Nat → Int32) : Prop := (tv_yw S' w w w = 0 ∧ tv_is b (tv_mix (tv_yw S' w) (tv_yp w (tv_yw S' w)) c)) ∨ (tv_neg b ∧ ¬ tv_Good S)
theorem tv_jv_start (hE : tv_EM 21 S S') (hd : ∀ i, i < 7 → S i i ≤ 0) (hw : w < 7) (h : tv_jc S S' w b) : tv_jv S S' w 0 b := by
  rcases h with h | h
  · have a := tv_fw_d hd hw w
    have e0 := tv_EM_fw hE w (Nat.le_of_lt hw) w w hw hw
    have e1 : tv_yw S' w w w = tv_fw S w w w := by unfold tv_E at e0; omega
    by_cases e : tv_fw S w w w = 0
    · exact Or.inl ⟨e1.trans e, tv_mix_0 h⟩
    · have e2 : tv_fw S w w w < 0 := by omega
      exact Or.inr ⟨⟨w, hw, by rw [h w w hw hw, e1]; exact e2⟩, tv_fw_bad hw e2⟩
  · exact Or.inr h
theorem tv_jv_end (h : tv_jv S S' w 49 b) : tv_jc S S' (w + 1) b := by
  rcases h with h | h
  · exact Or.inl (tv_mix_49 h.2)
  · exact Or.inr h
theorem tv_jv_step (hE : tv_EM 21 S S') (hw : w < 7) (ht : t < 7) (hu : u < 7) (h : tv_jv S S' w (7 * t + u) b) :
    (b (7 * t + w) + b (7 * w + u) < b (7 * t + u) → tv_jv S S' w (7 * t + u + 1) (upd b (7 * t + u) (b (7 * t + w) + b (7 * w + u)))) ∧ (¬ b (7 * t + w) + b (7 * w + u) < b (7 * t + u) → tv_jv S S' w (7 * t + u + 1) (upd b (7 * t + u) (b (7 * t + u)))) := by
  rw [tv_lI]
  rcases h with ⟨h1, h2⟩ | h
  · have e1 : (b (7 * t + w)).toInt = tv_yw S' w t w := by rw [h2 t w ht hw]; exact tv_mix_eq (tv_yp_col h1 t)
    have e2 : (b (7 * w + u)).toInt = tv_yw S' w w u := by rw [h2 w u hw hu]; exact tv_mix_eq (tv_yp_row h1 u)
    have e3 : (b (7 * t + u)).toInt = tv_yw S' w t u := by rw [h2 t u ht hu]; unfold tv_mix; rw [if_neg (by omega)]
    have E := tv_EM_fw hE w (Nat.le_of_lt hw)
    have bd := tv_bd_le6 hw
    have bp := tv_bd_pos w
    have a1 := E t w ht hw
    have a2 := E w u hw hu
    unfold tv_E at a1 a2
    have e : (b (7 * t + w) + b (7 * w + u)).toInt = tv_yw S' w t w + tv_yw S' w w u := by
      rw [tv_addI (by omega) (by omega), e1, e2]
    rw [e, e3]
    constructor
    · intro z
      refine Or.inl ⟨h1, tv_mix_S ht hu h2 ?_⟩
      rw [e]; unfold tv_yp; rw [if_pos z]
    · intro z
      refine Or.inl ⟨h1, tv_mix_S ht hu h2 ?_⟩
      rw [e3]; unfold tv_yp; rw [if_neg z]
  · exact ⟨fun z => Or.inr ⟨tv_neg_upd h.1 (by omega), h.2⟩, fun z => Or.inr ⟨tv_neg_upd h.1 (Int.le_refl _), h.2⟩⟩
/-- the last look at the diagonal -/
theorem tv_ic_last (h : tv_ic S 7 b) : ((∀ t, t < 7 → ¬ (b (7 * t + t)).toInt < 0) → tv_Good S ∧ tv_is b (tv_fw S 7)) ∧ ((∃ t, t < 7 ∧ (b (7 * t + t)).toInt < 0) → ¬ tv_Good S) := by
  rcases h with h | h
  · constructor
    · intro z
      refine ⟨fun t ht => ?_, h⟩
      have := z t ht
      rw [h t t ht ht] at this
      omega
    · rintro ⟨t, ht, z⟩ g
      have := g t ht
      rw [h t t ht ht] at z
      omega
  · constructor
    · intro z
      obtain ⟨t, ht, q⟩ := h.1
      exact absurd q (z t ht)
    · intro _; exact h.2
theorem tv_jc_last (hE : tv_EM 21 S S') (hd : ∀ i, i < 7 → S i i ≤ 0) (h : tv_jc S S' 7 b) : ((∀ t, t < 7 → ¬ (b (7 * t + t)).toInt < 0) → tv_Good S ∧ tv_is b (tv_yw S' 7)) ∧ ((∃ t, t < 7 ∧ (b (7 * t + t)).toInt < 0) → ¬ tv_Good S) := by
  have q : ∀ t, t < 7 → tv_yw S' 7 t t = tv_fw S 7 t t := by
    intro t ht
    have a := tv_fw_d hd ht 7
    have e0 := tv_EM_fw hE 7 (Nat.le_refl 7) t t ht ht
    unfold tv_E at e0
    omega
  rcases h with h | h
  · constructor
    · intro z
      refine ⟨fun t ht => ?_, h⟩
      have := z t ht
      rw [h t t ht ht, q t ht] at this
      omega
    · rintro ⟨t, ht, z⟩ g
      have := g t ht
      rw [h t t ht ht, q t ht] at z
      omega
  · constructor
    · intro z
      obtain ⟨t, ht, q⟩ := h.1
      exact absurd q (z t ht)
    · intro _; exact h.2
end
end
section
theorem tv_7 (t u : Nat) : (7 : Int32) * nI t + nI u = nI (7 * t + u) := by
  show nI 7 * nI t + nI u = _
  rw [pk_mul, nI_add]
theorem tv_4 (t u : Nat) : (4 : Int32) * nI t + nI u = nI (4 * t + u) := by
  show nI 4 * nI t + nI u = _
  rw [pk_mul, nI_add]
theorem tv_40 (t : Nat) : (4 : Int32) * nI t = nI (4 * t) := by
  show nI 4 * nI t = _
  rw [pk_mul]
theorem tv_8 (t : Nat) : (8 : Int32) * nI t = nI (8 * t) := by
  show nI 8 * nI t = _
  rw [pk_mul]
theorem tv_2 (t : Nat) : (2 : Int32) * nI t = nI (2 * t) := by
  show nI 2 * nI t = _
  rw [pk_mul]
theorem tv_64 (t : Nat) : (64 : Int32) + nI t = nI (64 + t) := by
  show nI 64 + nI t = _
  rw [nI_add]
theorem tv_d2 {j : Nat} (h : j < 2 ^ 31) : nI j / 2 = nI (j / 2) := pk_div (d := 2) h (by decide) (by decide)
theorem tv_d3 {j : Nat} (h : j < 2 ^ 31) : nI j / 3 = nI (j / 3) := pk_div (d := 3) h (by decide) (by decide)
theorem tv_d9 {j : Nat} (h : j < 2 ^ 31) : nI j / 9 = nI (j / 9) := pk_div (d := 9) h (by decide) (by decide)
theorem tv_r2 {j : Nat} (h : j < 2 ^ 31) : nI j - nI j / 2 * 2 = nI (j % 2) := pk_rem (d := 2) h (by decide) (by decide)
theorem tv_r3 {j : Nat} (h : j < 2 ^ 31) : nI j - nI j / 3 * 3 = nI (j % 3) := pk_rem (d := 3) h (by decide) (by decide)
theorem tv_r7 {j : Nat} (h : j < 2 ^ 31) : nI j - nI j / 7 * 7 = nI (j % 7) := pk_rem (d := 7) h (by decide) (by decide)
theorem tv_r8 {j : Nat} (h : j < 2 ^ 31) : nI j - nI j / 8 * 8 = nI (j % 8) := pk_rem (d := 8) h (by decide) (by decide)
theorem tv_a1 {j : Nat} (h : j < 2 ^ 31) : nI j &&& 1 = nI (j % 2) := pk_andN (by omega) 1 (by decide)
theorem tv_s1 {j : Nat} (h : j < 2 ^ 31) : nI j >>> ((1 : Int32) &&& 31) = nI (j / 2) := pk_shrN h _ 1 (by decide)
theorem tv_p8 {n : Nat} (h : n ≤ 8) : 2 ^ n ≤ 256 := (by decide +kernel : ∀ n, n < 9 → 2 ^ n ≤ 256) n (by omega)
theorem tv_iot : ∀ r, r < 27 → (((nI (2 ^ tv_rk r 0) ||| nI (2 ^ tv_rk r 1)) ||| nI (2 ^ tv_rk r 2) = 1 ∨ (nI (2 ^ tv_rk r 0) ||| nI (2 ^ tv_rk r 1)) ||| nI (2 ^ tv_rk r 2) = 3 ∨ (nI (2 ^ tv_rk r 0) ||| nI (2 ^ tv_rk r 1)) ||| nI (2 ^ tv_rk r 2) = 7) ↔ tv_io r = true) := by decide +kernel
theorem tv_rk3 : ∀ r, r < 27 → ∀ x, x < 3 → tv_rk r x < 3 := by decide +kernel
end
section
theorem tv_off {x : Int32} (h1 : -20 ≤ x.toInt) (h2 : x.toInt ≤ 20) : (-x - 1).toInt = -x.toInt - 1 := by
  have e1 : (1 : Int32).toInt = 1 := by decide
  have e2 := tv_negI (a := x) (by omega)
  rw [tv_subI (by omega) (by omega), e2, e1]
theorem tv_m1 : (-1 : Int32).toInt = -1 := by decide
theorem tv_z0 : (0 : Int32).toInt = 0 := by decide
theorem tv_nle {a b : Int32} (h : ¬ a ≤ b) : b < a := Int32.not_le.mp h
theorem tv_q {m d : Nat} (h : d < m) : ∃ q, m = q + 1 := ⟨m - 1, by omega⟩
section
variable {fa fc fh ff fd fl : Int32} {aL aR aO cH cF lA lC rl bd : Nat → Int32}
theorem tx_tighten {post : SX → Prop} {A : tv_M} {t u : Nat} {v : Int32} (ht : t < 7) (hu : u < 7) (h : tv_is bd A) (K : ∀ b', tv_is b' (tv_ti A t u v.toInt) → post (fa, fc, fh, ff, fd, fl, aL, aR, aO, cH, cF, lA, lC, rl, b')) : wpX_tighten post (fa, fc, fh, ff, fd, fl, aL, aR, aO, cH, cF, lA, lC, rl, bd) (nI t) (nI u) v := by
  unfold wpX_tighten
  dsimp only
  rw [tv_7, nI_clamp (show 7 * t + u < 2 ^ 31 by omega)]
  have w : vp_in (nI (7 * t + u)) 49 := vp_in_nI (by omega) (by omega)
  have e := h t u ht hu
  refine ⟨w, ?_, ?_⟩
  · intro c
    rw [tv_eI, e] at c
    apply K
    intro i j hi hj
    rw [h i j hi hj]
    unfold tv_ti
    rw [if_neg]
    rintro ⟨rfl, rfl, z⟩
    omega
  · intro c
    rw [tv_eI, e] at c
    refine ⟨w, ?_⟩
    rintro _ rfl
    apply K
    refine tv_is_upd ht hu h ?_ ?_
    · unfold tv_ti; rw [if_pos ⟨rfl, rfl, by omega⟩]
    · intro i j hi hj z
      unfold tv_ti
      rw [if_neg (fun q => z ⟨q.1, q.2.1⟩)]
theorem tx_order {post : SX → Prop} {A : tv_M} {x y r : Nat} (hx : x < 3) (hy : y < 3) (hr : r < 3) (h : tv_is bd A) (K : ∀ b', tv_is b' (tv_tl A (tv_cx1 x y r)) → post (fa, fc, fh, ff, fd, fl, aL, aR, aO, cH, cF, lA, lC, rl, b')) : wpX_boundByOrder post (fa, fc, fh, ff, fd, fl, aL, aR, aO, cH, cF, lA, lC, rl, bd) (nI x) (nI y) (nI r) := by
  unfold wpX_boundByOrder
  dsimp only
  have a3 : ∀ z, nI z + 3 = nI (z + 3) := fun z => nI_add z 3
  rw [a3 x, a3 y]
  have e0 : nI r = 0 ↔ r = 0 := nI_eq (a := r) (b := 0) (by omega) (by omega)
  have e1 : nI r = 1 ↔ r = 1 := nI_eq (a := r) (b := 1) (by omega) (by omega)
  by_cases c0 : r = 0
  · have l : tv_cx1 x y r = [(x, y, -1)] := by unfold tv_cx1; rw [if_pos c0]
    refine br_t (e0.mpr c0) (tx_tighten (by omega) (by omega) h (fun b1 h1 => K b1 ?_))
    rw [l]; rw [tv_m1] at h1; exact h1
  · by_cases c1 : r = 1
    · have l : tv_cx1 x y r = [(x, y, 0), (y, x, 0), (x + 3, y + 3, 0), (y + 3, x + 3, 0)] := by unfold tv_cx1; rw [if_neg c0, if_pos c1]
      refine br_f (fun z => c0 (e0.mp z)) (br_t (e1.mpr c1) (tx_tighten (by omega) (by omega) h (fun b1 h1 => tx_tighten (by omega) (by omega) h1 (fun b2 h2 => tx_tighten (by omega) (by omega) h2 (fun b3 h3 => tx_tighten (by omega) (by omega) h3 (fun b4 h4 => K b4 ?_))))))
      rw [l]; rw [tv_z0] at h4; exact h4
    · have l : tv_cx1 x y r = [(y, x, -1)] := by unfold tv_cx1; rw [if_neg c0, if_neg c1]
      refine br_f (fun z => c0 (e0.mp z)) (br_f (fun z => c1 (e1.mp z)) (tx_tighten (by omega) (by omega) h (fun b1 h1 => K b1 ?_)))
      rw [l]; rw [tv_m1] at h1; exact h1
theorem tx_atoms2 {post : SX → Prop} {n p : Nat} (hn : n ≤ 8) (hp : p < 2147483648) (av : tv_av aL aR aO n) (K : ∀ b', tv_is b' (tv_at 1000000000 (tv_L aL) (tv_L aR) (tv_O aO) p n) → post (nI n, fc, fh, ff, fd, fl, aL, aR, aO, cH, cF, lA, lC, rl, b')) :
    ∀ (d i m : Nat) (b : Nat → Int32), i + d = n → d < m → tv_is b (tv_at 1000000000 (tv_L aL) (tv_L aR) (tv_O aO) p i) → wX_boundByAtoms_2 post (nI p) m (nI i) (nI n) fc fh ff fd fl aL aR aO cH cF lA lC rl b := by
  intro d
  induction d with
  | zero =>
    intro i m b hi hm h
    obtain ⟨m, rfl⟩ := tv_q hm
    have e : i = n := by omega
    subst e
    rw [wX_boundByAtoms_2]
    exact br_t (nI_le (Nat.le_refl _) (by omega)) (K b h)
  | succ d ih =>
    intro i m b hi hm h
    obtain ⟨m, rfl⟩ := tv_q hm
    obtain ⟨ta, tb, h1, h2, h3, e1, e2, e3, e4⟩ := av i (by omega)
    rw [wX_boundByAtoms_2]
    dsimp only
    have w : vp_in (nI i) 8 := vp_in_nI (by omega) (by omega)
    have ec : (nI i).toNatClampNeg = i := nI_clamp (by omega)
    have eL : tv_L aL i = ta := by show (aL i).toNatClampNeg = ta; rw [e1]; exact nI_clamp (by omega)
    have eR : tv_L aR i = tb := by show (aR i).toNatClampNeg = tb; rw [e2]; exact nI_clamp (by omega)
    rw [ec, e1, e2, tv_bit hp (by omega)]
    refine br_f (nI_ge (by omega) (by omega)) ?_
    by_cases c : p / 2 ^ i % 2 = 1
    · refine br_t (by rw [c]; rfl) ⟨w, w, w, tx_tighten h1 h2 h (fun b' hb => nm_r (nI_1 i) (ih (i + 1) m b' (by omega) (by omega) ?_))⟩
      show tv_is b' (if p / 2 ^ i % 2 = 1 then _ else _)
      rw [if_pos c, eL, eR]; exact hb
    · have c0 : p / 2 ^ i % 2 = 0 := by
        have := Nat.mod_lt (p / 2 ^ i) (show 0 < 2 by decide)
        omega
      refine br_f (by rw [c0]; decide) ⟨w, w, w, tx_tighten h2 h1 h (fun b' hb => nm_r (nI_1 i) (ih (i + 1) m b' (by omega) (by omega) ?_))⟩
      show tv_is b' (if p / 2 ^ i % 2 = 1 then _ else _)
      rw [tv_off e3 e4] at hb
      rw [if_neg c, eL, eR]; exact hb
theorem tx_atoms {post : SX → Prop} {n p : Nat} (hn : n ≤ 8) (hp : p < 2147483648) (av : tv_av aL aR aO n) (h : tv_is bd (tv_at 1000000000 (tv_L aL) (tv_L aR) (tv_O aO) p 0)) (K : ∀ b', tv_is b' (tv_at 1000000000 (tv_L aL) (tv_L aR) (tv_O aO) p n) → post (nI n, fc, fh, ff, fd, fl, aL, aR, aO, cH, cF, lA, lC, rl, b')) : wpX_boundByAtoms post (nI n, fc, fh, ff, fd, fl, aL, aR, aO, cH, cF, lA, lC, rl, bd) (nI p) := by
  unfold wpX_boundByAtoms
  exact ⟨n + 1, tx_atoms2 hn hp av K n 0 (n + 1) bd (by omega) (by omega) h⟩
theorem tx_drop24 {post : SX → Prop} (K : ∀ b', tv_is b' (fun i j => if i = j then 0 else 1000000000) → post (fa, fc, fh, ff, fd, fl, aL, aR, aO, cH, cF, lA, lC, rl, b')) :
    ∀ (d t m : Nat) (b : Nat → Int32), t + d = 7 → d < m → tv_is b (fun i j => if i = j ∧ i < t then 0 else 1000000000) → wX_dropBounds_24 post fa fc fh ff fd fl m (nI t) aL aR aO cH cF lA lC rl b := by
  intro d
  induction d with
  | zero =>
    intro t m b hi hm h
    obtain ⟨m, rfl⟩ := tv_q hm
    have e : t = 7 := by omega
    subst e
    rw [wX_dropBounds_24]
    refine br_t (nI_le (Nat.le_refl _) (by omega)) (K b ?_)
    intro i j h1 h2
    rw [h i j h1 h2]
    dsimp only
    by_cases z : i = j
    · rw [if_pos z, if_pos ⟨z, h1⟩]
    · rw [if_neg z, if_neg (fun q => z q.1)]
  | succ d ih =>
    intro t m b hi hm h
    obtain ⟨m, rfl⟩ := tv_q hm
    rw [wX_dropBounds_24]
    dsimp only
    rw [tv_7, nI_clamp (show 7 * t + t < 2 ^ 31 by omega)]
    refine br_f (nI_ge (b := 7) (by omega) (by decide)) ⟨vp_in_nI (by omega) (by omega), nm_e (nm_r (nI_1 t) (ih (t + 1) m _ (by omega) (by omega) ?_))⟩
    refine tv_is_upd (by omega) (by omega) h ?_ ?_
    · rw [if_pos ⟨rfl, by omega⟩]; exact tv_z0
    · intro i j h1 h2 z
      by_cases y : i = j
      · by_cases y2 : i < t
        · rw [if_pos ⟨y, by omega⟩, if_pos ⟨y, y2⟩]
        · rw [if_neg (by omega), if_neg (fun q => y2 q.2)]
      · rw [if_neg (fun q => y q.1), if_neg (fun q => y q.1)]
theorem tx_drop2 {post : SX → Prop} (K : ∀ b', tv_is b' (fun i j => if i = j then 0 else 1000000000) → post (fa, fc, fh, ff, fd, fl, aL, aR, aO, cH, cF, lA, lC, rl, b')) :
    ∀ (d k m : Nat) (b : Nat → Int32), k + d = 49 → d < m → (∀ q, q < k → b q = 1000000000) → wX_dropBounds_2 post fa fc fh ff fd fl m (nI k) aL aR aO cH cF lA lC rl b := by
  intro d
  induction d with
  | zero =>
    intro k m b hi hm h
    obtain ⟨m, rfl⟩ := tv_q hm
    have e : k = 49 := by omega
    subst e
    rw [wX_dropBounds_2]
    refine br_t (nI_le (Nat.le_refl _) (by omega)) ⟨8, tx_drop24 K 7 0 8 b (by omega) (by omega) ?_⟩
    intro i j h1 h2
    rw [h _ (by omega)]
    dsimp only
    rw [if_neg (by omega)]
    exact tv_TI
  | succ d ih =>
    intro k m b hi hm h
    obtain ⟨m, rfl⟩ := tv_q hm
    rw [wX_dropBounds_2]
    dsimp only
    rw [nI_clamp (show k < 2 ^ 31 by omega)]
    refine br_f (nI_ge (b := 49) (by omega) (by decide)) ⟨vp_in_nI (by omega) (by omega), nm_e (nm_r (nI_1 k) (ih (k + 1) m _ (by omega) (by omega) ?_))⟩
    intro q hq
    by_cases z : q = k
    · subst z; exact pk_us
    · rw [pk_un z]; exact h q (by omega)
theorem tx_drop {post : SX → Prop} (K : ∀ b', tv_is b' (fun i j => if i = j then 0 else 1000000000) → post (fa, fc, fh, ff, fd, fl, aL, aR, aO, cH, cF, lA, lC, rl, b')) : wpX_dropBounds post (fa, fc, fh, ff, fd, fl, aL, aR, aO, cH, cF, lA, lC, rl, bd) := by
  unfold wpX_dropBounds
  exact ⟨50, tx_drop2 K 49 0 50 bd (by omega) (by omega) (fun q hq => absurd hq (by omega))⟩
theorem tx_cl120 {post : Int32 → SX → Prop} (K1 : (∀ t, t < 7 → ¬ (bd (7 * t + t)).toInt < 0) → post 1 (fa, fc, fh, ff, fd, fl, aL, aR, aO, cH, cF, lA, lC, rl, bd)) (K0 : (∃ t, t < 7 ∧ (bd (7 * t + t)).toInt < 0) → post 0 (fa, fc, fh, ff, fd, fl, aL, aR, aO, cH, cF, lA, lC, rl, bd)) :
    ∀ d t m : Nat, t + d = 7 → d < m → (∀ q, q < t → ¬ (bd (7 * q + q)).toInt < 0) → wX_closeBounds_120 post fa fc fh ff fd fl aL aR aO cH cF lA lC rl bd m (nI t) := by
  intro d
  induction d with
  | zero =>
    intro t m hi hm h
    obtain ⟨m, rfl⟩ := tv_q hm
    have e : t = 7 := by omega
    subst e
    rw [wX_closeBounds_120]
    exact br_t (nI_le (Nat.le_refl _) (by omega)) (K1 h)
  | succ d ih =>
    intro t m hi hm h
    obtain ⟨m, rfl⟩ := tv_q hm
    rw [wX_closeBounds_120]
    dsimp only
    rw [tv_7, nI_clamp (show 7 * t + t < 2 ^ 31 by omega)]
    refine br_f (nI_ge (b := 7) (by omega) (by decide)) ⟨vp_in_nI (by omega) (by omega), ?_, ?_⟩
    · intro c
      rw [tv_eI, tv_z0] at c
      refine nm_r (nI_1 t) (ih (t + 1) m (by omega) (by omega) ?_)
      intro q hq
      by_cases z : q = t
      · subst z; omega
      · exact h q (by omega)
    · intro c
      rw [tv_eI, tv_z0] at c
      exact K0 ⟨t, by omega, by omega⟩
theorem tx_cl31 {post : Int32 → SX → Prop} {J2 J10 : Int32 → (Nat → Int32) → (Nat → Int32) → (Nat → Int32) → (Nat → Int32) → (Nat → Int32) → (Nat → Int32) → (Nat → Int32) → (Nat → Int32) → (Nat → Int32) → Prop} {S : tv_M} {w t : Nat} {f : Int32} (hB : tv_B 21 S) (hw : w < 7) (ht : t < 7) (K : ∀ b', tv_iv S w (7 * (t + 1)) b' → J10 (nI (t + 1)) aL aR aO cH cF lA lC rl b') :
    ∀ (d u m : Nat) (b : Nat → Int32), u + d = 7 → d < m → tv_ir S w t u f b → wX_closeBounds_31 post J2 J10 (nI w) (nI t) f fa fc fh ff fd fl m (nI u) aL aR aO cH cF lA lC rl b := by
  intro d
  induction d with
  | zero =>
    intro u m b hi hm h
    obtain ⟨m, rfl⟩ := tv_q hm
    have e : u = 7 := by omega
    subst e
    rw [wX_closeBounds_31]
    exact br_t (nI_le (Nat.le_refl _) (by omega)) (nm_r (nI_1 t) (K b (tv_ir_end h)))
  | succ d ih =>
    intro u m b hi hm h
    obtain ⟨m, rfl⟩ := tv_q hm
    rw [wX_closeBounds_31]
    dsimp only
    rw [tv_7, tv_7, nI_clamp (show 7 * w + u < 2 ^ 31 by omega), nI_clamp (show 7 * t + u < 2 ^ 31 by omega)]
    have hu : u < 7 := by omega
    have w1 : vp_in (nI (7 * w + u)) 49 := vp_in_nI (by omega) (by omega)
    have w2 : vp_in (nI (7 * t + u)) 49 := vp_in_nI (by omega) (by omega)
    refine br_f (nI_ge (b := 7) (by omega) (by decide)) (br_c (fun c => ?_) (fun c => ⟨w1, nm_e (br_c (fun c2 => ?_) (fun c2 => ⟨w2, br_c (fun c3 => ?_) (fun c3 => ?_)⟩))⟩))
    · rw [tv_eI, tv_TI] at c
      exact nm_r (nI_1 t) (K b (tv_ir_end (tv_ir_skip ht (by omega) (by omega) h)))
    · refine nm_r (nI_1 u) (ih (u + 1) m b (by omega) (by omega) (tv_ir_keep hB hw ht hu h ?_))
      rintro ⟨_, z, _⟩
      exact absurd c2 (Int32.not_le.mpr z)
    · refine nm_r (nI_1 u) (ih (u + 1) m b (by omega) (by omega) (tv_ir_keep hB hw ht hu h ?_))
      rintro ⟨_, _, z⟩
      exact absurd c3 (Int32.not_le.mpr z)
    · exact ⟨w2, nm_e (nm_r (nI_1 u) (ih (u + 1) m _ (by omega) (by omega) (tv_ir_store hB hw ht hu h (tv_nle c) (tv_nle c2) (tv_nle c3))))⟩
theorem tx_cl10 {post : Int32 → SX → Prop} {J2 : Int32 → (Nat → Int32) → (Nat → Int32) → (Nat → Int32) → (Nat → Int32) → (Nat → Int32) → (Nat → Int32) → (Nat → Int32) → (Nat → Int32) → (Nat → Int32) → Prop} {S : tv_M} {w : Nat} (hB : tv_B 21 S) (hw : w < 7) (K : ∀ b', tv_iv S w 49 b' → J2 (nI (w + 1)) aL aR aO cH cF lA lC rl b') :
    ∀ (d t m : Nat) (b : Nat → Int32), t + d = 7 → d < m → tv_iv S w (7 * t) b → wX_closeBounds_10 post J2 (nI w) fa fc fh ff fd fl m (nI t) aL aR aO cH cF lA lC rl b := by
  intro d
  induction d with
  | zero =>
    intro t m b hi hm h
    obtain ⟨m, rfl⟩ := tv_q hm
    have e : t = 7 := by omega
    subst e
    rw [wX_closeBounds_10]
    exact br_t (nI_le (Nat.le_refl _) (by omega)) (nm_r (nI_1 w) (K b h))
  | succ d ih =>
    intro t m b hi hm h
    obtain ⟨m, rfl⟩ := tv_q hm
    rw [wX_closeBounds_10]
    dsimp only
    rw [tv_7, nI_clamp (show 7 * t + w < 2 ^ 31 by omega)]
    have ht : t < 7 := by omega
    exact br_f (nI_ge (b := 7) (by omega) (by decide)) ⟨vp_in_nI (by omega) (by omega), nm_e ⟨8, tx_cl31 hB hw ht (fun b' hb => ih (t + 1) m b' (by omega) (by omega) hb) 7 0 8 b (by omega) (by omega) (tv_ir_start hw ht h)⟩⟩
theorem tx_cl2 {post : Int32 → SX → Prop} {S : tv_M} (hB : tv_B 21 S) (hd : ∀ i, i < 7 → S i i ≤ 0) (K1 : tv_Good S → ∀ b', tv_is b' (tv_fw S 7) → post 1 (fa, fc, fh, ff, fd, fl, aL, aR, aO, cH, cF, lA, lC, rl, b')) (K0 : ¬ tv_Good S → ∀ b', post 0 (fa, fc, fh, ff, fd, fl, aL, aR, aO, cH, cF, lA, lC, rl, b')) :
    ∀ (d w m : Nat) (b : Nat → Int32), w + d = 7 → d < m → tv_ic S w b → wX_closeBounds_2 post fa fc fh ff fd fl m (nI w) aL aR aO cH cF lA lC rl b := by
  intro d
  induction d with
  | zero =>
    intro w m b hi hm h
    obtain ⟨m, rfl⟩ := tv_q hm
    have e : w = 7 := by omega
    subst e
    rw [wX_closeBounds_2]
    have q := tv_ic_last h
    exact br_t (nI_le (Nat.le_refl _) (by omega)) ⟨8, tx_cl120 (fun z => K1 (q.1 z).1 b (q.1 z).2) (fun z => K0 (q.2 z) b) 7 0 8 (by omega) (by omega) (fun q hq => absurd hq (by omega))⟩
  | succ d ih =>
    intro w m b hi hm h
    obtain ⟨m, rfl⟩ := tv_q hm
    rw [wX_closeBounds_2]
    have hw : w < 7 := by omega
    exact br_f (nI_ge (b := 7) (by omega) (by decide)) ⟨8, tx_cl10 hB hw (fun b' hb => ih (w + 1) m b' (by omega) (by omega) (tv_iv_end hb)) 7 0 8 b (by omega) (by omega) (tv_iv_start hd hw h)⟩
theorem tx_close {post : Int32 → SX → Prop} {S : tv_M} (hB : tv_B 21 S) (hd : ∀ i, i < 7 → S i i ≤ 0) (h : tv_is bd S) (K1 : tv_Good S → ∀ b', tv_is b' (tv_fw S 7) → post 1 (fa, fc, fh, ff, fd, fl, aL, aR, aO, cH, cF, lA, lC, rl, b')) (K0 : ¬ tv_Good S → ∀ b', post 0 (fa, fc, fh, ff, fd, fl, aL, aR, aO, cH, cF, lA, lC, rl, b')) : wpX_closeBounds post (fa, fc, fh, ff, fd, fl, aL, aR, aO, cH, cF, lA, lC, rl, bd) := by
  unfold wpX_closeBounds
  exact ⟨8, tx_cl2 hB hd K1 K0 7 0 8 bd (by omega) (by omega) (Or.inl h)⟩
end
end
section
theorem tv_2i (t u : Nat) : (2 : Int32) * nI t + nI u = nI (2 * t + u) := by
  show nI 2 * nI t + nI u = _
  rw [pk_mul, nI_add]
theorem tv_3i (t u : Nat) : (3 : Int32) * nI t + nI u = nI (3 * t + u) := by
  show nI 3 * nI t + nI u = _
  rw [pk_mul, nI_add]
theorem tv_nb0 : vp_nar .boolean 0 = 0 := rfl
theorem tv_nb1 : vp_nar .boolean 1 = 1 := rfl
theorem tv_nbi (P : Prop) : vp_nar .boolean (tv_i P) = tv_i P := by
  by_cases h : P
  · rw [tv_i_t h]; rfl
  · rw [tv_i_f h]; rfl
def tv_fi (aL aR aO r : Nat → Int32) (n i : Nat) : Prop := tv_rp aL aR aO r n ∧ ∀ q, q < i → r (2 * 2 ^ n + q) = tv_i (tv_Fe (tv_L aL) (tv_L aR) (tv_O aO) (n + 1) q) ∧ r (3 * 2 ^ n + q) = tv_i (tv_Fe (tv_L aL) (tv_L aR) (tv_O aO) (n + 1) (q + 2 ^ n))
theorem tv_fi_step {aL aR aO r : Nat → Int32} {n i : Nat} (hi : i < 2 ^ n) (h : tv_fi aL aR aO r n i) : tv_fi aL aR aO (upd (upd r (2 * 2 ^ n + i) (tv_i (tv_Fe (tv_L aL) (tv_L aR) (tv_O aO) (n + 1) i))) (3 * 2 ^ n + i) (tv_i (tv_Fe (tv_L aL) (tv_L aR) (tv_O aO) (n + 1) (i + 2 ^ n)))) n (i + 1) := by
  obtain ⟨h1, h2⟩ := h
  refine ⟨fun m hm p hp => ?_, fun q hq => ?_⟩
  · have e : 2 ^ m ≤ 2 ^ n := Nat.pow_le_pow_right (by decide) hm
    rw [pk_un (by omega), pk_un (by omega)]
    exact h1 m hm p hp
  · by_cases z : q = i
    · subst z
      constructor
      · rw [pk_un (by omega), pk_us]
      · rw [pk_us]
    · obtain ⟨a1, a2⟩ := h2 q (by omega)
      constructor
      · rw [pk_un (by omega), pk_un (by omega), a1]
      · rw [pk_un (by omega), pk_un (by omega), a2]
theorem tv_fi_end {aL aR aO r : Nat → Int32} {n : Nat} (h : tv_fi aL aR aO r n (2 ^ n)) : tv_rp aL aR aO r (n + 1) := by
  obtain ⟨h1, h2⟩ := h
  intro m hm p hp
  by_cases z : m = n + 1
  · subst z
    have e : 2 ^ (n + 1) = 2 * 2 ^ n := by rw [Nat.pow_succ]; omega
    rw [e] at hp ⊢
    by_cases y : p < 2 ^ n
    · exact (h2 p y).1
    · have a := (h2 (p - 2 ^ n) (by omega)).2
      rw [show 3 * 2 ^ n + (p - 2 ^ n) = 2 * 2 ^ n + p by omega, show p - 2 ^ n + 2 ^ n = p by omega] at a
      exact a
  · exact h1 m (by omega) p hp
theorem tv_low {L R : Nat → Nat} {O : Nat → Int} {n p o i j : Nat} (h : tv_va L R O n) (ho : o < 27) (hi : i < 7) (hj : j < 7) : tv_fw (tv_SX L R O n p o) 7 i j = 1000000000 ∨ (-2688 ≤ tv_fw (tv_SX L R O n p o) 7 i j ∧ tv_fw (tv_SX L R O n p o) 7 i j ≤ 2688) := by
  have B := tv_fw_B (tv_SX_B (p := p) h ho) (Nat.le_refl 7) i j hi hj
  have b := tv_bd_le (Nat.le_refl 7)
  have hT : tv_T = 1000000000 := rfl
  omega
/-- the values of t less u that the orders below m allow -/
def tv_vx (L R : Nat → Nat) (O : Nat → Int) (n p t u m : Nat) (v : Int) : Prop := ∃ q, q < m ∧ tv_Good (tv_SX L R O n p q) ∧ v = tv_fw (tv_SX L R O n p q) 7 t u
section
variable {fa fc fh ff fd fl : Int32} {aL aR aO cH cF lA lC rl bd : Nat → Int32}
theorem tx_settle {post : Int32 → SX → Prop} {n p o : Nat} (hn : n ≤ 8) (hp : p < 2147483648) (av : tv_av aL aR aO n) (ho : o < 27) (K1 : tv_Good (tv_SX (tv_L aL) (tv_L aR) (tv_O aO) n p o) → ∀ b', tv_is b' (tv_fw (tv_SX (tv_L aL) (tv_L aR) (tv_O aO) n p o) 7) → post 1 (nI n, fc, fh, ff, fd, fl, aL, aR, aO, cH, cF, lA, lC, rl, b')) (K0 : ¬ tv_Good (tv_SX (tv_L aL) (tv_L aR) (tv_O aO) n p o) → ∀ b', post 0 (nI n, fc, fh, ff, fd, fl, aL, aR, aO, cH, cF, lA, lC, rl, b')) : wpX_settleBounds post (nI n, fc, fh, ff, fd, fl, aL, aR, aO, cH, cF, lA, lC, rl, bd) (nI p) (nI o) := by
  unfold wpX_settleBounds
  dsimp only
  have r1 : nI o - nI o / 3 * 3 = nI (o % 3) := tv_r3 (by omega)
  have r2 : nI o / 3 = nI (o / 3) := tv_d3 (by omega)
  have r3 : nI (o / 3) - nI (o / 3) / 3 * 3 = nI (o / 3 % 3) := tv_r3 (by omega)
  have r4 : nI o / 9 = nI (o / 9) := tv_d9 (by omega)
  rw [r1, r2, r3, r4]
  have va := tv_av_va av
  have n3 : ¬ (3 : Int32) = 0 := by decide
  have n9 : ¬ (9 : Int32) = 0 := by decide
  have e : tv_SX (tv_L aL) (tv_L aR) (tv_O aO) n p o = tv_tl (tv_tl (tv_tl (tv_at 1000000000 (tv_L aL) (tv_L aR) (tv_O aO) p n) (tv_cx1 0 1 (o % 3))) (tv_cx1 0 2 (o / 3 % 3))) (tv_cx1 1 2 (o / 9)) := by
    unfold tv_SX tv_cx
    rw [tv_tl_app, tv_tl_app]
  refine tx_drop (fun b0 h0 => tx_atoms hn hp av h0 (fun b1 h1 => ⟨n3, tx_order (x := 0) (y := 1) (by omega) (by omega) (by omega) h1 (fun b2 h2 => ⟨n3, n3, tx_order (x := 0) (y := 2) (by omega) (by omega) (by omega) h2 (fun b3 h3 => ⟨n9, tx_order (x := 1) (y := 2) (by omega) (by omega) (by omega) h3 (fun b4 h4 => ?_)⟩)⟩)⟩))
  rw [← e] at h4
  exact tx_close (tv_SX_B va ho) (fun i _ => tv_SX_d va o i) h4 (fun g b' hb => ⟨rfl, K1 g b' hb⟩) (fun g b' => ⟨rfl, K0 g b'⟩)
theorem tx_has2 {post : Int32 → SX → Prop} {n p : Nat} (hn : n ≤ 8) (hp : p < 2147483648) (av : tv_av aL aR aO n) (K1 : tv_Fe (tv_L aL) (tv_L aR) (tv_O aO) n p → ∀ b', post 1 (nI n, fc, fh, ff, fd, fl, aL, aR, aO, cH, cF, lA, lC, rl, b')) (K0 : ¬ tv_Fe (tv_L aL) (tv_L aR) (tv_O aO) n p → ∀ b', post 0 (nI n, fc, fh, ff, fd, fl, aL, aR, aO, cH, cF, lA, lC, rl, b')) :
    ∀ (d o m : Nat) (b : Nat → Int32), o + d = 27 → d < m → (∀ q, q < o → ¬ tv_Good (tv_SX (tv_L aL) (tv_L aR) (tv_O aO) n p q)) → wX_hasMeaning_2 post (nI p) m (nI o) (nI n) fc fh ff fd fl aL aR aO cH cF lA lC rl b := by
  intro d
  induction d with
  | zero =>
    intro o m b hi hm h
    obtain ⟨m, rfl⟩ := tv_q hm
    have e : o = 27 := by omega
    subst e
    rw [wX_hasMeaning_2]
    exact br_t (nI_le (Nat.le_refl _) (by omega)) (K0 (fun ⟨q, hq, g⟩ => h q hq g) b)
  | succ d ih =>
    intro o m b hi hm h
    obtain ⟨m, rfl⟩ := tv_q hm
    rw [wX_hasMeaning_2]
    refine br_f (nI_ge (b := 27) (by omega) (by decide)) (tx_settle hn hp av (by omega) (fun g b' hb => br_f (by decide) (K1 ⟨o, by omega, g⟩ b')) (fun g b' => br_t rfl (nm_r (nI_1 o) (ih (o + 1) m b' (by omega) (by omega) ?_))))
    intro q hq
    by_cases z : q = o
    · subst z; exact g
    · exact h q (by omega)
theorem tx_has {post : Int32 → SX → Prop} {n p : Nat} (hn : n ≤ 8) (hp : p < 2147483648) (av : tv_av aL aR aO n) (K1 : tv_Fe (tv_L aL) (tv_L aR) (tv_O aO) n p → ∀ b', post 1 (nI n, fc, fh, ff, fd, fl, aL, aR, aO, cH, cF, lA, lC, rl, b')) (K0 : ¬ tv_Fe (tv_L aL) (tv_L aR) (tv_O aO) n p → ∀ b', post 0 (nI n, fc, fh, ff, fd, fl, aL, aR, aO, cH, cF, lA, lC, rl, b')) : wpX_hasMeaning post (nI n, fc, fh, ff, fd, fl, aL, aR, aO, cH, cF, lA, lC, rl, bd) (nI p) := by
  unfold wpX_hasMeaning
  exact ⟨28, tx_has2 hn hp av K1 K0 27 0 28 bd (by omega) (by omega) (fun q hq => absurd hq (by omega))⟩
theorem tx_fr48 {post : SX → Prop} {J6 : Int32 → Int32 → Int32 → Int32 → Int32 → Int32 → Int32 → (Nat → Int32) → (Nat → Int32) → (Nat → Int32) → (Nat → Int32) → (Nat → Int32) → (Nat → Int32) → (Nat → Int32) → (Nat → Int32) → (Nat → Int32) → Prop} {n i : Nat} {z0 : Int32} (hn : n < 8) (hi : i < 2 ^ n) (av : tv_av aL aR aO (n + 1)) (hz : z0 = tv_i (tv_Fe (tv_L aL) (tv_L aR) (tv_O aO) (n + 1) i))
    (K : ∀ b', J6 (nI (i + 1)) (nI (n + 1)) fc fh ff fd fl aL aR aO cH cF lA lC (upd (upd rl (2 * 2 ^ n + i) (tv_i (tv_Fe (tv_L aL) (tv_L aR) (tv_O aO) (n + 1) i))) (3 * 2 ^ n + i) (tv_i (tv_Fe (tv_L aL) (tv_L aR) (tv_O aO) (n + 1) (i + 2 ^ n)))) b') :
    wX_findRealPatterns_48 post J6 (nI (2 ^ n)) (nI i) (tv_i (tv_Fe (tv_L aL) (tv_L aR) (tv_O aO) n i)) z0 (nI (2 * 2 ^ n + i)) (nI (n + 1)) fc fh ff fd fl aL aR aO cH cF lA lC rl bd := by
  have hp : 2 ^ n ≤ 128 := (by decide +kernel : ∀ n, n < 8 → 2 ^ n ≤ 128) n hn
  unfold wX_findRealPatterns_48
  rw [tv_3i, nI_add, nI_clamp (show 2 * 2 ^ n + i < 2 ^ 31 by omega), nI_clamp (show 3 * 2 ^ n + i < 2 ^ 31 by omega), hz, tv_nbi]
  have w : vp_in (nI (3 * 2 ^ n + i)) 512 := vp_in_nI (by omega) (by omega)
  refine ⟨vp_in_nI (by omega) (by omega), nm_e ?_⟩
  by_cases c : tv_Fe (tv_L aL) (tv_L aR) (tv_O aO) n i
  · refine br_f (fun z => (tv_i_0.mp z) c) (tx_has (by omega) (by omega) av (fun g b' => ?_) (fun g b' => ?_))
    · have k := K b'
      rw [tv_i_t g] at k
      exact br_f (by decide) ⟨w, nm_r (congrArg _ tv_nb1) (nm_r (nI_1 i) k)⟩
    · have k := K b'
      rw [tv_i_f g] at k
      exact br_t rfl ⟨w, nm_r (congrArg _ tv_nb0) (nm_r (nI_1 i) k)⟩
  · have g : ¬ tv_Fe (tv_L aL) (tv_L aR) (tv_O aO) (n + 1) (i + 2 ^ n) := fun z => c (tv_Fe_half hn hi z)
    have k := K bd
    rw [tv_i_f g] at k
    exact br_t (tv_i_f c) ⟨w, nm_r (congrArg _ tv_nb0) (nm_r (nI_1 i) k)⟩
theorem tx_fr6 {post : SX → Prop} {n : Nat} (hn : n < 8) (av : tv_av aL aR aO (n + 1)) (K : ∀ r' b', tv_rp aL aR aO r' (n + 1) → post (nI (n + 1), fc, fh, ff, fd, fl, aL, aR, aO, cH, cF, lA, lC, r', b')) :
    ∀ (d i m : Nat) (r b : Nat → Int32), i + d = 2 ^ n → d < m → tv_fi aL aR aO r n i → wX_findRealPatterns_6 post (nI (2 ^ n)) m (nI i) (nI (n + 1)) fc fh ff fd fl aL aR aO cH cF lA lC r b := by
  have hp : 2 ^ n ≤ 128 := (by decide +kernel : ∀ n, n < 8 → 2 ^ n ≤ 128) n hn
  intro d
  induction d with
  | zero =>
    intro i m r b hi hm h
    obtain ⟨m, rfl⟩ := tv_q hm
    have e : i = 2 ^ n := by omega
    subst e
    rw [wX_findRealPatterns_6]
    exact br_t (nI_le (Nat.le_refl _) (by omega)) (K r b (tv_fi_end h))
  | succ d ih =>
    intro i m r b hi hm h
    obtain ⟨m, rfl⟩ := tv_q hm
    have hi2 : i < 2 ^ n := by omega
    rw [wX_findRealPatterns_6]
    dsimp only
    rw [tv_2i, nI_add, nI_clamp (show 2 ^ n + i < 2 ^ 31 by omega), h.1 n (Nat.le_refl n) i hi2]
    have go : ∀ (z0 : Int32) (b1 : Nat → Int32), z0 = tv_i (tv_Fe (tv_L aL) (tv_L aR) (tv_O aO) (n + 1) i) → wX_findRealPatterns_48 post (wX_findRealPatterns_6 post (nI (2 ^ n)) m) (nI (2 ^ n)) (nI i) (tv_i (tv_Fe (tv_L aL) (tv_L aR) (tv_O aO) n i)) z0 (nI (2 * 2 ^ n + i)) (nI (n + 1)) fc fh ff fd fl aL aR aO cH cF lA lC r b1 :=
      fun z0 b1 hz => tx_fr48 hn hi2 av hz (fun b' => ih (i + 1) m _ b' (by omega) (by omega) (tv_fi_step hi2 h))
    refine br_f (nI_ge (by omega) (by omega)) ⟨vp_in_nI (by omega) (by omega), nm_e ?_⟩
    by_cases c : tv_Fe (tv_L aL) (tv_L aR) (tv_O aO) n i
    · refine br_f (fun z => (tv_i_0.mp z) c) (tx_has (by omega) (by omega) av (fun g b' => br_f (by decide) (go 1 b' (tv_i_t g).symm)) (fun g b' => br_t rfl ?_))
      unfold wX_findRealPatterns_47
      exact go 0 b' (tv_i_f g).symm
    · refine br_t (tv_i_f c) ?_
      unfold wX_findRealPatterns_47
      exact go 0 b (tv_i_f (fun z => c (tv_Fe_step z))).symm
theorem tx_findReal {post : SX → Prop} {n : Nat} (hn : n < 8) (av : tv_av aL aR aO (n + 1)) (rp : tv_rp aL aR aO rl n) (K : ∀ r' b', tv_rp aL aR aO r' (n + 1) → post (nI (n + 1), fc, fh, ff, fd, fl, aL, aR, aO, cH, cF, lA, lC, r', b')) : wpX_findRealPatterns post (nI (n + 1), fc, fh, ff, fd, fl, aL, aR, aO, cH, cF, lA, lC, rl, bd) (nI n) := by
  unfold wpX_findRealPatterns
  dsimp only
  rw [tv_pow (show n < 31 by omega)]
  exact nm_e ⟨2 ^ n + 1, tx_fr6 hn av K (2 ^ n) 0 (2 ^ n + 1) rl bd (by omega) (by omega) ⟨rp, fun q hq => absurd hq (by omega)⟩⟩
theorem tx_gd7 {post : Int32 → SX → Prop} {n p t u : Nat} (hn : n ≤ 8) (hp : p < 2147483648) (av : tv_av aL aR aO n) (ht : t < 7) (hu : u < 7) (K : ∀ g b', tv_mx (tv_vx (tv_L aL) (tv_L aR) (tv_O aO) n p t u 27) (-1000000000) g.toInt → post g (nI n, fc, fh, ff, fd, fl, aL, aR, aO, cH, cF, lA, lC, rl, b')) :
    ∀ (d o m : Nat) (g : Int32) (b : Nat → Int32), o + d = 27 → d < m → tv_mx (tv_vx (tv_L aL) (tv_L aR) (tv_O aO) n p t u o) (-1000000000) g.toInt → wX_greatestDifference_7 post (nI t) (nI u) (nI p) m g (nI o) (nI n) fc fh ff fd fl aL aR aO cH cF lA lC rl b := by
  have va := tv_av_va av
  intro d
  induction d with
  | zero =>
    intro o m g b hi hm h
    obtain ⟨m, rfl⟩ := tv_q hm
    have e : o = 27 := by omega
    subst e
    rw [wX_greatestDifference_7]
    exact br_t (nI_le (Nat.le_refl _) (by omega)) (K g b h)
  | succ d ih =>
    intro o m g b hi hm h
    obtain ⟨m, rfl⟩ := tv_q hm
    rw [wX_greatestDifference_7]
    dsimp only
    rw [tv_7]
    have w : vp_in (nI (7 * t + u)) 49 := vp_in_nI (by omega) (by omega)
    have hP : ∀ v, tv_vx (tv_L aL) (tv_L aR) (tv_O aO) n p t u o v → -1000000000 < v := by
      rintro v ⟨q, hq, _, rfl⟩
      have := tv_low (p := p) va (show q < 27 by omega) ht hu
      omega
    refine br_f (nI_ge (b := 27) (by omega) (by decide)) (tx_settle hn hp av (by omega) (fun gd b' hb => br_f (by decide) ?_) (fun gd b' => br_t rfl (nm_r (nI_1 o) (ih (o + 1) m g b' (by omega) (by omega) (tv_mx_c h ?_)))))
    · rw [nI_clamp (show 7 * t + u < 2 ^ 31 by omega)]
      have e := hb t u ht hu
      have lo := tv_low (p := p) va (show o < 27 by omega) ht hu
      have un := tv_mx_un (P' := tv_vx (tv_L aL) (tv_L aR) (tv_O aO) n p t u (o + 1)) hP (fun v (hv : v = tv_fw (tv_SX (tv_L aL) (tv_L aR) (tv_O aO) n p o) 7 t u) => by omega) h (tv_mx_1 (tv_fw (tv_SX (tv_L aL) (tv_L aR) (tv_O aO) n p o) 7 t u) (-1000000000)) (by
        intro v
        constructor
        · rintro ⟨q, hq, gq, ev⟩
          by_cases z : q = o
          · subst z; exact Or.inr ev
          · exact Or.inl ⟨q, by omega, gq, ev⟩
        · rintro (⟨q, hq, gq, ev⟩ | ev)
          · exact ⟨q, by omega, gq, ev⟩
          · exact ⟨o, by omega, gd, ev⟩)
      refine ⟨w, br_c (fun c => ?_) (fun c => ?_)⟩
      · rw [tv_eI, e] at c
        exact nm_r (nI_1 o) (ih (o + 1) m g b' (by omega) (by omega) (un.2 (by omega)))
      · rw [tv_eI, e] at c
        exact ⟨w, nm_e (nm_r (nI_1 o) (ih (o + 1) m _ b' (by omega) (by omega) (by rw [e]; exact un.1 (by omega))))⟩
    · intro v
      constructor
      · rintro ⟨q, hq, gq, ev⟩
        by_cases z : q = o
        · subst z; exact absurd gq gd
        · exact ⟨q, by omega, gq, ev⟩
      · rintro ⟨q, hq, gq, ev⟩
        exact ⟨q, by omega, gq, ev⟩
theorem tx_gd {post : Int32 → SX → Prop} {n p t u : Nat} (hn : n ≤ 8) (hp : p < 2147483648) (av : tv_av aL aR aO n) (ht : t < 7) (hu : u < 7) (K : ∀ g b', tv_mx (tv_vx (tv_L aL) (tv_L aR) (tv_O aO) n p t u 27) (-1000000000) g.toInt → post g (nI n, fc, fh, ff, fd, fl, aL, aR, aO, cH, cF, lA, lC, rl, b')) : wpX_greatestDifference post (nI n, fc, fh, ff, fd, fl, aL, aR, aO, cH, cF, lA, lC, rl, bd) (nI t) (nI u) (nI p) := by
  unfold wpX_greatestDifference
  refine ⟨28, tx_gd7 hn hp av ht hu K 27 0 28 (-1000000000) bd (by omega) (by omega) ?_⟩
  rw [show (-1000000000 : Int32).toInt = -1000000000 by decide +kernel]
  exact tv_mx_0 _ (fun v ⟨q, hq, _⟩ => absurd hq (by omega))
end
end
section
abbrev tv_ma (cH cF : Nat → Int32) (c : Nat) (but : Int32) (p : Nat) : Prop := ∀ k, k < c → ¬ nI k = but → tv_xm (cH k) (cF k) p
abbrev tv_g (aL aR aO cH cF : Nat → Int32) (n c : Nat) (but : Int32) (p : Nat) : Prop := tv_G (tv_F aL aR aO n) (fun k p => tv_xm (cH k) (cF k) p) c but p
theorem tv_mx_pos {P : Int → Prop} {g : Int} (h : tv_mx P (-1000000000) g) : 0 < g ↔ ∃ v, P v ∧ 0 < v := by
  rcases h with ⟨h1, h2⟩ | ⟨h1, h2⟩
  · constructor
    · intro z; omega
    · rintro ⟨v, hv, _⟩; exact absurd hv (h2 v)
  · constructor
    · intro z; exact ⟨g, h1, z⟩
    · rintro ⟨v, hv, z⟩; have := h2 v hv; omega
/-- some order lets t and u differ -/
def tv_DX (L R : Nat → Nat) (O : Nat → Int) (n p t u : Nat) : Prop := ∃ o, o < 27 ∧ tv_Good (tv_SX L R O n p o) ∧ (0 < tv_fw (tv_SX L R O n p o) 7 t u ∨ 0 < tv_fw (tv_SX L R O n p o) 7 u t)
theorem tv_DX_vx {L R : Nat → Nat} {O : Nat → Int} {n p t u : Nat} : tv_DX L R O n p t u ↔ (∃ v, tv_vx L R O n p t u 27 v ∧ 0 < v) ∨ (∃ v, tv_vx L R O n p u t 27 v ∧ 0 < v) := by
  constructor
  · rintro ⟨o, ho, g, z | z⟩
    · exact Or.inl ⟨_, ⟨o, ho, g, rfl⟩, z⟩
    · exact Or.inr ⟨_, ⟨o, ho, g, rfl⟩, z⟩
  · rintro (⟨v, ⟨o, ho, g, rfl⟩, z⟩ | ⟨v, ⟨o, ho, g, rfl⟩, z⟩)
    · exact ⟨o, ho, g, Or.inl z⟩
    · exact ⟨o, ho, g, Or.inr z⟩
/-- the values over all good patterns below m -/
def tv_wx (aL aR aO cH cF : Nat → Int32) (n c t u m : Nat) (v : Int) : Prop := ∃ q, q < m ∧ tv_g aL aR aO cH cF n c (-1) q ∧ tv_vx (tv_L aL) (tv_L aR) (tv_O aO) n q t u 27 v
def tv_us (x : Int32) : Nat → Int32
  | 0 => 0
  | i + 1 => tv_us x i + ((x >>> (nI i &&& 31)) &&& 1)
def tv_un (s : Int32 × Int32) (p : Nat) : Int32 × Int32 := (s.1 ||| nI p, s.2 ||| (nI p ^^^ (-1)))
theorem tx_met {post : Int32 → Prop} {h f : Int32} {p : Nat} (K1 : tv_xm h f p → post 1) (K0 : ¬ tv_xm h f p → post 0) : wpX_isMet post h f (nI p) := by
  unfold wpX_isMet
  exact br_c (fun c => br_c (fun d => K0 (fun z => z.elim (fun q => q c) (fun q => q d))) (fun d => K1 (Or.inr d))) (fun c => K1 (Or.inl c))
section
variable {fa fc fh ff fd fl : Int32} {aL aR aO cH cF lA lC rl bd : Nat → Int32}
theorem tx_mab2 {post : Int32 → Prop} {c p : Nat} {but : Int32} (hc : c ≤ 16) (K1 : tv_ma cH cF c but p → post 1) (K0 : ¬ tv_ma cH cF c but p → post 0) :
    ∀ d k m : Nat, k + d = c → d < m → (∀ j, j < k → ¬ nI j = but → tv_xm (cH j) (cF j) p) → wX_meetsAllBut_2 post but (nI p) fa (nI c) fh ff fd fl aL aR aO cH cF lA lC rl bd m (nI k) := by
  intro d
  induction d with
  | zero =>
    intro k m hi hm h
    obtain ⟨m, rfl⟩ := tv_q hm
    have e : k = c := by omega
    subst e
    rw [wX_meetsAllBut_2]
    exact br_t (nI_le (Nat.le_refl _) (by omega)) (K1 h)
  | succ d ih =>
    intro k m hi hm h
    obtain ⟨m, rfl⟩ := tv_q hm
    rw [wX_meetsAllBut_2]
    dsimp only
    rw [nI_clamp (show k < 2 ^ 31 by omega)]
    have w : vp_in (nI k) 16 := vp_in_nI (by omega) (by omega)
    refine br_f (nI_ge (by omega) (by omega)) (br_c (fun e => nm_r (nI_1 k) (ih (k + 1) m (by omega) (by omega) (lt_s h (fun z => absurd e z)))) (fun e => ⟨w, w, tx_met (fun g => br_f (by decide) (nm_r (nI_1 k) (ih (k + 1) m (by omega) (by omega) (lt_s h (fun _ => g))))) (fun g => br_t rfl (K0 (fun z => g (z k (by omega) e))))⟩))
theorem tx_mab {post : Int32 → Prop} {c p : Nat} {but : Int32} (hc : c ≤ 16) (K1 : tv_ma cH cF c but p → post 1) (K0 : ¬ tv_ma cH cF c but p → post 0) : wpX_meetsAllBut post (fa, nI c, fh, ff, fd, fl, aL, aR, aO, cH, cF, lA, lC, rl, bd) but (nI p) := by
  unfold wpX_meetsAllBut
  exact ⟨c + 1, tx_mab2 hc K1 K0 c 0 (c + 1) (by omega) (by omega) (fun j hj => absurd hj (by omega))⟩
theorem tx_real {post : Int32 → Prop} {n p : Nat} (hn : n ≤ 8) (hp : p < 2 ^ n) (rp : tv_rp aL aR aO rl n) (K1 : tv_Fe (tv_L aL) (tv_L aR) (tv_O aO) n p → post 1) (K0 : ¬ tv_Fe (tv_L aL) (tv_L aR) (tv_O aO) n p → post 0) : wpX_isReal post (nI n, fc, fh, ff, fd, fl, aL, aR, aO, cH, cF, lA, lC, rl, bd) (nI p) := by
  have h8 := tv_p8 hn
  unfold wpX_isReal
  dsimp only
  rw [tv_pow (show n < 31 by omega), nI_add, nI_clamp (show 2 ^ n + p < 2 ^ 31 by omega), rp n (Nat.le_refl n) p hp]
  refine ⟨vp_in_nI (by omega) (by omega), tv_i_n _, ?_⟩
  by_cases c : tv_Fe (tv_L aL) (tv_L aR) (tv_O aO) n p
  · rw [tv_i_t c]; exact K1 c
  · rw [tv_i_f c]; exact K0 c
theorem tx_good {post : Int32 → Prop} {n c p : Nat} (hn : n ≤ 8) (hc : c ≤ 16) (hp : p < 2 ^ n) (rp : tv_rp aL aR aO rl n) (K1 : tv_g aL aR aO cH cF n c (-1) p → post 1) (K0 : ¬ tv_g aL aR aO cH cF n c (-1) p → post 0) : wpX_isGood post (nI n, nI c, fh, ff, fd, fl, aL, aR, aO, cH, cF, lA, lC, rl, bd) (nI p) := by
  unfold wpX_isGood
  dsimp only
  exact tx_real hn hp rp (fun f => br_f (by decide) (tx_mab hc (fun g => br_f (by decide) (K1 ⟨⟨hp, f⟩, g⟩)) (fun g => br_t rfl (K0 (fun z => g z.2))))) (fun f => br_t rfl (K0 (fun z => f z.1.2)))
theorem tx_count {post : Int32 → Prop} {n : Nat} (hn : n ≤ 8) (K : post (nI (2 ^ n))) : wpX_patternCount post (nI n, fc, fh, ff, fd, fl, aL, aR, aO, cH, cF, lA, lC, rl, bd) := by
  unfold wpX_patternCount
  dsimp only
  rw [tv_pow (show n < 31 by omega)]
  exact K
theorem tx_some7 {post : Int32 → Prop} {n c : Nat} {but : Int32} (hn : n ≤ 8) (hc : c ≤ 16) (rp : tv_rp aL aR aO rl n) (K1 : (∃ p, p < 2 ^ n ∧ tv_g aL aR aO cH cF n c but p) → post 1) (K0 : (∀ p, p < 2 ^ n → ¬ tv_g aL aR aO cH cF n c but p) → post 0) :
    ∀ d i m : Nat, i + d = 2 ^ n → d < m → (∀ p, p < i → ¬ tv_g aL aR aO cH cF n c but p) → wX_someRealMeetsAllBut_7 post but (nI (2 ^ n)) (nI n) (nI c) fh ff fd fl aL aR aO cH cF lA lC rl bd m (nI i) := by
  have h8 := tv_p8 hn
  intro d
  induction d with
  | zero =>
    intro i m hi hm h
    obtain ⟨m, rfl⟩ := tv_q hm
    have e : i = 2 ^ n := by omega
    subst e
    rw [wX_someRealMeetsAllBut_7]
    exact br_t (nI_le (Nat.le_refl _) (by omega)) (K0 h)
  | succ d ih =>
    intro i m hi hm h
    obtain ⟨m, rfl⟩ := tv_q hm
    rw [wX_someRealMeetsAllBut_7]
    have hi2 : i < 2 ^ n := by omega
    have nx : ¬ tv_g aL aR aO cH cF n c but i → ∀ y, y = nI i + 1 → wX_someRealMeetsAllBut_7 post but (nI (2 ^ n)) (nI n) (nI c) fh ff fd fl aL aR aO cH cF lA lC rl bd m y := fun g => nm_r (nI_1 i) (ih (i + 1) m (by omega) (by omega) (lt_s h g))
    exact br_f (nI_ge (by omega) (by omega)) (tx_real hn hi2 rp (fun f => br_f (by decide) (tx_mab hc (fun g => br_f (by decide) (K1 ⟨i, hi2, ⟨hi2, f⟩, g⟩)) (fun g => br_t rfl (nx (fun z => g z.2))))) (fun f => br_t rfl (nx (fun z => f z.1.2))))
theorem tx_some {post : Int32 → Prop} {n c : Nat} {but : Int32} (hn : n ≤ 8) (hc : c ≤ 16) (rp : tv_rp aL aR aO rl n) (K1 : (∃ p, p < 2 ^ n ∧ tv_g aL aR aO cH cF n c but p) → post 1) (K0 : (∀ p, p < 2 ^ n → ¬ tv_g aL aR aO cH cF n c but p) → post 0) : wpX_someRealMeetsAllBut post (nI n, nI c, fh, ff, fd, fl, aL, aR, aO, cH, cF, lA, lC, rl, bd) but := by
  unfold wpX_someRealMeetsAllBut
  dsimp only
  exact tx_count hn ⟨2 ^ n + 1, tx_some7 hn hc rp K1 K0 (2 ^ n) 0 (2 ^ n + 1) (by omega) (by omega) (fun p hp => absurd hp (by omega))⟩
theorem tx_implied29 {post : Int32 → Prop} {n c : Nat} {xh xf : Int32} (hn : n ≤ 8) (hc : c ≤ 16) (rp : tv_rp aL aR aO rl n) (K1 : (∀ p, p < 2 ^ n → tv_g aL aR aO cH cF n c (-1) p → tv_xm xh xf p) → post 1) (K0 : (∃ p, p < 2 ^ n ∧ tv_g aL aR aO cH cF n c (-1) p ∧ ¬ tv_xm xh xf p) → post 0) :
    ∀ d i m : Nat, i + d = 2 ^ n → d < m → (∀ p, p < i → tv_g aL aR aO cH cF n c (-1) p → tv_xm xh xf p) → wX_implied_29 post xh xf (nI (2 ^ n)) (nI n) (nI c) fh ff fd fl aL aR aO cH cF lA lC rl bd m (nI i) := by
  have h8 := tv_p8 hn
  intro d
  induction d with
  | zero =>
    intro i m hi hm h
    obtain ⟨m, rfl⟩ := tv_q hm
    have e : i = 2 ^ n := by omega
    subst e
    rw [wX_implied_29]
    exact br_t (nI_le (Nat.le_refl _) (by omega)) (K1 h)
  | succ d ih =>
    intro i m hi hm h
    obtain ⟨m, rfl⟩ := tv_q hm
    rw [wX_implied_29]
    have hi2 : i < 2 ^ n := by omega
    have nx : (tv_g aL aR aO cH cF n c (-1) i → tv_xm xh xf i) → ∀ y, y = nI i + 1 → wX_implied_29 post xh xf (nI (2 ^ n)) (nI n) (nI c) fh ff fd fl aL aR aO cH cF lA lC rl bd m y := fun g => nm_r (nI_1 i) (ih (i + 1) m (by omega) (by omega) (lt_s h g))
    exact br_f (nI_ge (by omega) (by omega)) (tx_good hn hc hi2 rp (fun g => br_f (by decide) (tx_met (fun z => br_f (by decide) (nx (fun _ => z))) (fun z => br_t rfl (K0 ⟨i, hi2, g, z⟩)))) (fun g => br_t rfl (nx (fun z => absurd z g))))
theorem tx_differ8 {post : Int32 → SX → Prop} {n c t u : Nat} (hn : n ≤ 8) (hc : c ≤ 16) (av : tv_av aL aR aO n) (rp : tv_rp aL aR aO rl n) (ht : t < 7) (hu : u < 7) (K1 : (∃ p, p < 2 ^ n ∧ tv_g aL aR aO cH cF n c (-1) p ∧ tv_DX (tv_L aL) (tv_L aR) (tv_O aO) n p t u) → ∀ b', post 1 (nI n, nI c, fh, ff, fd, fl, aL, aR, aO, cH, cF, lA, lC, rl, b')) (K0 : (∀ p, p < 2 ^ n → tv_g aL aR aO cH cF n c (-1) p → ¬ tv_DX (tv_L aL) (tv_L aR) (tv_O aO) n p t u) → ∀ b', post 0 (nI n, nI c, fh, ff, fd, fl, aL, aR, aO, cH, cF, lA, lC, rl, b')) :
    ∀ (d i m : Nat) (b : Nat → Int32), i + d = 2 ^ n → d < m → (∀ p, p < i → tv_g aL aR aO cH cF n c (-1) p → ¬ tv_DX (tv_L aL) (tv_L aR) (tv_O aO) n p t u) → wX_canDiffer_8 post (nI t) (nI u) (nI (2 ^ n)) m (nI i) (nI n) (nI c) fh ff fd fl aL aR aO cH cF lA lC rl b := by
  have h8 := tv_p8 hn
  intro d
  induction d with
  | zero =>
    intro i m b hi hm h
    obtain ⟨m, rfl⟩ := tv_q hm
    have e : i = 2 ^ n := by omega
    subst e
    rw [wX_canDiffer_8]
    exact br_t (nI_le (Nat.le_refl _) (by omega)) (K0 h b)
  | succ d ih =>
    intro i m b hi hm h
    obtain ⟨m, rfl⟩ := tv_q hm
    rw [wX_canDiffer_8]
    have hi2 : i < 2 ^ n := by omega
    have nx : ∀ b', (tv_g aL aR aO cH cF n c (-1) i → ¬ tv_DX (tv_L aL) (tv_L aR) (tv_O aO) n i t u) → ∀ y, y = nI i + 1 → wX_canDiffer_8 post (nI t) (nI u) (nI (2 ^ n)) m y (nI n) (nI c) fh ff fd fl aL aR aO cH cF lA lC rl b' := fun b' g => nm_r (nI_1 i) (ih (i + 1) m b' (by omega) (by omega) (lt_s h g))
    refine br_f (nI_ge (by omega) (by omega)) (tx_good hn hc hi2 rp (fun g => br_f (by decide) (tx_gd hn (by omega) av ht hu (fun r b1 m1 => br_c (fun c1 => ?_) (fun c1 => tx_gd hn (by omega) av hu ht (fun s b2 m2 => br_c (fun c2 => ?_) (fun c2 => ?_)))))) (fun g => br_t rfl (nx b (fun z => absurd z g))))
    · rw [tv_lI, tv_z0] at c1
      exact K1 ⟨i, hi2, g, tv_DX_vx.mpr (Or.inl ((tv_mx_pos m1).mp c1))⟩ b1
    · rw [tv_lI, tv_z0] at c1
      rw [tv_eI, tv_z0] at c2
      refine nx b2 (fun _ z => ?_)
      rcases tv_DX_vx.mp z with z | z
      · exact c1 ((tv_mx_pos m1).mpr z)
      · have := (tv_mx_pos m2).mpr z; omega
    · rw [tv_eI, tv_z0] at c2
      exact K1 ⟨i, hi2, g, tv_DX_vx.mpr (Or.inr ((tv_mx_pos m2).mp (by omega)))⟩ b2
theorem tx_differ {post : Int32 → SX → Prop} {n c t u : Nat} (hn : n ≤ 8) (hc : c ≤ 16) (av : tv_av aL aR aO n) (rp : tv_rp aL aR aO rl n) (ht : t < 7) (hu : u < 7) (K1 : (∃ p, p < 2 ^ n ∧ tv_g aL aR aO cH cF n c (-1) p ∧ tv_DX (tv_L aL) (tv_L aR) (tv_O aO) n p t u) → ∀ b', post 1 (nI n, nI c, fh, ff, fd, fl, aL, aR, aO, cH, cF, lA, lC, rl, b')) (K0 : (∀ p, p < 2 ^ n → tv_g aL aR aO cH cF n c (-1) p → ¬ tv_DX (tv_L aL) (tv_L aR) (tv_O aO) n p t u) → ∀ b', post 0 (nI n, nI c, fh, ff, fd, fl, aL, aR, aO, cH, cF, lA, lC, rl, b')) : wpX_canDiffer post (nI n, nI c, fh, ff, fd, fl, aL, aR, aO, cH, cF, lA, lC, rl, bd) (nI t) (nI u) := by
  unfold wpX_canDiffer
  dsimp only
  exact tx_count hn ⟨2 ^ n + 1, tx_differ8 hn hc av rp ht hu K1 K0 (2 ^ n) 0 (2 ^ n + 1) bd (by omega) (by omega) (fun p hp => absurd hp (by omega))⟩
theorem tx_least35 {post : Int32 → SX → Prop} {n c t u : Nat} (hn : n ≤ 8) (hc : c ≤ 16) (av : tv_av aL aR aO n) (rp : tv_rp aL aR aO rl n) (ht : t < 7) (hu : u < 7) (K : ∀ g b', tv_mx (tv_wx aL aR aO cH cF n c u t (2 ^ n)) (-1000000000) g.toInt → ((g = (-1000000000) → post (-3000) (nI n, nI c, fh, ff, fd, fl, aL, aR, aO, cH, cF, lA, lC, rl, b')) ∧ (¬ g = (-1000000000) → ((g = 1000000000 → post (-4000) (nI n, nI c, fh, ff, fd, fl, aL, aR, aO, cH, cF, lA, lC, rl, b')) ∧ (¬ g = 1000000000 → post (-g) (nI n, nI c, fh, ff, fd, fl, aL, aR, aO, cH, cF, lA, lC, rl, b')))))) :
    ∀ (d i m : Nat) (g : Int32) (b : Nat → Int32), i + d = 2 ^ n → d < m → tv_mx (tv_wx aL aR aO cH cF n c u t i) (-1000000000) g.toInt → wX_least_35 post (nI t) (nI u) (nI (2 ^ n)) m g (nI i) (nI n) (nI c) fh ff fd fl aL aR aO cH cF lA lC rl b := by
  have h8 := tv_p8 hn
  have va := tv_av_va av
  intro d
  induction d with
  | zero =>
    intro i m g b hi hm h
    obtain ⟨m, rfl⟩ := tv_q hm
    have e : i = 2 ^ n := by omega
    subst e
    rw [wX_least_35]
    exact br_t (nI_le (Nat.le_refl _) (by omega)) (K g b h)
  | succ d ih =>
    intro i m g b hi hm h
    obtain ⟨m, rfl⟩ := tv_q hm
    rw [wX_least_35]
    have hi2 : i < 2 ^ n := by omega
    have hV : ∀ q v, tv_vx (tv_L aL) (tv_L aR) (tv_O aO) n q u t 27 v → -1000000000 < v := by
      rintro q v ⟨o, ho, _, rfl⟩
      have := tv_low (p := q) va ho hu ht
      omega
    have hW : ∀ v, tv_wx aL aR aO cH cF n c u t i v → -1000000000 < v := by
      rintro v ⟨q, _, _, z⟩
      exact hV q v z
    refine br_f (nI_ge (by omega) (by omega)) (tx_good hn hc hi2 rp (fun gd => br_f (by decide) (tx_gd hn (by omega) av hu ht (fun r b1 m1 => ?_))) (fun gd => br_t rfl (nm_r (nI_1 i) (ih (i + 1) m g b (by omega) (by omega) (tv_mx_c h ?_)))))
    · have un := tv_mx_un (P' := tv_wx aL aR aO cH cF n c u t (i + 1)) hW (hV i) h m1 (by
        intro v
        constructor
        · rintro ⟨q, hq, gq, ev⟩
          by_cases z : q = i
          · subst z; exact Or.inr ev
          · exact Or.inl ⟨q, by omega, gq, ev⟩
        · rintro (⟨q, hq, gq, ev⟩ | ev)
          · exact ⟨q, by omega, gq, ev⟩
          · exact ⟨i, by omega, gd, ev⟩)
      refine br_c (fun c1 => ?_) (fun c1 => ?_)
      · rw [tv_eI] at c1
        exact nm_r (nI_1 i) (ih (i + 1) m g b1 (by omega) (by omega) (un.2 (by omega)))
      · rw [tv_eI] at c1
        exact nm_r (nI_1 i) (ih (i + 1) m r b1 (by omega) (by omega) (un.1 (by omega)))
    · intro v
      constructor
      · rintro ⟨q, hq, gq, ev⟩
        by_cases z : q = i
        · subst z; exact absurd gq gd
        · exact ⟨q, by omega, gq, ev⟩
      · rintro ⟨q, hq, gq, ev⟩
        exact ⟨q, by omega, gq, ev⟩
theorem tx_pattern15 {post : Int32 → Prop} {n c s : Nat} (hn : n ≤ 8) (hc : c ≤ 16) (rp : tv_rp aL aR aO rl n) (K1 : ∀ q, s ≤ q → q < 2 ^ n → tv_g aL aR aO cH cF n c (-1) q → (∀ p, s ≤ p → p < q → ¬ tv_g aL aR aO cH cF n c (-1) p) → post (nI q)) (K0 : (∀ p, s ≤ p → p < 2 ^ n → ¬ tv_g aL aR aO cH cF n c (-1) p) → post (-3000)) :
    ∀ d i m : Nat, i + d = 2 ^ n → d < m → s ≤ i → (∀ p, s ≤ p → p < i → ¬ tv_g aL aR aO cH cF n c (-1) p) → wX_pattern_15 post (nI (2 ^ n)) (nI n) (nI c) fh ff fd fl aL aR aO cH cF lA lC rl bd m (nI i) := by
  have h8 := tv_p8 hn
  intro d
  induction d with
  | zero =>
    intro i m hi hm hs h
    obtain ⟨m, rfl⟩ := tv_q hm
    have e : i = 2 ^ n := by omega
    subst e
    rw [wX_pattern_15]
    exact br_t (nI_le (Nat.le_refl _) (by omega)) (K0 h)
  | succ d ih =>
    intro i m hi hm hs h
    obtain ⟨m, rfl⟩ := tv_q hm
    rw [wX_pattern_15]
    have hi2 : i < 2 ^ n := by omega
    refine br_f (nI_ge (by omega) (by omega)) (tx_good hn hc hi2 rp (fun g => br_f (by decide) (K1 i hs hi2 g h)) (fun g => br_t rfl (nm_r (nI_1 i) (ih (i + 1) m (by omega) (by omega) (by omega) ?_))))
    intro p h1 h2
    by_cases z : p = i
    · subst z; exact g
    · exact h p h1 (by omega)
theorem tx_patterns9 {post : Int32 → Prop} {n c : Nat} (hn : n ≤ 8) (hc : c ≤ 16) (rp : tv_rp aL aR aO rl n) (K : post (nI (tv_cn (tv_g aL aR aO cH cF n c (-1)) (2 ^ n)))) :
    ∀ d i m : Nat, i + d = 2 ^ n → d < m → wX_patterns_9 post (nI (2 ^ n)) (nI n) (nI c) fh ff fd fl aL aR aO cH cF lA lC rl bd m (nI (tv_cn (tv_g aL aR aO cH cF n c (-1)) i)) (nI i) := by
  have h8 := tv_p8 hn
  intro d
  induction d with
  | zero =>
    intro i m hi hm
    obtain ⟨m, rfl⟩ := tv_q hm
    have e : i = 2 ^ n := by omega
    subst e
    rw [wX_patterns_9]
    exact br_t (nI_le (Nat.le_refl _) (by omega)) K
  | succ d ih =>
    intro i m hi hm
    obtain ⟨m, rfl⟩ := tv_q hm
    rw [wX_patterns_9]
    have hi2 : i < 2 ^ n := by omega
    have k := ih (i + 1) m (by omega) (by omega)
    refine br_f (nI_ge (by omega) (by omega)) (tx_good hn hc hi2 rp (fun g => br_f (by decide) ?_) (fun g => br_t rfl ?_))
    · rw [tv_cn_t g] at k
      exact nm_r (nI_1 _) (nm_r (nI_1 i) k)
    · rw [tv_cn_f g] at k
      exact nm_r (nI_1 i) k
theorem tx_und56 {post : Int32 → Prop} {n : Nat} {x : Int32} (hn : n ≤ 8) (K : post (tv_us x n)) : ∀ d i m : Nat, i + d = n → d < m → wX_undecided_56 post x (nI n) fc fh ff fd fl aL aR aO cH cF lA lC rl bd m (tv_us x i) (nI i) := by
  intro d
  induction d with
  | zero =>
    intro i m hi hm
    obtain ⟨m, rfl⟩ := tv_q hm
    have e : i = n := by omega
    subst e
    rw [wX_undecided_56]
    exact br_t (nI_le (Nat.le_refl _) (by omega)) K
  | succ d ih =>
    intro i m hi hm
    obtain ⟨m, rfl⟩ := tv_q hm
    rw [wX_undecided_56]
    exact br_f (nI_ge (by omega) (by omega)) (nm_e (nm_r (nI_1 i) (ih (i + 1) m (by omega) (by omega))))
theorem tx_und12 {post : Int32 → Prop} {n c : Nat} (hn : n ≤ 8) (hc : c ≤ 16) (rp : tv_rp aL aR aO rl n) (K : post (tv_us ((tv_fo (tv_g aL aR aO cH cF n c (-1)) tv_un (0, 0) (2 ^ n)).1 &&& (tv_fo (tv_g aL aR aO cH cF n c (-1)) tv_un (0, 0) (2 ^ n)).2) n)) :
    ∀ d i m : Nat, i + d = 2 ^ n → d < m → wX_undecided_12 post (nI (2 ^ n)) (nI n) (nI c) fh ff fd fl aL aR aO cH cF lA lC rl bd m (tv_fo (tv_g aL aR aO cH cF n c (-1)) tv_un (0, 0) i).1 (tv_fo (tv_g aL aR aO cH cF n c (-1)) tv_un (0, 0) i).2 (nI i) := by
  have h8 := tv_p8 hn
  intro d
  induction d with
  | zero =>
    intro i m hi hm
    obtain ⟨m, rfl⟩ := tv_q hm
    have e : i = 2 ^ n := by omega
    subst e
    rw [wX_undecided_12]
    exact br_t (nI_le (Nat.le_refl _) (by omega)) (nm_e ⟨n + 1, tx_und56 hn K n 0 (n + 1) (by omega) (by omega)⟩)
  | succ d ih =>
    intro i m hi hm
    obtain ⟨m, rfl⟩ := tv_q hm
    rw [wX_undecided_12]
    have hi2 : i < 2 ^ n := by omega
    have k := ih (i + 1) m (by omega) (by omega)
    refine br_f (nI_ge (by omega) (by omega)) (tx_good hn hc hi2 rp (fun g => br_f (by decide) ?_) (fun g => br_t rfl ?_))
    · rw [tv_fo_t g] at k
      exact nm_e (nm_e (nm_r (nI_1 i) k))
    · rw [tv_fo_f g] at k
      exact nm_r (nI_1 i) k
theorem tx_shut7 {post : Int32 → Prop} {n c k : Nat} (hn : n ≤ 8) (hc : c ≤ 16) (hk : k < c) (rp : tv_rp aL aR aO rl n) (K1 : (∃ p, p < 2 ^ n ∧ tv_g aL aR aO cH cF n c (nI k) p ∧ ¬ tv_xm (cH k) (cF k) p) → post 1) (K0 : (∀ p, p < 2 ^ n → tv_g aL aR aO cH cF n c (nI k) p → tv_xm (cH k) (cF k) p) → post 0) :
    ∀ d i m : Nat, i + d = 2 ^ n → d < m → (∀ p, p < i → tv_g aL aR aO cH cF n c (nI k) p → tv_xm (cH k) (cF k) p) → wX_shutsOutAlone_7 post (nI k) (nI (2 ^ n)) (nI n) (nI c) fh ff fd fl aL aR aO cH cF lA lC rl bd m (nI i) := by
  have h8 := tv_p8 hn
  intro d
  induction d with
  | zero =>
    intro i m hi hm h
    obtain ⟨m, rfl⟩ := tv_q hm
    have e : i = 2 ^ n := by omega
    subst e
    rw [wX_shutsOutAlone_7]
    exact br_t (nI_le (Nat.le_refl _) (by omega)) (K0 h)
  | succ d ih =>
    intro i m hi hm h
    obtain ⟨m, rfl⟩ := tv_q hm
    rw [wX_shutsOutAlone_7]
    dsimp only
    rw [nI_clamp (show k < 2 ^ 31 by omega)]
    have w : vp_in (nI k) 16 := vp_in_nI (by omega) (by omega)
    have hi2 : i < 2 ^ n := by omega
    have nx : (tv_g aL aR aO cH cF n c (nI k) i → tv_xm (cH k) (cF k) i) → ∀ y, y = nI i + 1 → wX_shutsOutAlone_7 post (nI k) (nI (2 ^ n)) (nI n) (nI c) fh ff fd fl aL aR aO cH cF lA lC rl bd m y := fun g => nm_r (nI_1 i) (ih (i + 1) m (by omega) (by omega) (lt_s h g))
    exact br_f (nI_ge (by omega) (by omega)) (tx_real hn hi2 rp (fun f => br_f (by decide) ⟨w, w, tx_met (fun g => br_f (by decide) (nx (fun _ => g))) (fun g => br_t rfl (tx_mab hc (fun q => br_f (by decide) (K1 ⟨i, hi2, ⟨⟨hi2, f⟩, q⟩, g⟩)) (fun q => br_t rfl (nx (fun z => absurd z.2 q)))))⟩) (fun f => br_t rfl (nx (fun z => absurd z.1.2 f))))
theorem tx_spare4 {post : Int32 → Prop} {n c : Nat} (hn : n ≤ 8) (hc : c ≤ 16) (rp : tv_rp aL aR aO rl n) (K : post (nI (tv_cn (fun k => ∀ p, p < 2 ^ n → tv_g aL aR aO cH cF n c (nI k) p → tv_xm (cH k) (cF k) p) c))) :
    ∀ d k m : Nat, k + d = c → d < m → wX_spare_4 post (nI n) (nI c) fh ff fd fl aL aR aO cH cF lA lC rl bd m (nI (tv_cn (fun k => ∀ p, p < 2 ^ n → tv_g aL aR aO cH cF n c (nI k) p → tv_xm (cH k) (cF k) p) k)) (nI k) := by
  intro d
  induction d with
  | zero =>
    intro k m hi hm
    obtain ⟨m, rfl⟩ := tv_q hm
    have e : k = c := by omega
    subst e
    rw [wX_spare_4]
    exact br_t (nI_le (Nat.le_refl _) (by omega)) K
  | succ d ih =>
    intro k m hi hm
    obtain ⟨m, rfl⟩ := tv_q hm
    rw [wX_spare_4]
    have q := ih (k + 1) m (by omega) (by omega)
    refine br_f (nI_ge (by omega) (by omega)) ?_
    unfold wpX_shutsOutAlone
    dsimp only
    refine tx_count hn ⟨2 ^ n + 1, tx_shut7 hn hc (by omega) rp (fun z => br_f (by decide) ?_) (fun z => br_t rfl ?_) (2 ^ n) 0 (2 ^ n + 1) (by omega) (by omega) (fun p hp => absurd hp (by omega))⟩
    · rw [tv_cn_f (fun y => by obtain ⟨p, h1, h2, h3⟩ := z; exact h3 (y p h1 h2))] at q
      exact nm_r (nI_1 k) q
    · rw [tv_cn_t z] at q
      exact nm_r (nI_1 _) (nm_r (nI_1 k) q)
end
end
section
theorem tv_i3 (z : Nat) : nI z + 3 = nI (z + 3) := nI_add z 3
theorem tv_MI : (1000000 : Int32).toInt = 1000000 := by decide +kernel
section
variable {fa fc fl kn : Int32} {aL aR aO li sz lA lC fe mo : Nat → Int32}
theorem ty_limit {post : SY → Prop} {A : tv_M} {t u : Nat} {v : Int32} (ht : t < 7) (hu : u < 7) (h : tv_is mo A) (K : ∀ b', tv_is b' (tv_ti A t u v.toInt) → post (fa, fc, fl, kn, aL, aR, aO, li, sz, lA, lC, fe, b')) : wpY_limit post (fa, fc, fl, kn, aL, aR, aO, li, sz, lA, lC, fe, mo) (nI t) (nI u) v := by
  unfold wpY_limit
  dsimp only
  rw [tv_7, nI_clamp (show 7 * t + u < 2 ^ 31 by omega)]
  have w : vp_in (nI (7 * t + u)) 49 := vp_in_nI (by omega) (by omega)
  have e := h t u ht hu
  refine ⟨w, fun c => ⟨w, w, nm_e (K _ ?_)⟩, fun c => ⟨w, nm_e (K _ ?_)⟩⟩
  · rw [tv_eI, e] at c
    refine tv_is_upd ht hu h ?_ ?_
    · unfold tv_ti; rw [if_neg (fun q => by have := q.2.2; omega)]; exact e
    · intro i j hi hj z
      unfold tv_ti
      rw [if_neg (fun q => z ⟨q.1, q.2.1⟩)]
  · rw [tv_eI, e] at c
    refine tv_is_upd ht hu h ?_ ?_
    · unfold tv_ti; rw [if_pos ⟨rfl, rfl, by omega⟩]
    · intro i j hi hj z
      unfold tv_ti
      rw [if_neg (fun q => z ⟨q.1, q.2.1⟩)]
theorem ty_rank {post : Int32 → Prop} {r x : Nat} (hr : r < 27) (hx : x < 3) (K : post (nI (tv_rk r x))) : wpY_rank post (fa, fc, fl, kn, aL, aR, aO, li, sz, lA, lC, fe, mo) (nI r) (nI x) := by
  unfold wpY_rank
  dsimp only
  have r1 : nI r - nI r / 3 * 3 = nI (r % 3) := tv_r3 (by omega)
  have r2 : nI r / 3 = nI (r / 3) := tv_d3 (by omega)
  have r3 : nI (r / 3) - nI (r / 3) / 3 * 3 = nI (r / 3 % 3) := tv_r3 (by omega)
  have r4 : nI r / 9 = nI (r / 9) := tv_d9 (by omega)
  rw [r1, r2, r3, r4]
  have n3 : ¬ (3 : Int32) = 0 := by decide
  have n9 : ¬ (9 : Int32) = 0 := by decide
  have e0 : nI x = 0 ↔ x = 0 := nI_eq (a := x) (b := 0) (by omega) (by omega)
  have e1 : nI x = 1 ↔ x = 1 := nI_eq (a := x) (b := 1) (by omega) (by omega)
  unfold tv_rk at K
  by_cases c0 : x = 0
  · rw [if_pos c0] at K
    exact br_t (e0.mpr c0) ⟨n3, K⟩
  · rw [if_neg c0] at K
    by_cases c1 : x = 1
    · rw [if_pos c1] at K
      exact br_f (fun z => c0 (e0.mp z)) (br_t (e1.mpr c1) ⟨n3, n3, K⟩)
    · rw [if_neg c1] at K
      exact br_f (fun z => c0 (e0.mp z)) (br_f (fun z => c1 (e1.mp z)) ⟨n9, K⟩)
theorem ty_sh87 {post : Int32 → SY → Prop} (K1 : (∀ t, t < 7 → ¬ (mo (7 * t + t)).toInt < 0) → post 1 (fa, fc, fl, kn, aL, aR, aO, li, sz, lA, lC, fe, mo)) (K0 : (∃ t, t < 7 ∧ (mo (7 * t + t)).toInt < 0) → post 0 (fa, fc, fl, kn, aL, aR, aO, li, sz, lA, lC, fe, mo)) :
    ∀ d t m : Nat, t + d = 7 → d < m → (∀ q, q < t → ¬ (mo (7 * q + q)).toInt < 0) → wY_shorten_87 post 7 fa fc fl kn aL aR aO li sz lA lC fe mo m (nI t) := by
  intro d
  induction d with
  | zero =>
    intro t m hi hm h
    obtain ⟨m, rfl⟩ := tv_q hm
    have e : t = 7 := by omega
    subst e
    rw [wY_shorten_87]
    exact br_t (nI_le (Nat.le_refl _) (by omega)) (K1 h)
  | succ d ih =>
    intro t m hi hm h
    obtain ⟨m, rfl⟩ := tv_q hm
    rw [wY_shorten_87]
    dsimp only
    rw [tv_8, show 8 * t = 7 * t + t by omega, nI_clamp (show 7 * t + t < 2 ^ 31 by omega)]
    refine br_f (nI_ge (b := 7) (by omega) (by decide)) ⟨vp_in_nI (by omega) (by omega), ?_, ?_⟩
    · intro c
      rw [tv_eI, tv_z0] at c
      refine nm_r (nI_1 t) (ih (t + 1) m (by omega) (by omega) ?_)
      intro q hq
      by_cases z : q = t
      · subst z; omega
      · exact h q (by omega)
    · intro c
      rw [tv_eI, tv_z0] at c
      exact K0 ⟨t, by omega, by omega⟩
theorem ty_sh9 {post : Int32 → SY → Prop} {J2 : Int32 → (Nat → Int32) → (Nat → Int32) → (Nat → Int32) → (Nat → Int32) → (Nat → Int32) → (Nat → Int32) → (Nat → Int32) → (Nat → Int32) → (Nat → Int32) → Prop} {S S' : tv_M} {w : Nat} (hE : tv_EM 21 S S') (hw : w < 7) (K : ∀ b', tv_jv S S' w 49 b' → J2 (nI (w + 1)) aL aR aO li sz lA lC fe b') :
    ∀ (d i m : Nat) (b : Nat → Int32), i + d = 49 → d < m → tv_jv S S' w i b → wY_shorten_9 post J2 7 (nI w) fa fc fl kn m (nI i) aL aR aO li sz lA lC fe b := by
  intro d
  induction d with
  | zero =>
    intro i m b hi hm h
    obtain ⟨m, rfl⟩ := tv_q hm
    have e : i = 49 := by omega
    subst e
    rw [wY_shorten_9]
    exact br_t (nI_le (Nat.le_refl _) (by omega)) (nm_r (nI_1 w) (K b h))
  | succ d ih =>
    intro i m b hi hm h
    obtain ⟨m, rfl⟩ := tv_q hm
    obtain ⟨t, u, ht, hu, rfl⟩ : ∃ t u, t < 7 ∧ u < 7 ∧ i = 7 * t + u := ⟨i / 7, i % 7, by omega, by omega, by omega⟩
    rw [wY_shorten_9]
    dsimp only
    rw [tv_r7 (show 7 * t + u < 2 ^ 31 by omega), show (7 * t + u) % 7 = u by omega, pk_sub (show u ≤ 7 * t + u by omega), nI_add, tv_7, show 7 * t + u - u + w = 7 * t + w by omega, nI_clamp (show 7 * t + w < 2 ^ 31 by omega), nI_clamp (show 7 * w + u < 2 ^ 31 by omega), nI_clamp (show 7 * t + u < 2 ^ 31 by omega)]
    have n7 : ¬ (7 : Int32) = 0 := by decide
    have w1 : vp_in (nI (7 * t + w)) 49 := vp_in_nI (by omega) (by omega)
    have w2 : vp_in (nI (7 * w + u)) 49 := vp_in_nI (by omega) (by omega)
    have w3 : vp_in (nI (7 * t + u)) 49 := vp_in_nI (by omega) (by omega)
    have st := tv_jv_step hE hw ht hu h
    exact br_f (nI_ge (b := 49) (by omega) (by decide)) ⟨n7, w1, n7, w2, nm_e ⟨w3, br_c (fun c => ⟨w3, w3, nm_e (nm_r (nI_1 _) (ih (7 * t + u + 1) m _ (by omega) (by omega) (st.2 (Int32.not_lt.mpr c))))⟩) (fun c => ⟨w3, nm_e (nm_r (nI_1 _) (ih (7 * t + u + 1) m _ (by omega) (by omega) (st.1 (tv_nle c))))⟩)⟩⟩
theorem ty_sh2 {post : Int32 → SY → Prop} {S S' : tv_M} (hE : tv_EM 21 S S') (hd : ∀ i, i < 7 → S i i ≤ 0) (K1 : tv_Good S → ∀ b', tv_is b' (tv_yw S' 7) → post 1 (fa, fc, fl, kn, aL, aR, aO, li, sz, lA, lC, fe, b')) (K0 : ¬ tv_Good S → ∀ b', post 0 (fa, fc, fl, kn, aL, aR, aO, li, sz, lA, lC, fe, b')) :
    ∀ (d w m : Nat) (b : Nat → Int32), w + d = 7 → d < m → tv_jc S S' w b → wY_shorten_2 post 7 fa fc fl kn m (nI w) aL aR aO li sz lA lC fe b := by
  intro d
  induction d with
  | zero =>
    intro w m b hi hm h
    obtain ⟨m, rfl⟩ := tv_q hm
    have e : w = 7 := by omega
    subst e
    rw [wY_shorten_2]
    have q := tv_jc_last hE hd h
    exact br_t (nI_le (Nat.le_refl _) (by omega)) ⟨8, ty_sh87 (fun z => K1 (q.1 z).1 b (q.1 z).2) (fun z => K0 (q.2 z) b) 7 0 8 (by omega) (by omega) (fun q hq => absurd hq (by omega))⟩
  | succ d ih =>
    intro w m b hi hm h
    obtain ⟨m, rfl⟩ := tv_q hm
    rw [wY_shorten_2]
    have hw : w < 7 := by omega
    exact br_f (nI_ge (b := 7) (by omega) (by decide)) ⟨50, ty_sh9 hE hw (fun b' hb => ih (w + 1) m b' (by omega) (by omega) (tv_jv_end hb)) 49 0 50 b (by omega) (by omega) (tv_jv_start hE hd hw h)⟩
theorem ty_shorten {post : Int32 → SY → Prop} {S S' : tv_M} (hE : tv_EM 21 S S') (hd : ∀ i, i < 7 → S i i ≤ 0) (h : tv_is mo S') (K1 : tv_Good S → ∀ b', tv_is b' (tv_yw S' 7) → post 1 (fa, fc, fl, kn, aL, aR, aO, li, sz, lA, lC, fe, b')) (K0 : ¬ tv_Good S → ∀ b', post 0 (fa, fc, fl, kn, aL, aR, aO, li, sz, lA, lC, fe, b')) : wpY_shorten post (fa, fc, fl, kn, aL, aR, aO, li, sz, lA, lC, fe, mo) 7 := by
  unfold wpY_shorten
  exact ⟨8, ty_sh2 hE hd K1 K0 7 0 8 mo (by omega) (by omega) (Or.inl h)⟩
theorem ty_fm171 {post : Int32 → SY → Prop} {J : Int32 → Int32 → Int32 → Int32 → Int32 → (Nat → Int32) → (Nat → Int32) → (Nat → Int32) → (Nat → Int32) → (Nat → Int32) → (Nat → Int32) → (Nat → Int32) → (Nat → Int32) → (Nat → Int32) → Prop} {A : tv_M} {q one two : Nat} {x2 : Int32} (hq : q < 9) (h1 : one < 3) (h2 : two < 3) (h : tv_is mo A) (K : ∀ b', tv_is b' (tv_tl A (if one = two then [(q / 3 + 3, q % 3 + 3, (0 : Int))] else [])) → J (nI (q + 1)) fa fc fl kn aL aR aO li sz lA lC fe b') : wY_findMost_171 post J x2 (nI q) (nI (q / 3)) (nI (q % 3)) (nI one) (nI two) fa fc fl kn aL aR aO li sz lA lC fe mo := by
  unfold wY_findMost_171
  rw [tv_i3, tv_i3]
  have e : nI one = nI two ↔ one = two := nI_eq (by omega) (by omega)
  by_cases c : one = two
  · refine br_t (e.mpr c) (ty_limit (by omega) (by omega) h (fun b' hb => nm_r (nI_1 q) (K b' ?_)))
    rw [if_pos c]; rw [tv_z0] at hb; exact hb
  · refine br_f (fun z => c (e.mp z)) (nm_r (nI_1 q) (K mo ?_))
    rw [if_neg c]; exact h
theorem ty_fm110 {post : Int32 → SY → Prop} {n p r : Nat} (hr : r < 27) (va : tv_va (tv_L aL) (tv_L aR) (tv_O aO) n) (K1 : tv_Good (tv_SY 1000000000 (tv_L aL) (tv_L aR) (tv_O aO) n p r) → ∀ b', tv_is b' (tv_yw (tv_SY 1000000 (tv_L aL) (tv_L aR) (tv_O aO) n p r) 7) → post 1 (fa, fc, fl, kn, aL, aR, aO, li, sz, lA, lC, fe, b')) (K0 : ¬ tv_Good (tv_SY 1000000000 (tv_L aL) (tv_L aR) (tv_O aO) n p r) → ∀ b', post 0 (fa, fc, fl, kn, aL, aR, aO, li, sz, lA, lC, fe, b')) :
    ∀ (d q m : Nat) (b : Nat → Int32), q + d = 9 → d < m → tv_is b (tv_tl (tv_at 1000000 (tv_L aL) (tv_L aR) (tv_O aO) p n) (tv_cy r q)) → wY_findMost_110 post (nI r) m (nI q) fa fc fl kn aL aR aO li sz lA lC fe b := by
  intro d
  induction d with
  | zero =>
    intro q m b hi hm h
    obtain ⟨m, rfl⟩ := tv_q hm
    have e : q = 9 := by omega
    subst e
    rw [wY_findMost_110]
    exact br_t (nI_le (Nat.le_refl _) (by omega)) (ty_shorten (S := tv_SY 1000000000 (tv_L aL) (tv_L aR) (tv_O aO) n p r) (S' := tv_SY 1000000 (tv_L aL) (tv_L aR) (tv_O aO) n p r) (tv_SY_E va hr) (fun i _ => tv_SY_d va r i) h (fun g b' hb => ⟨rfl, K1 g b' hb⟩) (fun g b' => ⟨rfl, K0 g b'⟩))
  | succ d ih =>
    intro q m b hi hm h
    obtain ⟨m, rfl⟩ := tv_q hm
    rw [wY_findMost_110]
    dsimp only
    rw [tv_r3 (show q < 2 ^ 31 by omega), tv_d3 (show q < 2 ^ 31 by omega)]
    have n3 : ¬ (3 : Int32) = 0 := by decide
    have k1 := tv_rk3 r hr (q / 3) (by omega)
    have k2 := tv_rk3 r hr (q % 3) (by omega)
    have go : ∀ (b1 : Nat → Int32) (l : List (Nat × Nat × Int)), l = (if tv_rk r (q / 3) ≤ tv_rk r (q % 3) then [(q / 3, q % 3, if tv_rk r (q / 3) < tv_rk r (q % 3) then (-1 : Int) else 0)] else []) → tv_is b1 (tv_tl (tv_tl (tv_at 1000000 (tv_L aL) (tv_L aR) (tv_O aO) p n) (tv_cy r q)) l) → wY_findMost_171 post (wY_findMost_110 post (nI r) m) (nI r) (nI q) (nI (q / 3)) (nI (q % 3)) (nI (tv_rk r (q / 3))) (nI (tv_rk r (q % 3))) fa fc fl kn aL aR aO li sz lA lC fe b1 := by
      intro b1 l el hb
      refine ty_fm171 (by omega) k1 k2 hb (fun b' hb' => ih (q + 1) m b' (by omega) (by omega) ?_)
      show tv_is b' (tv_tl _ (tv_cy r q ++ tv_cy1 r q))
      unfold tv_cy1
      rw [tv_tl_app, tv_tl_app, ← el]
      exact hb'
    refine br_f (nI_ge (b := 9) (by omega) (by decide)) ⟨n3, nm_e ⟨n3, nm_e (ty_rank hr (by omega) (ty_rank hr (by omega) (pk_lt (tv_rk r (q % 3)) (tv_rk r (q / 3)) (fun c => ?_) (fun c => pk_le (tv_rk r (q % 3)) (tv_rk r (q / 3)) (fun c2 => ?_) (fun c2 => ?_)))))⟩⟩
    · exact go b [] (by rw [if_neg (by omega)]) h
    · unfold wY_findMost_168
      refine ty_limit (by omega) (by omega) h (fun b' hb => go b' [(q / 3, q % 3, 0)] (by rw [if_pos (by omega), if_neg (by omega)]) ?_)
      rw [tv_z0] at hb; exact hb
    · unfold wY_findMost_168
      refine ty_limit (by omega) (by omega) h (fun b' hb => go b' [(q / 3, q % 3, -1)] (by rw [if_pos (by omega), if_pos (by omega)]) ?_)
      rw [tv_m1] at hb; exact hb
theorem ty_fm35 {post : Int32 → SY → Prop} {n p r : Nat} (hr : r < 27) (hn : n ≤ 8) (hp : p < 2147483648) (av : tv_av aL aR aO n) (K1 : tv_Good (tv_SY 1000000000 (tv_L aL) (tv_L aR) (tv_O aO) n p r) → ∀ b', tv_is b' (tv_yw (tv_SY 1000000 (tv_L aL) (tv_L aR) (tv_O aO) n p r) 7) → post 1 (nI n, fc, fl, kn, aL, aR, aO, li, sz, lA, lC, fe, b')) (K0 : ¬ tv_Good (tv_SY 1000000000 (tv_L aL) (tv_L aR) (tv_O aO) n p r) → ∀ b', post 0 (nI n, fc, fl, kn, aL, aR, aO, li, sz, lA, lC, fe, b')) :
    ∀ (d i m : Nat) (b : Nat → Int32), i + d = n → d < m → tv_is b (tv_at 1000000 (tv_L aL) (tv_L aR) (tv_O aO) p i) → wY_findMost_35 post (nI p) (nI r) m (nI i) (nI n) fc fl kn aL aR aO li sz lA lC fe b := by
  intro d
  induction d with
  | zero =>
    intro i m b hi hm h
    obtain ⟨m, rfl⟩ := tv_q hm
    have e : i = n := by omega
    subst e
    rw [wY_findMost_35]
    exact br_t (nI_le (Nat.le_refl _) (by omega)) ⟨10, ty_fm110 hr (tv_av_va av) K1 K0 9 0 10 b (by omega) (by omega) h⟩
  | succ d ih =>
    intro i m b hi hm h
    obtain ⟨m, rfl⟩ := tv_q hm
    obtain ⟨ta, tb, h1, h2, h3, e1, e2, e3, e4⟩ := av i (by omega)
    rw [wY_findMost_35]
    dsimp only
    have w : vp_in (nI i) 8 := vp_in_nI (by omega) (by omega)
    have ec : (nI i).toNatClampNeg = i := nI_clamp (by omega)
    have eL : tv_L aL i = ta := by show (aL i).toNatClampNeg = ta; rw [e1]; exact nI_clamp (by omega)
    have eR : tv_L aR i = tb := by show (aR i).toNatClampNeg = tb; rw [e2]; exact nI_clamp (by omega)
    rw [ec, e1, e2, tv_bit hp (by omega)]
    refine br_f (nI_ge (by omega) (by omega)) ?_
    by_cases c : p / 2 ^ i % 2 = 1
    · refine br_t (by rw [c]; rfl) ⟨w, w, w, ty_limit h1 h2 h (fun b' hb => nm_r (nI_1 i) (ih (i + 1) m b' (by omega) (by omega) ?_))⟩
      show tv_is b' (if p / 2 ^ i % 2 = 1 then _ else _)
      rw [if_pos c, eL, eR]; exact hb
    · have c0 : p / 2 ^ i % 2 = 0 := by
        have := Nat.mod_lt (p / 2 ^ i) (show 0 < 2 by decide)
        omega
      refine br_f (by rw [c0]; decide) ⟨w, w, w, ty_limit h2 h1 h (fun b' hb => nm_r (nI_1 i) (ih (i + 1) m b' (by omega) (by omega) ?_))⟩
      show tv_is b' (if p / 2 ^ i % 2 = 1 then _ else _)
      rw [tv_off e3 e4] at hb
      rw [if_neg c, eL, eR]; exact hb
theorem ty_fm2 {post : Int32 → SY → Prop} {n p r : Nat} (hr : r < 27) (hn : n ≤ 8) (hp : p < 2147483648) (av : tv_av aL aR aO n) (K1 : tv_Good (tv_SY 1000000000 (tv_L aL) (tv_L aR) (tv_O aO) n p r) → ∀ b', tv_is b' (tv_yw (tv_SY 1000000 (tv_L aL) (tv_L aR) (tv_O aO) n p r) 7) → post 1 (nI n, fc, fl, kn, aL, aR, aO, li, sz, lA, lC, fe, b')) (K0 : ¬ tv_Good (tv_SY 1000000000 (tv_L aL) (tv_L aR) (tv_O aO) n p r) → ∀ b', post 0 (nI n, fc, fl, kn, aL, aR, aO, li, sz, lA, lC, fe, b')) :
    ∀ (d k m : Nat) (b : Nat → Int32), k + d = 49 → d < m → (∀ q, q < k → b q = if q % 8 = 0 then 0 else 1000000) → wY_findMost_2 post (nI p) (nI r) (nI n) fc fl kn m (nI k) aL aR aO li sz lA lC fe b := by
  intro d
  induction d with
  | zero =>
    intro k m b hi hm h
    obtain ⟨m, rfl⟩ := tv_q hm
    have e : k = 49 := by omega
    subst e
    rw [wY_findMost_2]
    refine br_t (nI_le (Nat.le_refl _) (by omega)) ⟨n + 1, ty_fm35 hr hn hp av K1 K0 n 0 (n + 1) b (by omega) (by omega) ?_⟩
    intro i j h1 h2
    rw [h _ (by omega)]
    show _ = (if i = j then (0 : Int) else 1000000)
    by_cases z : i = j
    · rw [if_pos z, if_pos (by omega)]; exact tv_z0
    · rw [if_neg z, if_neg (by omega)]; exact tv_MI
  | succ d ih =>
    intro k m b hi hm h
    obtain ⟨m, rfl⟩ := tv_q hm
    rw [wY_findMost_2]
    dsimp only
    rw [tv_r8 (show k < 2 ^ 31 by omega), nI_clamp (show k < 2 ^ 31 by omega)]
    have n8 : ¬ (8 : Int32) = 0 := by decide
    have w : vp_in (nI k) 49 := vp_in_nI (by omega) (by omega)
    have e : nI (k % 8) = 0 ↔ k % 8 = 0 := nI_eq (a := k % 8) (b := 0) (by omega) (by omega)
    have up : ∀ v : Int32, v = (if k % 8 = 0 then 0 else 1000000) → ∀ q, q < k + 1 → upd b k v q = if q % 8 = 0 then 0 else 1000000 := by
      intro v hv q hq
      by_cases z : q = k
      · subst z; rw [pk_us]; exact hv
      · rw [pk_un z]; exact h q (by omega)
    refine br_f (nI_ge (b := 49) (by omega) (by decide)) ⟨n8, ?_⟩
    by_cases c : k % 8 = 0
    · exact br_t (e.mpr c) ⟨w, nm_e (nm_r (nI_1 k) (ih (k + 1) m _ (by omega) (by omega) (up 0 (if_pos c).symm)))⟩
    · exact br_f (fun z => c (e.mp z)) ⟨w, nm_e (nm_r (nI_1 k) (ih (k + 1) m _ (by omega) (by omega) (up 1000000 (if_neg c).symm)))⟩
theorem ty_findMost {post : Int32 → SY → Prop} {n p r : Nat} (hr : r < 27) (hn : n ≤ 8) (hp : p < 2147483648) (av : tv_av aL aR aO n) (K1 : tv_Good (tv_SY 1000000000 (tv_L aL) (tv_L aR) (tv_O aO) n p r) → ∀ b', tv_is b' (tv_yw (tv_SY 1000000 (tv_L aL) (tv_L aR) (tv_O aO) n p r) 7) → post 1 (nI n, fc, fl, kn, aL, aR, aO, li, sz, lA, lC, fe, b')) (K0 : ¬ tv_Good (tv_SY 1000000000 (tv_L aL) (tv_L aR) (tv_O aO) n p r) → ∀ b', post 0 (nI n, fc, fl, kn, aL, aR, aO, li, sz, lA, lC, fe, b')) : wpY_findMost post (nI n, fc, fl, kn, aL, aR, aO, li, sz, lA, lC, fe, mo) (nI p) (nI r) := by
  unfold wpY_findMost
  exact ⟨50, ty_fm2 hr hn hp av K1 K0 49 0 50 mo (by omega) (by omega) (fun q hq => absurd hq (by omega))⟩
theorem ty_isOrder {post : Int32 → Prop} {r : Nat} (hr : r < 27) (K1 : tv_io r = true → post 1) (K0 : ¬ tv_io r = true → post 0) : wpY_isOrder post (fa, fc, fl, kn, aL, aR, aO, li, sz, lA, lC, fe, mo) (nI r) := by
  unfold wpY_isOrder
  dsimp only
  have e := tv_iot r hr
  have k0 := tv_rk3 r hr 0 (by omega)
  have k1 := tv_rk3 r hr 1 (by omega)
  have k2 := tv_rk3 r hr 2 (by omega)
  refine ty_rank (x := 0) hr (by omega) (ty_rank (x := 1) hr (by omega) (ty_rank (x := 2) hr (by omega) ?_))
  rw [tv_pow (show tv_rk r 0 < 31 by omega), tv_pow (show tv_rk r 1 < 31 by omega), tv_pow (show tv_rk r 2 < 31 by omega)]
  exact nm_e (br_c (fun c => K1 (e.mp (Or.inl c))) (fun c => br_c (fun c2 => K1 (e.mp (Or.inr (Or.inl c2)))) (fun c2 => br_c (fun c3 => K1 (e.mp (Or.inr (Or.inr c3)))) (fun c3 => K0 (fun z => by
    rcases e.mpr z with q | q | q
    · exact c q
    · exact c2 q
    · exact c3 q)))))
theorem ty_feas2 {post : Int32 → SY → Prop} {n p : Nat} (hn : n ≤ 8) (hp : p < 2147483648) (av : tv_av aL aR aO n) (K1 : tv_Fe (tv_L aL) (tv_L aR) (tv_O aO) n p → ∀ b', post 1 (nI n, fc, fl, kn, aL, aR, aO, li, sz, lA, lC, fe, b')) (K0 : ¬ tv_Fe (tv_L aL) (tv_L aR) (tv_O aO) n p → ∀ b', post 0 (nI n, fc, fl, kn, aL, aR, aO, li, sz, lA, lC, fe, b')) :
    ∀ (d o m : Nat) (b : Nat → Int32), o + d = 27 → d < m → (∀ q, q < o → tv_io q = true → ¬ tv_Good (tv_SY 1000000000 (tv_L aL) (tv_L aR) (tv_O aO) n p q)) → wY_isFeasible_2 post (nI p) m (nI o) (nI n) fc fl kn aL aR aO li sz lA lC fe b := by
  have va := tv_av_va av
  intro d
  induction d with
  | zero =>
    intro o m b hi hm h
    obtain ⟨m, rfl⟩ := tv_q hm
    have e : o = 27 := by omega
    subst e
    rw [wY_isFeasible_2]
    refine br_t (nI_le (Nat.le_refl _) (by omega)) (K0 (fun z => ?_) b)
    obtain ⟨r, hr, hi, g⟩ := (tv_Fe_Y va).mp z
    exact h r hr hi g
  | succ d ih =>
    intro o m b hi hm h
    obtain ⟨m, rfl⟩ := tv_q hm
    rw [wY_isFeasible_2]
    have ho : o < 27 := by omega
    have nx : ∀ b', (tv_io o = true → ¬ tv_Good (tv_SY 1000000000 (tv_L aL) (tv_L aR) (tv_O aO) n p o)) → ∀ y, y = nI o + 1 → wY_isFeasible_2 post (nI p) m y (nI n) fc fl kn aL aR aO li sz lA lC fe b' := fun b' g => nm_r (nI_1 o) (ih (o + 1) m b' (by omega) (by omega) (lt_s h g))
    exact br_f (nI_ge (b := 27) (by omega) (by decide)) (ty_isOrder ho (fun io => br_f (by decide) (ty_findMost ho hn hp av (fun g b' _ => br_f (by decide) (K1 ((tv_Fe_Y va).mpr ⟨o, ho, io, g⟩) b')) (fun g b' => br_t rfl (nx b' (fun _ => g))))) (fun io => br_t rfl (nx b (fun z => absurd z io))))
theorem ty_feas {post : Int32 → SY → Prop} {n p : Nat} (hn : n ≤ 8) (hp : p < 2147483648) (av : tv_av aL aR aO n) (K1 : tv_Fe (tv_L aL) (tv_L aR) (tv_O aO) n p → ∀ b', post 1 (nI n, fc, fl, kn, aL, aR, aO, li, sz, lA, lC, fe, b')) (K0 : ¬ tv_Fe (tv_L aL) (tv_L aR) (tv_O aO) n p → ∀ b', post 0 (nI n, fc, fl, kn, aL, aR, aO, li, sz, lA, lC, fe, b')) : wpY_isFeasible post (nI n, fc, fl, kn, aL, aR, aO, li, sz, lA, lC, fe, mo) (nI p) := by
  unfold wpY_isFeasible
  exact ⟨28, ty_feas2 hn hp av K1 K0 27 0 28 mo (by omega) (by omega) (fun q hq => absurd hq (by omega))⟩
end
end
section
/-- the reference's table holds the real patterns -/
def tv_kr (aL aR aO fe : Nat → Int32) (n : Nat) : Prop := ∀ p, p < 256 → fe p = tv_i (tv_F aL aR aO n p)
/-- what next answers -/
def tv_nx (G : Nat → Prop) (s : Nat) (r : Int32) : Prop := (∃ q, r = nI q ∧ s ≤ q ∧ q < 256 ∧ G q ∧ ∀ p, s ≤ p → p < q → ¬ G p) ∨ (r = -3000 ∧ ∀ p, s ≤ p → p < 256 → ¬ G p)
/-- some rank order lets t and u differ -/
def tv_DY (L R : Nat → Nat) (O : Nat → Int) (n p t u m : Nat) : Prop := ∃ r, r < m ∧ tv_io r = true ∧ tv_Good (tv_SY 1000000000 L R O n p r) ∧ (¬ tv_yw (tv_SY 1000000 L R O n p r) 7 t u = 0 ∨ ¬ tv_yw (tv_SY 1000000 L R O n p r) 7 u t = 0)
def tv_vy (L R : Nat → Nat) (O : Nat → Int) (n p t u m : Nat) (v : Int) : Prop := ∃ r, r < m ∧ tv_io r = true ∧ tv_Good (tv_SY 1000000000 L R O n p r) ∧ v = tv_yw (tv_SY 1000000 L R O n p r) 7 t u
def tv_wy (aL aR aO cH cF : Nat → Int32) (n c t u m : Nat) (v : Int) : Prop := ∃ q, q < m ∧ tv_g aL aR aO cH cF n c (-1) q ∧ tv_vy (tv_L aL) (tv_L aR) (tv_O aO) n q t u 27 v
theorem tv_SY_E7 {L R : Nat → Nat} {O : Nat → Int} {n p r : Nat} (h : tv_va L R O n) (hr : r < 27) : tv_EM 2688 (tv_fw (tv_SY 1000000000 L R O n p r) 7) (tv_yw (tv_SY 1000000 L R O n p r) 7) := by
  have e : tv_bd 7 = 2688 := by decide +kernel
  rw [← e]
  exact tv_EM_fw (tv_SY_E h hr) 7 (Nat.le_refl 7)
theorem tv_DXY {L R : Nat → Nat} {O : Nat → Int} {n p t u : Nat} (h : tv_va L R O n) (ht : t < 7) (hu : u < 7) : tv_DX L R O n p t u ↔ tv_DY L R O n p t u 27 := by
  constructor
  · rintro ⟨o, ho, g, z⟩
    obtain ⟨r, hr, hi, g', e⟩ := tv_toY h ho g
    rw [e t u ht hu, e u t hu ht] at z
    exact ⟨r, hr, hi, g', (tv_diff ht hu (tv_SY_B h hr) g' (tv_SY_E7 h hr)).mpr z⟩
  · rintro ⟨r, hr, hi, g, z⟩
    obtain ⟨o, ho, g', e⟩ := tv_toX h hr hi g
    refine ⟨o, ho, g', ?_⟩
    rw [e t u ht hu, e u t hu ht]
    exact (tv_diff ht hu (tv_SY_B h hr) g (tv_SY_E7 h hr)).mp z
theorem tv_vxy {L R : Nat → Nat} {O : Nat → Int} {n p t u : Nat} (h : tv_va L R O n) (ht : t < 7) (hu : u < 7) : (∀ v, tv_vx L R O n p t u 27 v → ∃ w, tv_vy L R O n p t u 27 w ∧ tv_E 2688 v w) ∧ (∀ w, tv_vy L R O n p t u 27 w → ∃ v, tv_vx L R O n p t u 27 v ∧ tv_E 2688 v w) := by
  constructor
  · rintro v ⟨o, ho, g, rfl⟩
    obtain ⟨r, hr, hi, g', e⟩ := tv_toY h ho g
    exact ⟨_, ⟨r, hr, hi, g', rfl⟩, by rw [e t u ht hu]; exact tv_SY_E7 h hr t u ht hu⟩
  · rintro w ⟨r, hr, hi, g, rfl⟩
    obtain ⟨o, ho, g', e⟩ := tv_toX h hr hi g
    exact ⟨_, ⟨o, ho, g', rfl⟩, by rw [e t u ht hu]; exact tv_SY_E7 h hr t u ht hu⟩
theorem tv_vy_low {L R : Nat → Nat} {O : Nat → Int} {n p t u m : Nat} {v : Int} (h : tv_va L R O n) (hm : m ≤ 27) (ht : t < 7) (hu : u < 7) (hv : tv_vy L R O n p t u m v) : -3000 < v := by
  obtain ⟨r, hr, hi, g, rfl⟩ := hv
  have e := tv_SY_E7 (p := p) h (show r < 27 by omega) t u ht hu
  unfold tv_E at e
  omega
theorem tv_3k : (-3000 : Int32) < 0 := by decide
section
variable {fa fc fl kn : Int32} {aL aR aO li sz lA lC fe mo : Nat → Int32} {cH cF : Nat → Int32}
theorem ty_ff2 {post : SY → Prop} {n : Nat} (hn : n ≤ 8) (av : tv_av aL aR aO n) (K : ∀ f' b', tv_kr aL aR aO f' n → post (nI n, fc, fl, 1, aL, aR, aO, li, sz, lA, lC, f', b')) :
    ∀ (d i m : Nat) (f b : Nat → Int32), i + d = 256 → d < m → (∀ q, q < i → f q = tv_i (tv_F aL aR aO n q)) → wY_findFeasible_2 post m (nI i) (nI n) fc fl 0 aL aR aO li sz lA lC f b := by
  have h8 := tv_p8 hn
  intro d
  induction d with
  | zero =>
    intro i m f b hi hm h
    obtain ⟨m, rfl⟩ := tv_q hm
    have e : i = 256 := by omega
    subst e
    rw [wY_findFeasible_2]
    exact br_t (nI_le (Nat.le_refl _) (by omega)) (K f b h)
  | succ d ih =>
    intro i m f b hi hm h
    obtain ⟨m, rfl⟩ := tv_q hm
    rw [wY_findFeasible_2]
    dsimp only
    rw [tv_pow (show n < 31 by omega), nI_clamp (show i < 2 ^ 31 by omega)]
    have w : vp_in (nI i) 256 := vp_in_nI (by omega) (by omega)
    have up : ∀ v : Int32, v = tv_i (tv_F aL aR aO n i) → ∀ q, q < i + 1 → upd f i v q = tv_i (tv_F aL aR aO n q) := by
      intro v hv q hq
      by_cases z : q = i
      · subst z; rw [pk_us]; exact hv
      · rw [pk_un z]; exact h q (by omega)
    refine br_f (nI_ge (b := 256) (by omega) (by decide)) (br_t rfl (pk_le (2 ^ n) i (fun c => ?_) (fun c => ?_)))
    · exact ⟨w, nm_r (congrArg _ tv_nb0) (nm_r (nI_1 i) (ih (i + 1) m _ b (by omega) (by omega) (up 0 (tv_i_f (fun z => by have := z.1; omega)).symm)))⟩
    · exact ty_feas hn (by omega) av (fun g b' => br_f (by decide) ⟨w, nm_r (congrArg _ tv_nb1) (nm_r (nI_1 i) (ih (i + 1) m _ b' (by omega) (by omega) (up 1 (tv_i_t ⟨c, g⟩).symm)))⟩) (fun g b' => br_t rfl ⟨w, nm_r (congrArg _ tv_nb0) (nm_r (nI_1 i) (ih (i + 1) m _ b' (by omega) (by omega) (up 0 (tv_i_f (fun z => g z.2)).symm)))⟩)
theorem ty_ff {post : SY → Prop} {n : Nat} (hn : n ≤ 8) (av : tv_av aL aR aO n) (hk : tv_kn aL aR aO fe kn n) (K : ∀ f' b', tv_kr aL aR aO f' n → post (nI n, fc, fl, 1, aL, aR, aO, li, sz, lA, lC, f', b')) : wpY_findFeasible post (nI n, fc, fl, kn, aL, aR, aO, li, sz, lA, lC, fe, mo) := by
  unfold wpY_findFeasible
  by_cases c : kn = 0
  · subst c
    exact ⟨257, ty_ff2 hn av K 256 0 257 fe mo (by omega) (by omega) (fun q hq => absurd hq (by omega))⟩
  · refine ⟨1, ?_⟩
    rw [wY_findFeasible_2]
    exact br_f (by decide) (br_f c (K fe mo (hk c)))
theorem ty_meets2 {post : Int32 → Prop} {k s p : Nat} (hk : k < 16) (hp : p < 256) (hs : s ≤ 4) (es : sz k = nI s) (hl : tv_li li (4 * k) s) (K1 : tv_ym li (4 * k) s p → post 1) (K0 : ¬ tv_ym li (4 * k) s p → post 0) :
    ∀ d i m : Nat, i + d = s → d < m → (∀ q, q < i → ¬ tv_lb p (li (4 * k + q)).toNatClampNeg) → wY_meets_2 post (nI p) (nI k) fa fc fl kn aL aR aO li sz lA lC fe mo m (nI i) := by
  intro d
  induction d with
  | zero =>
    intro i m hi hm h
    obtain ⟨m, rfl⟩ := tv_q hm
    have e : i = s := by omega
    subst e
    rw [wY_meets_2]
    dsimp only
    rw [nI_clamp (show k < 2 ^ 31 by omega), es]
    exact ⟨vp_in_nI (by omega) (by omega), br_t (nI_le (Nat.le_refl _) (by omega)) (K0 (fun ⟨q, hq, z⟩ => h q hq z))⟩
  | succ d ih =>
    intro i m hi hm h
    obtain ⟨m, rfl⟩ := tv_q hm
    obtain ⟨j, hj, ej⟩ := hl i (by omega)
    rw [wY_meets_2]
    dsimp only
    rw [tv_4, nI_clamp (show k < 2 ^ 31 by omega), nI_clamp (show 4 * k + i < 2 ^ 31 by omega), es, ej]
    have n2 : ¬ (2 : Int32) = 0 := by decide
    refine ⟨vp_in_nI (by omega) (by omega), br_f (nI_ge (by omega) (by omega)) ⟨vp_in_nI (by omega) (by omega), nm_e ⟨n2, n2, ?_⟩⟩⟩
    rw [tv_r2 (show j < 2 ^ 31 by omega), tv_d2 (show j < 2 ^ 31 by omega), tv_bit (by omega) (by omega)]
    have ec : (li (4 * k + i)).toNatClampNeg = j := by rw [ej]; exact nI_clamp (by omega)
    refine pk_eq (p / 2 ^ (j / 2) % 2) (j % 2) (fun c => ?_) (fun c => ?_) rfl rfl (Nat.lt_trans (Nat.mod_lt _ (by decide)) (by decide)) (by omega)
    · exact nm_r (nI_1 i) (ih (i + 1) m (by omega) (by omega) (lt_s h (by rw [ec]; exact fun z => z c)))
    · exact K1 ⟨i, by omega, by rw [ec]; exact c⟩
theorem ty_meets {post : Int32 → Prop} {k s p : Nat} (hk : k < 16) (hp : p < 256) (hs : s ≤ 4) (es : sz k = nI s) (hl : tv_li li (4 * k) s) (K1 : tv_ym li (4 * k) s p → post 1) (K0 : ¬ tv_ym li (4 * k) s p → post 0) : wpY_meets post (fa, fc, fl, kn, aL, aR, aO, li, sz, lA, lC, fe, mo) (nI p) (nI k) := by
  unfold wpY_meets
  exact ⟨s + 1, ty_meets2 hk hp hs es hl K1 K0 s 0 (s + 1) (by omega) (by omega) (fun q hq => absurd hq (by omega))⟩
theorem ty_good2 {post : Int32 → Prop} {n c p : Nat} {but : Int32} (hc : c ≤ 16) (hp : p < 256) (cs : tv_cs cH cF li sz c) (kr : tv_kr aL aR aO fe n) (K1 : tv_g aL aR aO cH cF n c but p → post 1) (K0 : ¬ tv_g aL aR aO cH cF n c but p → post 0) :
    ∀ d k m : Nat, k + d = c → d < m → (∀ j, j < k → ¬ nI j = but → tv_xm (cH j) (cF j) p) → wY_isGood_2 post (nI p) but fa (nI c) fl kn aL aR aO li sz lA lC fe mo m (nI k) := by
  intro d
  induction d with
  | zero =>
    intro k m hi hm h
    obtain ⟨m, rfl⟩ := tv_q hm
    have e : k = c := by omega
    subst e
    rw [wY_isGood_2]
    dsimp only
    rw [nI_clamp (show p < 2 ^ 31 by omega), kr p hp]
    refine br_t (nI_le (Nat.le_refl _) (by omega)) ⟨vp_in_nI (by omega) (by omega), tv_i_n _, ?_⟩
    by_cases f : tv_F aL aR aO n p
    · rw [tv_i_t f]; exact K1 ⟨f, h⟩
    · rw [tv_i_f f]; exact K0 (fun z => f z.1)
  | succ d ih =>
    intro k m hi hm h
    obtain ⟨m, rfl⟩ := tv_q hm
    obtain ⟨s, hs, es, hl, hx⟩ := cs k (by omega)
    rw [wY_isGood_2]
    exact br_f (nI_ge (by omega) (by omega)) (br_c (fun e => nm_r (nI_1 k) (ih (k + 1) m (by omega) (by omega) (lt_s h (fun z => absurd e z)))) (fun e => ty_meets (by omega) hp hs es hl (fun g => br_f (by decide) (nm_r (nI_1 k) (ih (k + 1) m (by omega) (by omega) (lt_s h (fun _ => (hx p hp).mpr g))))) (fun g => br_t rfl (K0 (fun z => g ((hx p hp).mp (z.2 k (by omega) e)))))))
theorem ty_good {post : Int32 → Prop} {n c p : Nat} {but : Int32} (hc : c ≤ 16) (hp : p < 256) (cs : tv_cs cH cF li sz c) (kr : tv_kr aL aR aO fe n) (K1 : tv_g aL aR aO cH cF n c but p → post 1) (K0 : ¬ tv_g aL aR aO cH cF n c but p → post 0) : wpY_isGood post (fa, nI c, fl, kn, aL, aR, aO, li, sz, lA, lC, fe, mo) (nI p) but := by
  unfold wpY_isGood
  exact ⟨c + 1, ty_good2 hc hp cs kr K1 K0 c 0 (c + 1) (by omega) (by omega) (fun j hj => absurd hj (by omega))⟩
theorem ty_next17 {post : Int32 → SY → Prop} {n c s : Nat} {but : Int32} (hc : c ≤ 16) (cs : tv_cs cH cF li sz c) (kr : tv_kr aL aR aO fe n) (K : ∀ r, tv_nx (tv_g aL aR aO cH cF n c but) s r → post r (fa, nI c, fl, kn, aL, aR, aO, li, sz, lA, lC, fe, mo)) :
    ∀ d i m : Nat, i + d = 256 → d < m → s ≤ i → (∀ p, s ≤ p → p < i → ¬ tv_g aL aR aO cH cF n c but p) → wY_next_17 post but fa (nI c) fl kn aL aR aO li sz lA lC fe mo m (nI i) := by
  intro d
  induction d with
  | zero =>
    intro i m hi hm hs h
    obtain ⟨m, rfl⟩ := tv_q hm
    have e : i = 256 := by omega
    subst e
    rw [wY_next_17]
    exact br_t (nI_le (Nat.le_refl _) (by omega)) (K _ (Or.inr ⟨rfl, h⟩))
  | succ d ih =>
    intro i m hi hm hs h
    obtain ⟨m, rfl⟩ := tv_q hm
    rw [wY_next_17]
    refine br_f (nI_ge (b := 256) (by omega) (by decide)) (ty_good hc (by omega) cs kr (fun g => br_f (by decide) (K _ (Or.inl ⟨i, rfl, hs, by omega, g, h⟩))) (fun g => br_t rfl (nm_r (nI_1 i) (ih (i + 1) m (by omega) (by omega) (by omega) ?_))))
    intro p h1 h2
    by_cases z : p = i
    · subst z; exact g
    · exact h p h1 (by omega)
theorem ty_next {post : Int32 → SY → Prop} {n c s : Nat} {but : Int32} (hn : n ≤ 8) (hc : c ≤ 16) (av : tv_av aL aR aO n) (cs : tv_cs cH cF li sz c) (hk : tv_kn aL aR aO fe kn n) (hs : s < 2 ^ 31) (K : ∀ r f' b', tv_kr aL aR aO f' n → tv_nx (tv_g aL aR aO cH cF n c but) s r → post r (nI n, nI c, fl, 1, aL, aR, aO, li, sz, lA, lC, f', b')) : wpY_next post (nI n, nI c, fl, kn, aL, aR, aO, li, sz, lA, lC, fe, mo) (nI s) but := by
  unfold wpY_next
  dsimp only
  refine ty_ff hn av hk (fun f' b' kr => br_t (nI_pos' hs) ?_)
  by_cases c1 : s ≤ 256
  · exact ⟨257 - s, ty_next17 hc cs kr (fun r hr => K r f' b' kr hr) (256 - s) s (257 - s) (by omega) (by omega) (Nat.le_refl s) (fun p h1 h2 => absurd h1 (by omega))⟩
  · refine ⟨1, ?_⟩
    rw [wY_next_17]
    exact br_t (nI_le (a := 256) (by omega) hs) (K _ f' b' kr (Or.inr ⟨rfl, fun p h1 h2 => absurd h1 (by omega)⟩))
theorem ty_nextn {post : Int32 → SY → Prop} {n c : Nat} {but x : Int32} (hn : n ≤ 8) (hc : c ≤ 16) (av : tv_av aL aR aO n) (cs : tv_cs cH cF li sz c) (hk : tv_kn aL aR aO fe kn n) (hx : ¬ 0 ≤ x) (K : ∀ r f' b', tv_kr aL aR aO f' n → tv_nx (tv_g aL aR aO cH cF n c but) 0 r → post r (nI n, nI c, fl, 1, aL, aR, aO, li, sz, lA, lC, f', b')) : wpY_next post (nI n, nI c, fl, kn, aL, aR, aO, li, sz, lA, lC, fe, mo) x but := by
  unfold wpY_next
  dsimp only
  exact ty_ff hn av hk (fun f' b' kr => br_f hx ⟨257, ty_next17 hc cs kr (fun r hr => K r f' b' kr hr) 256 0 257 (by omega) (by omega) (Nat.le_refl 0) (fun p h1 h2 => absurd h2 (by omega))⟩)
theorem ty_implied17 {post : Int32 → SY → Prop} {n c j : Nat} (hn : n ≤ 8) (hc : c ≤ 16) (av : tv_av aL aR aO n) (cs : tv_cs cH cF li sz c) (hj : j < 16) (K1 : (∀ p, p < 256 → tv_g aL aR aO cH cF n c (-1) p → tv_lb p j) → ∀ f' b', tv_kr aL aR aO f' n → post 1 (nI n, nI c, fl, 1, aL, aR, aO, li, sz, lA, lC, f', b')) (K0 : (∃ p, p < 256 ∧ tv_g aL aR aO cH cF n c (-1) p ∧ ¬ tv_lb p j) → ∀ f' b', tv_kr aL aR aO f' n → post 0 (nI n, nI c, fl, 1, aL, aR, aO, li, sz, lA, lC, f', b')) :
    ∀ (m s : Nat) (r : Int32) (f b : Nat → Int32), 256 - s < m → tv_kr aL aR aO f n → tv_nx (tv_g aL aR aO cH cF n c (-1)) s r → (∀ p, p < s → tv_g aL aR aO cH cF n c (-1) p → tv_lb p j) → wY_implied_17 post (nI j) m r (nI n) (nI c) fl 1 aL aR aO li sz lA lC f b := by
  intro m
  induction m with
  | zero => intro s r f b hm; omega
  | succ m ih =>
    intro s r f b hm kr hr h
    rw [wY_implied_17]
    dsimp only
    have n2 : ¬ (2 : Int32) = 0 := by decide
    rcases hr with ⟨q, rfl, hs, hq, g, hg⟩ | ⟨rfl, hg⟩
    · rw [tv_r2 (show j < 2 ^ 31 by omega), tv_d2 (show j < 2 ^ 31 by omega), tv_bit (by omega) (by omega), nI_1]
      refine br_f (nI_pos (by omega)) ⟨n2, n2, pk_eq (q / 2 ^ (j / 2) % 2) (j % 2) (fun z => ?_) (fun z => ?_) rfl rfl (Nat.lt_trans (Nat.mod_lt _ (by decide)) (by decide)) (by omega)⟩
      · exact K0 ⟨q, hq, g, fun y => y z⟩ f b kr
      · refine ty_next hn hc av cs (fun _ => kr) (by omega) (fun r' f' b' kr' hr' => ih (q + 1) r' f' b' (by omega) kr' hr' ?_)
        intro p hp gp
        by_cases y : p = q
        · subst y; exact z
        · by_cases y2 : p < s
          · exact h p y2 gp
          · exact absurd gp (hg p (by omega) (by omega))
    · refine br_t tv_3k (K1 (fun p hp gp => ?_) f b kr)
      by_cases y2 : p < s
      · exact h p y2 gp
      · exact absurd gp (hg p (by omega) hp)
theorem ty_differ14 {post : Int32 → SY → Prop} {J : Int32 → Int32 → Int32 → Int32 → Int32 → (Nat → Int32) → (Nat → Int32) → (Nat → Int32) → (Nat → Int32) → (Nat → Int32) → (Nat → Int32) → (Nat → Int32) → (Nat → Int32) → (Nat → Int32) → Prop} {n c t u q : Nat} (hn : n ≤ 8) (hc : c ≤ 16) (av : tv_av aL aR aO n) (cs : tv_cs cH cF li sz c) (ht : t < 7) (hu : u < 7) (hq : q < 256) (kr : tv_kr aL aR aO fe n)
    (K1 : tv_DY (tv_L aL) (tv_L aR) (tv_O aO) n q t u 27 → ∀ b', post 1 (nI n, nI c, fl, 1, aL, aR, aO, li, sz, lA, lC, fe, b')) (K0 : ¬ tv_DY (tv_L aL) (tv_L aR) (tv_O aO) n q t u 27 → ∀ r' f' b', tv_kr aL aR aO f' n → tv_nx (tv_g aL aR aO cH cF n c (-1)) (q + 1) r' → J r' (nI n) (nI c) fl 1 aL aR aO li sz lA lC f' b') :
    ∀ (d o m : Nat) (b : Nat → Int32), o + d = 27 → d < m → ¬ tv_DY (tv_L aL) (tv_L aR) (tv_O aO) n q t u o → wY_canDiffer_14 post J (nI t) (nI u) (nI q) m (nI o) (nI n) (nI c) fl 1 aL aR aO li sz lA lC fe b := by
  intro d
  induction d with
  | zero =>
    intro o m b hi hm h
    obtain ⟨m, rfl⟩ := tv_q hm
    have e : o = 27 := by omega
    subst e
    rw [wY_canDiffer_14]
    dsimp only
    rw [nI_1 q]
    exact br_t (nI_le (Nat.le_refl _) (by omega)) (ty_next hn hc av cs (fun _ => kr) (by omega) (fun r' f' b' kr' hr' => K0 h r' f' b' kr' hr'))
  | succ d ih =>
    intro o m b hi hm h
    obtain ⟨m, rfl⟩ := tv_q hm
    have ho : o < 27 := by omega
    rw [wY_canDiffer_14]
    dsimp only
    rw [tv_7, tv_7]
    have w1 : vp_in (nI (7 * t + u)) 49 := vp_in_nI (by omega) (by omega)
    have w2 : vp_in (nI (7 * u + t)) 49 := vp_in_nI (by omega) (by omega)
    have nx : ∀ b', (tv_io o = true → tv_Good (tv_SY 1000000000 (tv_L aL) (tv_L aR) (tv_O aO) n q o) → ¬ (¬ tv_yw (tv_SY 1000000 (tv_L aL) (tv_L aR) (tv_O aO) n q o) 7 t u = 0 ∨ ¬ tv_yw (tv_SY 1000000 (tv_L aL) (tv_L aR) (tv_O aO) n q o) 7 u t = 0)) → ∀ y, y = nI o + 1 → wY_canDiffer_14 post J (nI t) (nI u) (nI q) m y (nI n) (nI c) fl 1 aL aR aO li sz lA lC fe b' := by
      intro b' g
      refine nm_r (nI_1 o) (ih (o + 1) m b' (by omega) (by omega) ?_)
      rintro ⟨x, hx, ix, gx, dx⟩
      by_cases y : x = o
      · subst y; exact g ix gx dx
      · exact h ⟨x, by omega, ix, gx, dx⟩
    refine br_f (nI_ge (b := 27) (by omega) (by decide)) (ty_isOrder ho (fun io => br_f (by decide) (ty_findMost ho hn (by omega) av (fun g b' hb => br_f (by decide) ⟨w1, ?_⟩) (fun g b' => br_t rfl (nx b' (fun _ z => absurd z g))))) (fun io => br_t rfl (nx b (fun z => absurd z io))))
    rw [nI_clamp (show 7 * t + u < 2 ^ 31 by omega), nI_clamp (show 7 * u + t < 2 ^ 31 by omega)]
    have e1 := hb t u ht hu
    have e2 := hb u t hu ht
    have z0 : ∀ x : Int32, x = 0 ↔ x.toInt = 0 := fun x => ⟨fun z => by rw [z]; exact tv_z0, fun z => Int32.toInt_inj.mp (z.trans tv_z0.symm)⟩
    refine br_c (fun c1 => ⟨w2, br_c (fun c2 => nx b' (fun _ _ z => ?_)) (fun c2 => ?_)⟩) (fun c1 => ?_)
    · rw [z0, e1] at c1
      rw [z0, e2] at c2
      rcases z with z | z
      · exact z c1
      · exact z c2
    · rw [z0, e2] at c2
      exact K1 ⟨o, ho, io, g, Or.inr c2⟩ b'
    · rw [z0, e1] at c1
      exact K1 ⟨o, ho, io, g, Or.inl c1⟩ b'
theorem ty_differ7 {post : Int32 → SY → Prop} {n c t u : Nat} (hn : n ≤ 8) (hc : c ≤ 16) (av : tv_av aL aR aO n) (cs : tv_cs cH cF li sz c) (ht : t < 7) (hu : u < 7)
    (K1 : (∃ p, p < 256 ∧ tv_g aL aR aO cH cF n c (-1) p ∧ tv_DY (tv_L aL) (tv_L aR) (tv_O aO) n p t u 27) → ∀ f' b', tv_kr aL aR aO f' n → post 1 (nI n, nI c, fl, 1, aL, aR, aO, li, sz, lA, lC, f', b')) (K0 : (∀ p, p < 256 → tv_g aL aR aO cH cF n c (-1) p → ¬ tv_DY (tv_L aL) (tv_L aR) (tv_O aO) n p t u 27) → ∀ f' b', tv_kr aL aR aO f' n → post 0 (nI n, nI c, fl, 1, aL, aR, aO, li, sz, lA, lC, f', b')) :
    ∀ (m s : Nat) (r : Int32) (f b : Nat → Int32), 256 - s < m → tv_kr aL aR aO f n → tv_nx (tv_g aL aR aO cH cF n c (-1)) s r → (∀ p, p < s → tv_g aL aR aO cH cF n c (-1) p → ¬ tv_DY (tv_L aL) (tv_L aR) (tv_O aO) n p t u 27) → wY_canDiffer_7 post (nI t) (nI u) m r (nI n) (nI c) fl 1 aL aR aO li sz lA lC f b := by
  intro m
  induction m with
  | zero => intro s r f b hm; omega
  | succ m ih =>
    intro s r f b hm kr hr h
    rw [wY_canDiffer_7]
    rcases hr with ⟨q, rfl, hs, hq, g, hg⟩ | ⟨rfl, hg⟩
    · refine br_f (nI_pos (by omega)) ⟨28, ty_differ14 hn hc av cs ht hu hq kr (fun z b' => K1 ⟨q, hq, g, z⟩ f b' kr) (fun z r' f' b' kr' hr' => ih (q + 1) r' f' b' (by omega) kr' hr' ?_) 27 0 28 b (by omega) (by omega) (fun ⟨x, hx, _⟩ => absurd hx (by omega))⟩
      intro p hp gp
      by_cases y : p = q
      · subst y; exact z
      · by_cases y2 : p < s
        · exact h p y2 gp
        · exact absurd gp (hg p (by omega) (by omega))
    · refine br_t tv_3k (K0 (fun p hp gp => ?_) f b kr)
      by_cases y2 : p < s
      · exact h p y2 gp
      · exact absurd gp (hg p (by omega) hp)
theorem ty_differ {post : Int32 → SY → Prop} {n c t u : Nat} (hn : n ≤ 8) (hc : c ≤ 16) (av : tv_av aL aR aO n) (cs : tv_cs cH cF li sz c) (hk : tv_kn aL aR aO fe kn n) (ht : t < 7) (hu : u < 7)
    (K1 : (∃ p, p < 256 ∧ tv_g aL aR aO cH cF n c (-1) p ∧ tv_DY (tv_L aL) (tv_L aR) (tv_O aO) n p t u 27) → ∀ f' b', tv_kr aL aR aO f' n → post 1 (nI n, nI c, fl, 1, aL, aR, aO, li, sz, lA, lC, f', b')) (K0 : (∀ p, p < 256 → tv_g aL aR aO cH cF n c (-1) p → ¬ tv_DY (tv_L aL) (tv_L aR) (tv_O aO) n p t u 27) → ∀ f' b', tv_kr aL aR aO f' n → post 0 (nI n, nI c, fl, 1, aL, aR, aO, li, sz, lA, lC, f', b')) : wpY_canDiffer post (nI n, nI c, fl, kn, aL, aR, aO, li, sz, lA, lC, fe, mo) (nI t) (nI u) := by
  unfold wpY_canDiffer
  exact ty_next (s := 0) hn hc av cs hk (by omega) (fun r f' b' kr hr => ⟨257, ty_differ7 hn hc av cs ht hu K1 K0 257 0 r f' b' (by omega) kr hr (fun p hp => absurd hp (by omega))⟩)
end
end
section
section
variable {fa fc fl kn : Int32} {aL aR aO li sz lA lC fe mo : Nat → Int32} {cH cF : Nat → Int32}
theorem ty_least44 {post : Int32 → SY → Prop} {J : Int32 → Int32 → Int32 → Int32 → Int32 → Int32 → (Nat → Int32) → (Nat → Int32) → (Nat → Int32) → (Nat → Int32) → (Nat → Int32) → (Nat → Int32) → (Nat → Int32) → (Nat → Int32) → (Nat → Int32) → Prop} {n c t u q : Nat} (hn : n ≤ 8) (hc : c ≤ 16) (av : tv_av aL aR aO n) (cs : tv_cs cH cF li sz c) (ht : t < 7) (hu : u < 7) (hq : q < 256) (gq : tv_g aL aR aO cH cF n c (-1) q) (kr : tv_kr aL aR aO fe n)
    (K : ∀ g r' f' b', tv_mx (tv_wy aL aR aO cH cF n c u t (q + 1)) (-3000) g.toInt → tv_kr aL aR aO f' n → tv_nx (tv_g aL aR aO cH cF n c (-1)) (q + 1) r' → J r' g (nI n) (nI c) fl 1 aL aR aO li sz lA lC f' b') :
    ∀ (d o m : Nat) (g : Int32) (b : Nat → Int32), o + d = 27 → d < m → tv_mx (fun v => tv_wy aL aR aO cH cF n c u t q v ∨ tv_vy (tv_L aL) (tv_L aR) (tv_O aO) n q u t o v) (-3000) g.toInt → wY_least_44 post J (nI t) (nI u) (nI q) m g (nI o) (nI n) (nI c) fl 1 aL aR aO li sz lA lC fe b := by
  have va := tv_av_va av
  intro d
  induction d with
  | zero =>
    intro o m g b hi hm h
    obtain ⟨m, rfl⟩ := tv_q hm
    have e : o = 27 := by omega
    subst e
    rw [wY_least_44]
    dsimp only
    rw [nI_1 q]
    refine br_t (nI_le (Nat.le_refl _) (by omega)) (ty_next hn hc av cs (fun _ => kr) (by omega) (fun r' f' b' kr' hr' => K g r' f' b' (tv_mx_c h ?_) kr' hr'))
    intro v
    constructor
    · rintro ⟨x, hx, gx, vx⟩
      by_cases y : x = q
      · subst y; exact Or.inr vx
      · exact Or.inl ⟨x, by omega, gx, vx⟩
    · rintro (⟨x, hx, gx, vx⟩ | vx)
      · exact ⟨x, by omega, gx, vx⟩
      · exact ⟨q, by omega, gq, vx⟩
  | succ d ih =>
    intro o m g b hi hm h
    obtain ⟨m, rfl⟩ := tv_q hm
    have ho : o < 27 := by omega
    rw [wY_least_44]
    dsimp only
    rw [tv_7]
    have w1 : vp_in (nI (7 * u + t)) 49 := vp_in_nI (by omega) (by omega)
    have nx : ∀ b', (tv_io o = true → ¬ tv_Good (tv_SY 1000000000 (tv_L aL) (tv_L aR) (tv_O aO) n q o)) → ∀ y, y = nI o + 1 → wY_least_44 post J (nI t) (nI u) (nI q) m g y (nI n) (nI c) fl 1 aL aR aO li sz lA lC fe b' := by
      intro b' gn
      refine nm_r (nI_1 o) (ih (o + 1) m g b' (by omega) (by omega) (tv_mx_c h ?_))
      intro v
      constructor
      · rintro (z | ⟨x, hx, ix, gx, vx⟩)
        · exact Or.inl z
        · by_cases y : x = o
          · subst y; exact absurd gx (gn ix)
          · exact Or.inr ⟨x, by omega, ix, gx, vx⟩
      · rintro (z | ⟨x, hx, ix, gx, vx⟩)
        · exact Or.inl z
        · exact Or.inr ⟨x, by omega, ix, gx, vx⟩
    refine br_f (nI_ge (b := 27) (by omega) (by decide)) (ty_isOrder ho (fun io => br_f (by decide) (ty_findMost ho hn (by omega) av (fun gd b' hb => br_f (by decide) ⟨w1, ?_⟩) (fun gd b' => br_t rfl (nx b' (fun _ => gd))))) (fun io => br_t rfl (nx b (fun z => absurd z io))))
    rw [nI_clamp (show 7 * u + t < 2 ^ 31 by omega)]
    have e := hb u t hu ht
    have lo := tv_vy_low (p := q) va (Nat.le_refl 27) hu ht ⟨o, ho, io, gd, rfl⟩
    have un := tv_mx_un (P' := fun v => tv_wy aL aR aO cH cF n c u t q v ∨ tv_vy (tv_L aL) (tv_L aR) (tv_O aO) n q u t (o + 1) v) (fun v hv => by
        rcases hv with ⟨x, hx, gx, vx⟩ | vx
        · exact tv_vy_low va (Nat.le_refl 27) hu ht vx
        · exact tv_vy_low va (by omega) hu ht vx) (fun v (hv : v = tv_yw (tv_SY 1000000 (tv_L aL) (tv_L aR) (tv_O aO) n q o) 7 u t) => by omega) h (tv_mx_1 (tv_yw (tv_SY 1000000 (tv_L aL) (tv_L aR) (tv_O aO) n q o) 7 u t) (-3000)) (by
      intro v
      constructor
      · rintro (z | ⟨x, hx, ix, gx, vx⟩)
        · exact Or.inl (Or.inl z)
        · by_cases y : x = o
          · subst y; exact Or.inr vx
          · exact Or.inl (Or.inr ⟨x, by omega, ix, gx, vx⟩)
      · rintro ((z | ⟨x, hx, ix, gx, vx⟩) | vx)
        · exact Or.inl z
        · exact Or.inr ⟨x, by omega, ix, gx, vx⟩
        · exact Or.inr ⟨o, by omega, io, gd, vx⟩)
    refine br_c (fun c1 => ?_) (fun c1 => ?_)
    · rw [tv_eI, e] at c1
      exact nm_r (nI_1 o) (ih (o + 1) m g b' (by omega) (by omega) (un.2 (by omega)))
    · rw [tv_eI, e] at c1
      exact ⟨w1, nm_e (nm_r (nI_1 o) (ih (o + 1) m _ b' (by omega) (by omega) (by rw [e]; exact un.1 (by omega))))⟩
theorem ty_least37 {post : Int32 → SY → Prop} {n c t u : Nat} (hn : n ≤ 8) (hc : c ≤ 16) (av : tv_av aL aR aO n) (cs : tv_cs cH cF li sz c) (ht : t < 7) (hu : u < 7)
    (K : ∀ g f' b', tv_mx (tv_wy aL aR aO cH cF n c u t 256) (-3000) g.toInt → tv_kr aL aR aO f' n → ((g = (-3000) → post (-3000) (nI n, nI c, fl, 1, aL, aR, aO, li, sz, lA, lC, f', b')) ∧ (¬ g = (-3000) → ((g ≤ 500000 → post (-g) (nI n, nI c, fl, 1, aL, aR, aO, li, sz, lA, lC, f', b')) ∧ (¬ g ≤ 500000 → post (-4000) (nI n, nI c, fl, 1, aL, aR, aO, li, sz, lA, lC, f', b')))))) :
    ∀ (m s : Nat) (r g : Int32) (f b : Nat → Int32), s ≤ 256 → 256 - s < m → tv_kr aL aR aO f n → tv_nx (tv_g aL aR aO cH cF n c (-1)) s r → tv_mx (tv_wy aL aR aO cH cF n c u t s) (-3000) g.toInt → wY_least_37 post (nI t) (nI u) m r g (nI n) (nI c) fl 1 aL aR aO li sz lA lC f b := by
  intro m
  induction m with
  | zero => intro s r g f b hs hm; omega
  | succ m ih =>
    intro s r g f b hs hm kr hr h
    rw [wY_least_37]
    rcases hr with ⟨q, rfl, hsq, hq, gq, hg⟩ | ⟨rfl, hg⟩
    · refine br_f (nI_pos (by omega)) ⟨28, ty_least44 hn hc av cs ht hu hq gq kr (fun g' r' f' b' h' kr' hr' => ih (q + 1) r' g' f' b' (by omega) (by omega) kr' hr' h') 27 0 28 g b (by omega) (by omega) (tv_mx_c h ?_)⟩
      intro v
      constructor
      · rintro (⟨x, hx, gx, vx⟩ | ⟨x, hx, _⟩)
        · by_cases y : x < s
          · exact ⟨x, y, gx, vx⟩
          · exact absurd gx (hg x (by omega) hx)
        · exact absurd hx (by omega)
      · rintro ⟨x, hx, gx, vx⟩
        exact Or.inl ⟨x, by omega, gx, vx⟩
    · refine br_t tv_3k (K g f b (tv_mx_c h ?_) kr)
      intro v
      constructor
      · rintro ⟨x, hx, gx, vx⟩
        by_cases y : x < s
        · exact ⟨x, y, gx, vx⟩
        · exact absurd gx (hg x (by omega) hx)
      · rintro ⟨x, hx, gx, vx⟩
        exact ⟨x, by omega, gx, vx⟩
theorem ty_count9 {post : Int32 → SY → Prop} {n c : Nat} {but : Int32} (hn : n ≤ 8) (hc : c ≤ 16) (av : tv_av aL aR aO n) (cs : tv_cs cH cF li sz c)
    (K : ∀ f' b', tv_kr aL aR aO f' n → post (nI (tv_cn (tv_g aL aR aO cH cF n c but) 256)) (nI n, nI c, fl, 1, aL, aR, aO, li, sz, lA, lC, f', b')) :
    ∀ (m s : Nat) (r : Int32) (f b : Nat → Int32), s ≤ 256 → 256 - s < m → tv_kr aL aR aO f n → tv_nx (tv_g aL aR aO cH cF n c but) s r → wY_countGood_9 post but m (nI (tv_cn (tv_g aL aR aO cH cF n c but) s)) r (nI n) (nI c) fl 1 aL aR aO li sz lA lC f b := by
  intro m
  induction m with
  | zero => intro s r f b hs hm; omega
  | succ m ih =>
    intro s r f b hs hm kr hr
    rw [wY_countGood_9]
    rcases hr with ⟨q, rfl, hsq, hq, gq, hg⟩ | ⟨rfl, hg⟩
    · dsimp only
      rw [nI_1 q]
      refine br_f (nI_pos (by omega)) (nm_r (nI_1 _) (ty_next hn hc av cs (fun _ => kr) (by omega) (fun r' f' b' kr' hr' => ?_)))
      have k := ih (q + 1) r' f' b' (by omega) (by omega) kr' hr'
      have e : tv_cn (tv_g aL aR aO cH cF n c but) q = tv_cn (tv_g aL aR aO cH cF n c but) s := tv_fo_gap hsq hg
      rw [tv_cn_t gq, e] at k
      exact k
    · have e : tv_cn (tv_g aL aR aO cH cF n c but) 256 = tv_cn (tv_g aL aR aO cH cF n c but) s := tv_fo_gap hs hg
      have k := K f b kr
      rw [e] at k
      exact br_t tv_3k k
theorem ty_countGood {post : Int32 → SY → Prop} {n c : Nat} {but : Int32} (hn : n ≤ 8) (hc : c ≤ 16) (av : tv_av aL aR aO n) (cs : tv_cs cH cF li sz c) (hk : tv_kn aL aR aO fe kn n)
    (K : ∀ f' b', tv_kr aL aR aO f' n → post (nI (tv_cn (tv_g aL aR aO cH cF n c but) 256)) (nI n, nI c, fl, 1, aL, aR, aO, li, sz, lA, lC, f', b')) : wpY_countGood post (nI n, nI c, fl, kn, aL, aR, aO, li, sz, lA, lC, fe, mo) but := by
  unfold wpY_countGood
  exact ty_next (s := 0) hn hc av cs hk (by omega) (fun r f' b' kr hr => ⟨257, ty_count9 hn hc av cs K 257 0 r f' b' (by omega) (by omega) kr hr⟩)
theorem ty_und43 {post : Int32 → SY → Prop} {n : Nat} {x z : Int32} (hn : n ≤ 8) (K : post (tv_us (x &&& z) n) (nI n, fc, fl, kn, aL, aR, aO, li, sz, lA, lC, fe, mo)) : ∀ d i m : Nat, i + d = n → d < m → wY_undecided_43 post x z (nI n) fc fl kn aL aR aO li sz lA lC fe mo m (tv_us (x &&& z) i) (nI i) := by
  intro d
  induction d with
  | zero =>
    intro i m hi hm
    obtain ⟨m, rfl⟩ := tv_q hm
    have e : i = n := by omega
    subst e
    rw [wY_undecided_43]
    exact br_t (nI_le (Nat.le_refl _) (by omega)) K
  | succ d ih =>
    intro i m hi hm
    obtain ⟨m, rfl⟩ := tv_q hm
    rw [wY_undecided_43]
    exact br_f (nI_ge (by omega) (by omega)) (nm_e (nm_r (nI_1 i) (ih (i + 1) m (by omega) (by omega))))
theorem ty_und11 {post : Int32 → SY → Prop} {n c : Nat} (hn : n ≤ 8) (hc : c ≤ 16) (av : tv_av aL aR aO n) (cs : tv_cs cH cF li sz c)
    (K : ∀ f' b', tv_kr aL aR aO f' n → post (tv_us ((tv_fo (tv_g aL aR aO cH cF n c (-1)) tv_un (0, 0) 256).1 &&& (tv_fo (tv_g aL aR aO cH cF n c (-1)) tv_un (0, 0) 256).2) n) (nI n, nI c, fl, 1, aL, aR, aO, li, sz, lA, lC, f', b')) :
    ∀ (m s : Nat) (r : Int32) (f b : Nat → Int32), s ≤ 256 → 256 - s < m → tv_kr aL aR aO f n → tv_nx (tv_g aL aR aO cH cF n c (-1)) s r → wY_undecided_11 post m (tv_fo (tv_g aL aR aO cH cF n c (-1)) tv_un (0, 0) s).1 (tv_fo (tv_g aL aR aO cH cF n c (-1)) tv_un (0, 0) s).2 r (nI n) (nI c) fl 1 aL aR aO li sz lA lC f b := by
  intro m
  induction m with
  | zero => intro s r f b hs hm; omega
  | succ m ih =>
    intro s r f b hs hm kr hr
    rw [wY_undecided_11]
    rcases hr with ⟨q, rfl, hsq, hq, gq, hg⟩ | ⟨rfl, hg⟩
    · dsimp only
      rw [nI_1 q]
      refine br_f (nI_pos (by omega)) (nm_e (nm_e (ty_next hn hc av cs (fun _ => kr) (by omega) (fun r' f' b' kr' hr' => ?_))))
      have k := ih (q + 1) r' f' b' (by omega) (by omega) kr' hr'
      have e : tv_fo (tv_g aL aR aO cH cF n c (-1)) tv_un (0, 0) q = tv_fo (tv_g aL aR aO cH cF n c (-1)) tv_un (0, 0) s := tv_fo_gap hsq hg
      rw [tv_fo_t gq, e] at k
      exact k
    · have e : tv_fo (tv_g aL aR aO cH cF n c (-1)) tv_un (0, 0) 256 = tv_fo (tv_g aL aR aO cH cF n c (-1)) tv_un (0, 0) s := tv_fo_gap hs hg
      have k := K f b kr
      rw [e] at k
      exact br_t tv_3k ⟨n + 1, ty_und43 hn k n 0 (n + 1) (by omega) (by omega)⟩
theorem ty_spare10 {post : Int32 → SY → Prop} {n c a : Nat} (hn : n ≤ 8) (hc : c ≤ 16) (av : tv_av aL aR aO n) (cs : tv_cs cH cF li sz c) (ha : a ≤ 256)
    (K : ∀ f' b', tv_kr aL aR aO f' n → post (nI (tv_cn (fun k => tv_cn (tv_g aL aR aO cH cF n c (nI k)) 256 = a) c)) (nI n, nI c, fl, 1, aL, aR, aO, li, sz, lA, lC, f', b')) :
    ∀ (d k m : Nat) (f b : Nat → Int32), k + d = c → d < m → tv_kr aL aR aO f n → wY_spare_10 post (nI a) m (nI (tv_cn (fun k => tv_cn (tv_g aL aR aO cH cF n c (nI k)) 256 = a) k)) (nI k) (nI n) (nI c) fl 1 aL aR aO li sz lA lC f b := by
  intro d
  induction d with
  | zero =>
    intro k m f b hi hm kr
    obtain ⟨m, rfl⟩ := tv_q hm
    have e : k = c := by omega
    subst e
    rw [wY_spare_10]
    exact br_t (nI_le (Nat.le_refl _) (by omega)) (K f b kr)
  | succ d ih =>
    intro k m f b hi hm kr
    obtain ⟨m, rfl⟩ := tv_q hm
    rw [wY_spare_10]
    refine br_f (nI_ge (by omega) (by omega)) (ty_countGood hn hc av cs (fun _ => kr) (fun f' b' kr' => ?_))
    have q := ih (k + 1) m f' b' (by omega) (by omega) kr'
    have bnd := tv_cn_b (tv_g aL aR aO cH cF n c (nI k)) 256
    refine pk_eq (tv_cn (tv_g aL aR aO cH cF n c (nI k)) 256) a (fun z => ?_) (fun z => ?_) rfl rfl (by omega) (by omega)
    · rw [tv_cn_t (G := fun k => tv_cn (tv_g aL aR aO cH cF n c (nI k)) 256 = a) (m := k) z] at q
      exact nm_r (nI_1 _) (nm_r (nI_1 k) q)
    · rw [tv_cn_f (G := fun k => tv_cn (tv_g aL aR aO cH cF n c (nI k)) 256 = a) (m := k) z] at q
      exact nm_r (nI_1 k) q
end
end
section
theorem tv_tm (x : Int32) {n : Nat} (hn : n < 2 ^ 31) : (x < 0 ∨ nI n ≤ x) ∨ ∃ j : Nat, j < n ∧ x = nI j := by
  rcases pk_ix x hn with h | h | h
  · exact Or.inl (Or.inl h)
  · exact Or.inl (Or.inr h)
  · exact Or.inr h
theorem tx_held {post : Int32 → Prop} {j : Nat} (hj : j < 16) (K : post (tv_he j)) : wpX_heldAtom post (nI j) := by
  unfold wpX_heldAtom
  rw [tv_a1 (show j < 2 ^ 31 by omega), tv_s1 (show j < 2 ^ 31 by omega), tv_pow (show j / 2 < 31 by omega)]
  unfold tv_he at K
  by_cases c : j % 2 = 0
  · rw [if_pos c] at K; exact br_t (by rw [c]; rfl) K
  · rw [if_neg c] at K; exact br_f (by rw [show j % 2 = 1 by omega]; decide) K
theorem tx_fail {post : Int32 → Prop} {j : Nat} (hj : j < 16) (K : post (tv_fa j)) : wpX_failedAtom post (nI j) := by
  unfold wpX_failedAtom
  rw [tv_a1 (show j < 2 ^ 31 by omega), tv_s1 (show j < 2 ^ 31 by omega), tv_pow (show j / 2 < 31 by omega)]
  unfold tv_fa at K
  by_cases c : j % 2 = 1
  · rw [if_pos c] at K; exact br_t (by rw [c]; rfl) K
  · rw [if_neg c] at K; exact br_f (by rw [show j % 2 = 0 by omega]; decide) K
theorem tx_term0 {post : Int32 → Prop} {x : Int32} (h : x < 0 ∨ nI 7 ≤ x) (K : post 0) : wpX_isTerm post x := by
  unfold wpX_isTerm
  by_cases c : x < 0
  · exact br_t c K
  · exact br_f c (br_t (h.resolve_left c) K)
theorem tx_term1 {post : Int32 → Prop} {j : Nat} (h : j < 7) (K : post 1) : wpX_isTerm post (nI j) := by
  unfold wpX_isTerm
  exact br_f (nI_pos (by omega)) (br_f (nI_ge (b := 7) h (by decide)) K)
section
variable {fa fc fh ff fd fl : Int32} {aL aR aO cH cF lA lC rl bd : Nat → Int32}
theorem tx_lit0 {post : Int32 → Prop} {n : Nat} {x : Int32} (h : x < 0 ∨ nI (2 * n) ≤ x) (K : post 0) : wpX_isLiteral post (nI n, fc, fh, ff, fd, fl, aL, aR, aO, cH, cF, lA, lC, rl, bd) x := by
  unfold wpX_isLiteral
  dsimp only
  rw [tv_2]
  by_cases c : x < 0
  · exact br_t c K
  · exact br_f c (br_t (h.resolve_left c) K)
theorem tx_lit1 {post : Int32 → Prop} {n j : Nat} (hn : n ≤ 8) (h : j < 2 * n) (K : post 1) : wpX_isLiteral post (nI n, fc, fh, ff, fd, fl, aL, aR, aO, cH, cF, lA, lC, rl, bd) (nI j) := by
  unfold wpX_isLiteral
  dsimp only
  rw [tv_2]
  exact br_f (nI_pos (by omega)) (br_f (nI_ge h (by omega)) K)
end
section
variable {fa fc fl kn : Int32} {aL aR aO li sz lA lC fe mo : Nat → Int32}
theorem ty_term0 {post : Int32 → Prop} {x : Int32} (h : x < 0 ∨ nI 7 ≤ x) (K : post 0) : wpY_isTerm post (fa, fc, fl, kn, aL, aR, aO, li, sz, lA, lC, fe, mo) x := by
  unfold wpY_isTerm
  dsimp only
  by_cases c : x < 0
  · exact br_t c K
  · refine br_f c (br_t ?_ K)
    have q := h.resolve_left c
    rw [tv_eI, nI_toInt (by decide)] at q
    rw [tv_lI, show (6 : Int32).toInt = 6 by decide]
    omega
theorem ty_term1 {post : Int32 → Prop} {j : Nat} (h : j < 7) (K : post 1) : wpY_isTerm post (fa, fc, fl, kn, aL, aR, aO, li, sz, lA, lC, fe, mo) (nI j) := by
  unfold wpY_isTerm
  exact br_f (nI_pos (by omega)) (br_f (nI_nlt (a := 6) (by omega) (by decide)) K)
theorem ty_lit0 {post : Int32 → Prop} {n : Nat} {x : Int32} (hn : n ≤ 8) (h : x < 0 ∨ nI (2 * n) ≤ x) (K : post 0) : wpY_isLiteral post (nI n, fc, fl, kn, aL, aR, aO, li, sz, lA, lC, fe, mo) x := by
  unfold wpY_isLiteral
  dsimp only
  by_cases c : x < 0
  · exact br_t c K
  · have q := h.resolve_left c
    obtain ⟨j, hj, rfl⟩ := nI_of c
    rw [nI_leI (by omega) hj] at q
    rw [tv_d2 hj]
    refine br_f c (pk_lt 15 j (fun _ => K) (fun z => ⟨by decide, br_t (nI_le (by omega) (by omega)) K⟩))
theorem ty_lit1 {post : Int32 → Prop} {n j : Nat} (hn : n ≤ 8) (h : j < 2 * n) (K : post 1) : wpY_isLiteral post (nI n, fc, fl, kn, aL, aR, aO, li, sz, lA, lC, fe, mo) (nI j) := by
  unfold wpY_isLiteral
  dsimp only
  rw [tv_d2 (show j < 2 ^ 31 by omega)]
  exact br_f (nI_pos (by omega)) (br_f (nI_nlt (a := 15) (by omega) (by decide)) ⟨by decide, br_f (nI_ge (by omega) (by omega)) K⟩)
theorem ty_clause15 {post : Int32 → SY → Prop} {c : Nat} (hc : c < 16) (K : ∀ l' : Nat → Int32, (∀ i, i < 4 → l' (4 * c + i) = li (64 + i)) → (∀ q, (q < 4 * c ∨ 64 ≤ q) → l' q = li q) → post (nI c) (fa, nI (c + 1), fl, kn, aL, aR, aO, l', upd (upd sz c (sz 16)) 16 0, lA, lC, fe, mo)) :
    ∀ (d i m : Nat) (l : Nat → Int32), i + d = 4 → d < m → (∀ q, q < i → l (4 * c + q) = li (64 + q)) → (∀ q, (q < 4 * c ∨ 64 ≤ q) → l q = li q) → wY_clause_15 post fa (nI c) fl kn m (nI i) aL aR aO l sz lA lC fe mo := by
  intro d
  induction d with
  | zero =>
    intro i m l hi hm h1 h2
    obtain ⟨m, rfl⟩ := tv_q hm
    have e : i = 4 := by omega
    subst e
    rw [wY_clause_15]
    dsimp only
    rw [nI_clamp (show c < 2 ^ 31 by omega)]
    have k := K l h1 h2
    rw [← nI_pred c] at k
    exact br_t (nI_le (Nat.le_refl _) (by omega)) ⟨vp_in_nI (by omega) (by omega), nm_e (nm_e (nm_r (nI_1 c) k))⟩
  | succ d ih =>
    intro i m l hi hm h1 h2
    obtain ⟨m, rfl⟩ := tv_q hm
    rw [wY_clause_15]
    dsimp only
    rw [tv_4, tv_64, nI_clamp (show 4 * c + i < 2 ^ 31 by omega), nI_clamp (show 64 + i < 2 ^ 31 by omega), h2 (64 + i) (by omega)]
    refine br_f (nI_ge (b := 4) (by omega) (by decide)) ⟨vp_in_nI (by omega) (by omega), vp_in_nI (by omega) (by omega), nm_e (nm_r (nI_1 i) (ih (i + 1) m _ (by omega) (by omega) ?_ ?_))⟩
    · intro q hq
      by_cases z : q = i
      · subst z; exact pk_us
      · rw [pk_un (by omega)]; exact h1 q (by omega)
    · intro q hq
      rw [pk_un (by omega)]; exact h2 q hq
end
theorem tv_cs_congr {cH cF li sz cH' cF' li' sz' : Nat → Int32} {c : Nat} (h : tv_cs cH cF li sz c) (e1 : ∀ k, k < c → cH' k = cH k ∧ cF' k = cF k ∧ sz' k = sz k) (e2 : ∀ q, q < 4 * c → li' q = li q) : tv_cs cH' cF' li' sz' c := by
  intro k hk
  obtain ⟨s, hs, es, cl⟩ := h k hk
  obtain ⟨a1, a2, a3⟩ := e1 k hk
  refine ⟨s, hs, a3.trans es, ?_⟩
  rw [a1, a2]
  exact tv_cl_congr (fun i hi => e2 _ (by omega)) cl
theorem tv_cs_add {cH cF li sz : Nat → Int32} {c s : Nat} (h : tv_cs cH cF li sz c) (hs : s ≤ 4) (es : sz c = nI s) (cl : tv_cl (cH c) (cF c) li (4 * c) s) : tv_cs cH cF li sz (c + 1) := by
  intro k hk
  by_cases z : k = c
  · subst z; exact ⟨s, hs, es, cl⟩
  · exact h k (by omega)
theorem tv_cs_le {cH cF li sz : Nat → Int32} {c c' : Nat} (h : tv_cs cH cF li sz c) (hc : c' ≤ c) : tv_cs cH cF li sz c' := fun k hk => h k (by omega)
theorem tv_rp_congr {aL aR aO aL' aR' aO' rl : Nat → Int32} {n : Nat} (h : tv_rp aL aR aO rl n) (e : ∀ i, i < n → aL' i = aL i ∧ aR' i = aR i ∧ aO' i = aO i) : tv_rp aL' aR' aO' rl n := by
  intro m hm p hp
  rw [h m hm p hp]
  refine tv_i_c (tv_Fe_congr (fun i hi => ?_))
  obtain ⟨a1, a2, a3⟩ := e i (by omega)
  refine ⟨?_, ?_, ?_, rfl⟩
  · show (aL i).toNatClampNeg = (aL' i).toNatClampNeg; rw [a1]
  · show (aR i).toNatClampNeg = (aR' i).toNatClampNeg; rw [a2]
  · show (aO i).toInt = (aO' i).toInt; rw [a3]
def tv_R (n c d l : Nat) (fh ff kn : Int32) (aL aR aO cH cF lA lC rl li sz fe : Nat → Int32) : Prop :=
  (n ≤ 8 ∧ c ≤ 16 ∧ d ≤ 4 ∧ l ≤ 4) ∧ tv_av aL aR aO n ∧ tv_lv lA lC l n c ∧ tv_cs cH cF li sz c ∧ (sz 16 = nI d ∧ tv_cl fh ff li 64 d) ∧ tv_rp aL aR aO rl n ∧ tv_kn aL aR aO fe kn n
/-- the relation: the same atoms, levels and counts; clauses and draft met by the same patterns; the class's table of real patterns, and the reference's where it is known -/
def i_Rel (k : Nat) (u : SX) (v : SY) : Prop :=
  ∃ (n c d l : Nat) (fh ff kn : Int32) (aL aR aO cH cF lA lC rl bd li sz fe mo : Nat → Int32), u = (nI n, nI c, fh, ff, nI d, nI l, aL, aR, aO, cH, cF, lA, lC, rl, bd) ∧ v = (nI n, nI c, nI l, kn, aL, aR, aO, li, sz, lA, lC, fe, mo) ∧ tv_R n c d l fh ff kn aL aR aO cH cF lA lC rl li sz fe
theorem tv_mk {k n c d l : Nat} {fh ff kn : Int32} {aL aR aO cH cF lA lC rl bd li sz fe mo : Nat → Int32} (R : tv_R n c d l fh ff kn aL aR aO cH cF lA lC rl li sz fe) : i_Rel k (nI n, nI c, fh, ff, nI d, nI l, aL, aR, aO, cH, cF, lA, lC, rl, bd) (nI n, nI c, nI l, kn, aL, aR, aO, li, sz, lA, lC, fe, mo) :=
  ⟨n, c, d, l, fh, ff, kn, aL, aR, aO, cH, cF, lA, lC, rl, bd, li, sz, fe, mo, rfl, rfl, R⟩
theorem tv_Rk {n c d l : Nat} {fh ff kn : Int32} {aL aR aO cH cF lA lC rl li sz fe f' : Nat → Int32} (R : tv_R n c d l fh ff kn aL aR aO cH cF lA lC rl li sz fe) (kr : tv_kr aL aR aO f' n) : tv_R n c d l fh ff 1 aL aR aO cH cF lA lC rl li sz f' := by
  obtain ⟨a1, a2, a3, a4, a5, a6, _⟩ := R
  exact ⟨a1, a2, a3, a4, a5, a6, fun _ => kr⟩
theorem i_up {k : Nat} {u : SX} {v : SY} (h : i_Rel k u v) : i_Rel (k + 4) u v := h
theorem i_vc0 : wpX_init (fun u => wpY_init (fun v => i_Rel 0 u v)) := by
  unfold wpX_init
  refine nm_e ?_
  unfold wpY_init
  refine tv_mk (n := 0) (c := 0) (d := 0) (l := 0) ⟨⟨by omega, by omega, by omega, by omega⟩, fun i hi => absurd hi (by omega), trivial, fun i hi => absurd hi (by omega), ⟨rfl, tv_cl_0 _ _⟩, ?_, fun z => absurd rfl z⟩
  intro m hm p hp
  have e : m = 0 := by omega
  subst e
  have e2 : p = 0 := by omega
  subst e2
  rw [tv_i_t (tv_Fe_0 _ _ _)]
  exact pk_us.trans tv_nb1
end
section
theorem i_vc_atoms {k : Nat} {u : SX} {v : SY} (I : i_Rel k u v) (hk : k + 4 ≤ 2048) : wpX_atoms (fun r => wpY_atoms (fun r' => r' = r ∧ i_Rel (k + 4) u v) v) u := by
  obtain ⟨n, c, d, l, fh, ff, kn, aL, aR, aO, cH, cF, lA, lC, rl, bd, li, sz, fe, mo, rfl, rfl, R⟩ := I
  exact ⟨rfl, tv_mk R⟩
theorem i_vc_clauses {k : Nat} {u : SX} {v : SY} (I : i_Rel k u v) (hk : k + 4 ≤ 2048) : wpX_clauses (fun r => wpY_clauses (fun r' => r' = r ∧ i_Rel (k + 4) u v) v) u := by
  obtain ⟨n, c, d, l, fh, ff, kn, aL, aR, aO, cH, cF, lA, lC, rl, bd, li, sz, fe, mo, rfl, rfl, R⟩ := I
  exact ⟨rfl, tv_mk R⟩
theorem i_vc_scrap {k : Nat} {u : SX} {v : SY} (I : i_Rel k u v) (hk : k + 4 ≤ 2048) : wpX_scrap (fun u' => wpY_scrap (fun v' => i_Rel (k + 4) u' v') v) u := by
  obtain ⟨n, c, d, l, fh, ff, kn, aL, aR, aO, cH, cF, lA, lC, rl, bd, li, sz, fe, mo, rfl, rfl, R⟩ := I
  obtain ⟨⟨hn, hc, hd, hl⟩, av, lv, cs, ⟨es, cl⟩, rp, kk⟩ := R
  unfold wpX_scrap wpX_emptyDraft wpY_scrap
  dsimp only
  exact nm_e (tv_mk (d := 0) ⟨⟨hn, hc, by omega, hl⟩, av, lv, tv_cs_congr cs (fun k hk => ⟨rfl, rfl, pk_un (by omega)⟩) (fun q hq => rfl), ⟨pk_us, tv_cl_0 _ _⟩, rp, kk⟩)
theorem i_vc_open {k : Nat} {u : SX} {v : SY} (I : i_Rel k u v) (hk : k + 4 ≤ 2048) : wpX_open (fun r u' => wpY_open (fun r' v' => r' = r ∧ i_Rel (k + 4) u' v') v) u := by
  obtain ⟨n, c, d, l, fh, ff, kn, aL, aR, aO, cH, cF, lA, lC, rl, bd, li, sz, fe, mo, rfl, rfl, R⟩ := I
  have R' := R
  obtain ⟨⟨hn, hc, hd, hl⟩, av, lv, cs, ⟨es, cl⟩, rp, kk⟩ := R
  unfold wpX_open wpY_open
  dsimp only
  rw [nI_clamp (show l < 2 ^ 31 by omega)]
  by_cases h : l = 4
  · subst h
    exact br_f (nI_nlt (a := 4) (b := 4) (by omega) (by omega)) (br_t rfl ⟨rfl, tv_mk R'⟩)
  · have w : vp_in (nI l) 4 := vp_in_nI (by omega) (by omega)
    have e : ¬ nI l = 4 := fun z => h ((nI_eq (a := l) (b := 4) (by omega) (by omega)).mp z)
    refine br_t (nI_lt (b := 4) (by omega) (by omega)) ⟨w, nm_e ⟨w, nm_e (nm_r (nI_1 l) (br_f e ⟨w, nm_e ⟨w, nm_e (nm_r (nI_1 l) ⟨rfl, tv_mk ?_⟩)⟩⟩))⟩⟩
    exact ⟨⟨hn, hc, hd, by omega⟩, av, tv_lv_push lv, cs, ⟨es, cl⟩, rp, kk⟩
theorem i_vc_close {k : Nat} {u : SX} {v : SY} (I : i_Rel k u v) (hk : k + 4 ≤ 2048) : wpX_close (fun r u' => wpY_close (fun r' v' => r' = r ∧ i_Rel (k + 4) u' v') v) u := by
  obtain ⟨n, c, d, l, fh, ff, kn, aL, aR, aO, cH, cF, lA, lC, rl, bd, li, sz, fe, mo, rfl, rfl, R⟩ := I
  have R' := R
  obtain ⟨⟨hn, hc, hd, hl⟩, av, lv, cs, ⟨es, cl⟩, rp, kk⟩ := R
  unfold wpX_close wpX_emptyDraft wpY_close
  dsimp only
  cases l with
  | zero => exact br_f (by decide) (br_t rfl ⟨rfl, tv_mk R'⟩)
  | succ l =>
    obtain ⟨a, b, ha, hb, e1, e2, lv'⟩ := lv
    have w : vp_in (nI l) 4 := vp_in_nI (by omega) (by omega)
    have ec : (nI l).toNatClampNeg = l := nI_clamp (by omega)
    have e : ¬ nI (l + 1) = 0 := nI_ne0 (by omega) (by omega)
    refine br_t (nI_lt (a := 0) (by omega) (by omega)) (nm_r (nI_pred l) ⟨w, nm_r (e' := nI a) (by rw [ec, e1]) ⟨w, nm_r (e' := nI b) (by rw [ec, e2]) (br_f e (nm_r (nI_pred l) ⟨w, nm_r (e' := nI a) (by rw [ec, e1]) ⟨w, nm_r (e' := nI b) (by rw [ec, e2]) (nm_e ⟨rfl, tv_mk (d := 0) ?_⟩)⟩⟩))⟩⟩)
    exact ⟨⟨by omega, by omega, by omega, by omega⟩, tv_av_le av ha, lv', tv_cs_congr (tv_cs_le cs hb) (fun k hk => ⟨rfl, rfl, pk_un (by omega)⟩) (fun q hq => rfl), ⟨pk_us, tv_cl_0 _ _⟩, fun m hm => rp m (by omega), fun z => absurd rfl z⟩
theorem i_vc_literal {k : Nat} {u : SX} {v : SY} (I : i_Rel k u v) (hk : k + 4 ≤ 2048) (v1 : Int32) : wpX_literal (fun r u' => wpY_literal (fun r' v' => r' = r ∧ i_Rel (k + 4) u' v') v v1) u v1 := by
  obtain ⟨n, c, d, l, fh, ff, kn, aL, aR, aO, cH, cF, lA, lC, rl, bd, li, sz, fe, mo, rfl, rfl, R⟩ := I
  have R' := R
  obtain ⟨⟨hn, hc, hd, hl⟩, av, lv, cs, ⟨es, cl⟩, rp, kk⟩ := R
  unfold wpX_literal wpY_literal
  dsimp only
  rw [es, tv_64, nI_clamp (show 64 + d < 2 ^ 31 by omega)]
  rcases tv_tm v1 (show 2 * n < 2 ^ 31 by omega) with h | ⟨j, hj, rfl⟩
  · exact tx_lit0 h (br_t rfl (ty_lit0 hn h (br_t rfl ⟨rfl, tv_mk R'⟩)))
  · by_cases h : d = 4
    · subst h
      exact tx_lit1 hn hj (br_f (by decide) (br_f (nI_nlt (a := 4) (b := 4) (by omega) (by omega)) (ty_lit1 hn hj (br_f (by decide) (br_t rfl ⟨rfl, tv_mk R'⟩)))))
    · have e : ¬ nI d = 4 := fun z => h ((nI_eq (a := d) (b := 4) (by omega) (by omega)).mp z)
      refine tx_lit1 hn hj (br_f (by decide) (br_t (nI_lt (b := 4) (by omega) (by omega)) (tx_held (by omega) (nm_e (tx_fail (by omega) (nm_e (nm_r (nI_1 d) (ty_lit1 hn hj (br_f (by decide) (br_f e ⟨vp_in_nI (by omega) (by omega), nm_e (nm_r (congrArg _ (nI_1 d)) ⟨pk_us, tv_mk (d := d + 1) ?_⟩)⟩))))))))))
      exact ⟨⟨hn, hc, by omega, hl⟩, av, lv, tv_cs_congr cs (fun k hk => ⟨rfl, rfl, pk_un (by omega)⟩) (fun q hq => pk_un (by omega)), ⟨pk_us, tv_cl_add cl (by omega)⟩, rp, kk⟩
theorem i_vc_clause {k : Nat} {u : SX} {v : SY} (I : i_Rel k u v) (hk : k + 4 ≤ 2048) : wpX_clause (fun r u' => wpY_clause (fun r' v' => r' = r ∧ i_Rel (k + 4) u' v') v) u := by
  obtain ⟨n, c, d, l, fh, ff, kn, aL, aR, aO, cH, cF, lA, lC, rl, bd, li, sz, fe, mo, rfl, rfl, R⟩ := I
  have R' := R
  obtain ⟨⟨hn, hc, hd, hl⟩, av, lv, cs, ⟨es, cl⟩, rp, kk⟩ := R
  unfold wpX_clause wpX_addClause wpX_emptyDraft wpY_clause
  dsimp only
  rw [nI_clamp (show c < 2 ^ 31 by omega)]
  by_cases h : c = 16
  · subst h
    exact br_f (nI_nlt (a := 16) (b := 16) (by omega) (by omega)) (br_t rfl ⟨rfl, tv_mk R'⟩)
  · have w : vp_in (nI c) 16 := vp_in_nI (by omega) (by omega)
    have e : ¬ nI c = 16 := fun z => h ((nI_eq (a := c) (b := 16) (by omega) (by omega)).mp z)
    refine br_t (nI_lt (b := 16) (by omega) (by omega)) ⟨w, nm_e ⟨w, nm_e (nm_r (nI_1 c) (br_f e ⟨5, ty_clause15 (by omega) (fun l' h1 h2 => ⟨rfl, tv_mk (d := 0) ?_⟩) 4 0 5 li (by omega) (by omega) (fun q hq => absurd hq (by omega)) (fun q _ => rfl)⟩))⟩⟩
    have cs' : tv_cs (upd cH c fh) (upd cF c ff) l' (upd (upd sz c (sz 16)) 16 0) c := tv_cs_congr cs (fun k hk => ⟨pk_un (by omega), pk_un (by omega), (pk_un (by omega)).trans (pk_un (by omega))⟩) (fun q hq => h2 q (Or.inl hq))
    refine ⟨⟨hn, by omega, by omega, hl⟩, av, tv_lv_up lv (Nat.le_refl n) (by omega), tv_cs_add (s := d) cs' hd ?_ ?_, ⟨pk_us, tv_cl_0 _ _⟩, rp, kk⟩
    · rw [pk_un (by omega), pk_us, es]
    · rw [pk_us, pk_us]
      exact tv_cl_congr (fun i hi => h1 i (by omega)) cl
theorem i_vc_fact {k : Nat} {u : SX} {v : SY} (I : i_Rel k u v) (hk : k + 4 ≤ 2048) (v1 : Int32) : wpX_fact (fun r u' => wpY_fact (fun r' v' => r' = r ∧ i_Rel (k + 4) u' v') v v1) u v1 := by
  obtain ⟨n, c, d, l, fh, ff, kn, aL, aR, aO, cH, cF, lA, lC, rl, bd, li, sz, fe, mo, rfl, rfl, R⟩ := I
  have R' := R
  obtain ⟨⟨hn, hc, hd, hl⟩, av, lv, cs, ⟨es, cl⟩, rp, kk⟩ := R
  unfold wpX_fact wpX_addClause wpY_fact
  dsimp only
  rw [tv_40, nI_clamp (show c < 2 ^ 31 by omega), nI_clamp (show 4 * c < 2 ^ 31 by omega)]
  rcases tv_tm v1 (show 2 * n < 2 ^ 31 by omega) with h | ⟨j, hj, rfl⟩
  · exact tx_lit0 h (br_t rfl (ty_lit0 hn h (br_t rfl ⟨rfl, tv_mk R'⟩)))
  · by_cases h : c = 16
    · subst h
      exact tx_lit1 hn hj (br_f (by decide) (br_f (nI_nlt (a := 16) (b := 16) (by omega) (by omega)) (ty_lit1 hn hj (br_f (by decide) (br_t rfl ⟨rfl, tv_mk R'⟩)))))
    · have w : vp_in (nI c) 16 := vp_in_nI (by omega) (by omega)
      have e : ¬ nI c = 16 := fun z => h ((nI_eq (a := c) (b := 16) (by omega) (by omega)).mp z)
      refine tx_lit1 hn hj (br_f (by decide) (br_t (nI_lt (b := 16) (by omega) (by omega)) (tx_held (by omega) (tx_fail (by omega) ⟨w, nm_e ⟨w, nm_e (nm_r (nI_1 c) (ty_lit1 hn hj (br_f (by decide) (br_f e ⟨vp_in_nI (by omega) (by omega), nm_e ⟨vp_in_nI (by omega) (by omega), nm_e (nm_r (nI_1 c) ⟨nI_pred c, tv_mk ?_⟩)⟩⟩))))⟩⟩))))
      have cs' : tv_cs (upd cH c (tv_he j)) (upd cF c (tv_fa j)) (upd li (4 * c) (nI j)) (upd sz c 1) c := tv_cs_congr cs (fun k hk => ⟨pk_un (by omega), pk_un (by omega), pk_un (by omega)⟩) (fun q hq => pk_un (by omega))
      refine ⟨⟨hn, by omega, hd, hl⟩, av, tv_lv_up lv (Nat.le_refl n) (by omega), tv_cs_add (s := 1) cs' (by omega) pk_us ?_, ⟨(pk_un (by omega)).trans es, tv_cl_congr (fun i hi => pk_un (by omega)) cl⟩, rp, kk⟩
      rw [pk_us, pk_us]
      exact tv_cl_1 (by omega)
theorem i_vc_atom {k : Nat} {u : SX} {v : SY} (I : i_Rel k u v) (hk : k + 4 ≤ 2048) (v1 : Int32) (v2 : Int32) (v3 : Int32) : wpX_atom (fun r u' => wpY_atom (fun r' v' => r' = r ∧ i_Rel (k + 4) u' v') v v1 v2 v3) u v1 v2 v3 := by
  obtain ⟨n, c, d, l, fh, ff, kn, aL, aR, aO, cH, cF, lA, lC, rl, bd, li, sz, fe, mo, rfl, rfl, R⟩ := I
  have R' := R
  obtain ⟨⟨hn, hc, hd, hl⟩, av, lv, cs, ⟨es, cl⟩, rp, kk⟩ := R
  unfold wpX_atom wpY_atom
  dsimp only
  rw [nI_clamp (show n < 2 ^ 31 by omega)]
  rcases tv_tm v1 (show 7 < 2 ^ 31 by omega) with h | ⟨a, ha, rfl⟩
  · exact tx_term0 h (br_t rfl (ty_term0 h (br_t rfl ⟨rfl, tv_mk R'⟩)))
  · refine tx_term1 ha (br_f (by decide) ?_)
    rcases tv_tm v2 (show 7 < 2 ^ 31 by omega) with h | ⟨b, hb, rfl⟩
    · exact tx_term0 h (br_t rfl (ty_term1 ha (br_f (by decide) (ty_term0 h (br_t rfl ⟨rfl, tv_mk R'⟩)))))
    · refine tx_term1 hb (br_f (by decide) ?_)
      by_cases e : nI a = nI b
      · exact br_t e (ty_term1 ha (br_f (by decide) (ty_term1 hb (br_f (by decide) (br_t e ⟨rfl, tv_mk R'⟩)))))
      · refine br_f e ?_
        by_cases f : v3 < -20
        · exact br_t f (ty_term1 ha (br_f (by decide) (ty_term1 hb (br_f (by decide) (br_f e (br_t f ⟨rfl, tv_mk R'⟩))))))
        · refine br_f f ?_
          by_cases g : v3 ≤ 20
          · refine br_t g ?_
            by_cases h : n = 8
            · subst h
              exact br_f (nI_nlt (a := 8) (b := 8) (by omega) (by omega)) (ty_term1 ha (br_f (by decide) (ty_term1 hb (br_f (by decide) (br_f e (br_f f (br_t g (br_t rfl ⟨rfl, tv_mk R'⟩))))))))
            · have w : vp_in (nI n) 8 := vp_in_nI (by omega) (by omega)
              have e8 : ¬ nI n = 8 := fun z => h ((nI_eq (a := n) (b := 8) (by omega) (by omega)).mp z)
              have f' := f
              have g' := g
              rw [tv_lI, show (-20 : Int32).toInt = -20 by decide] at f'
              rw [tv_eI, show (20 : Int32).toInt = 20 by decide] at g'
              have av' : tv_av (upd aL n (nI a)) (upd aR n (nI b)) (upd aO n v3) (n + 1) := by
                intro i hi
                by_cases z : i = n
                · subst z
                  exact ⟨a, b, ha, hb, fun y => e (by rw [y]), pk_us, pk_us, by rw [pk_us]; omega, by rw [pk_us]; omega⟩
                · rw [pk_un z, pk_un z, pk_un z]; exact av i (by omega)
              have rp' : tv_rp (upd aL n (nI a)) (upd aR n (nI b)) (upd aO n v3) rl n := tv_rp_congr rp (fun i hi => ⟨pk_un (by omega), pk_un (by omega), pk_un (by omega)⟩)
              refine br_t (nI_lt (b := 8) (by omega) (by omega)) ⟨w, nm_e ⟨w, nm_e ⟨w, nm_e (nm_r (nI_1 n) (tx_findReal (by omega) av' rp' (fun r' b' rq => ty_term1 ha (br_f (by decide) (ty_term1 hb (br_f (by decide) (br_f e (br_f f (br_t g (br_f e8 ⟨w, nm_e ⟨w, nm_e ⟨w, nm_e (nm_r (nI_1 n) ⟨nI_pred n, tv_mk ?_⟩)⟩⟩⟩))))))))))⟩⟩⟩
              exact ⟨⟨by omega, hc, hd, hl⟩, av', tv_lv_up lv (by omega) (Nat.le_refl c), cs, ⟨es, cl⟩, rq, fun z => absurd rfl z⟩
          · exact br_f g (ty_term1 ha (br_f (by decide) (ty_term1 hb (br_f (by decide) (br_f e (br_f f (br_f g ⟨rfl, tv_mk R'⟩)))))))
end
section
theorem tv_g_lt {aL aR aO cH cF : Nat → Int32} {n c p : Nat} {but : Int32} (h : tv_g aL aR aO cH cF n c but p) : p < 2 ^ n := h.1.1
theorem tv_nx_some {G : Nat → Prop} {r : Int32} {p : Nat} (hp : p < 256) (g : G p) (h : tv_nx G 0 r) : ¬ r < 0 := by
  rcases h with ⟨q, rfl, _, hq, _⟩ | ⟨_, h⟩
  · exact nI_pos (by omega)
  · exact absurd g (h p (by omega) hp)
theorem tv_nx_none {G : Nat → Prop} {r : Int32} (g : ∀ p, p < 256 → ¬ G p) (h : tv_nx G 0 r) : r < 0 := by
  rcases h with ⟨q, rfl, _, hq, z, _⟩ | ⟨e, h⟩
  · exact absurd z (g q hq)
  · rw [e]; exact tv_3k
section
variable {aL aR aO cH cF : Nat → Int32} {n c : Nat}
theorem tv_up {P : Nat → Prop} {but : Int32} (hn : n ≤ 8) (h : ∃ p, p < 2 ^ n ∧ tv_g aL aR aO cH cF n c but p ∧ P p) : ∃ p, p < 256 ∧ tv_g aL aR aO cH cF n c but p ∧ P p := by
  have h8 := tv_p8 hn
  obtain ⟨p, hp, q⟩ := h
  exact ⟨p, by omega, q⟩
theorem tv_dn {P : Nat → Prop} {but : Int32} (h : ∃ p, p < 256 ∧ tv_g aL aR aO cH cF n c but p ∧ P p) : ∃ p, p < 2 ^ n ∧ tv_g aL aR aO cH cF n c but p ∧ P p := by
  obtain ⟨p, hp, g, q⟩ := h
  exact ⟨p, g.1.1, g, q⟩
theorem tv_cn256 (hn : n ≤ 8) (but : Int32) : tv_cn (tv_g aL aR aO cH cF n c but) 256 = tv_cn (tv_g aL aR aO cH cF n c but) (2 ^ n) :=
  tv_fo_gap (tv_p8 hn) (fun q h1 h2 g => by have := g.1.1; omega)
theorem tv_fo256 (hn : n ≤ 8) (but : Int32) : tv_fo (tv_g aL aR aO cH cF n c but) tv_un (0, 0) 256 = tv_fo (tv_g aL aR aO cH cF n c but) tv_un (0, 0) (2 ^ n) :=
  tv_fo_gap (tv_p8 hn) (fun q h1 h2 g => by have := g.1.1; omega)
theorem tv_m1n {k : Nat} (h : k < 16) : ¬ nI k = -1 := (by decide +kernel : ∀ k, k < 16 → ¬ nI k = -1) k h
theorem tv_sp (hn : n ≤ 8) (hc : c ≤ 16) {k : Nat} (hk : k < c) : (∀ p, p < 2 ^ n → tv_g aL aR aO cH cF n c (nI k) p → tv_xm (cH k) (cF k) p) ↔ tv_cn (tv_g aL aR aO cH cF n c (nI k)) 256 = tv_cn (tv_g aL aR aO cH cF n c (-1)) 256 := by
  rw [tv_cn_eq 256 (fun p _ g => ⟨g.1, fun j hj _ => g.2 j hj (tv_m1n (by omega))⟩)]
  constructor
  · intro h p hp g
    refine ⟨g.1, fun j hj _ => ?_⟩
    by_cases z : j = k
    · subst z; exact h p g.1.1 g
    · exact g.2 j hj (fun y => z ((nI_eq (by omega) (by omega)).mp y))
  · intro h p hp g
    have h8 := tv_p8 hn
    exact (h p (by omega) g).2 k hk (tv_m1n (by omega))
end
theorem i_vc_possible {k : Nat} {u : SX} {v : SY} (I : i_Rel k u v) (hk : k + 4 ≤ 2048) : wpX_possible (fun r => wpY_possible (fun r' v' => r' = r ∧ i_Rel (k + 4) u v') v) u := by
  obtain ⟨n, c, d, l, fh, ff, kn, aL, aR, aO, cH, cF, lA, lC, rl, bd, li, sz, fe, mo, rfl, rfl, R⟩ := I
  have R' := R
  obtain ⟨⟨hn, hc, hd, hl⟩, av, lv, cs, ⟨es, cl⟩, rp, kk⟩ := R
  have h8 := tv_p8 hn
  unfold wpX_possible wpY_possible
  dsimp only
  refine tx_some hn hc rp (fun h => ⟨rfl, ?_⟩) (fun h => ⟨rfl, ?_⟩)
  · obtain ⟨p, hp, g⟩ := h
    exact ty_next (s := 0) hn hc av cs kk (by omega) (fun r f' b' kr hr => br_f (tv_nx_some (by omega) g hr) ⟨rfl, tv_mk (tv_Rk R' kr)⟩)
  · exact ty_next (s := 0) hn hc av cs kk (by omega) (fun r f' b' kr hr => br_t (tv_nx_none (fun p _ g => h p g.1.1 g) hr) ⟨rfl, tv_mk (tv_Rk R' kr)⟩)
theorem i_vc_without {k : Nat} {u : SX} {v : SY} (I : i_Rel k u v) (hk : k + 4 ≤ 2048) (v1 : Int32) : wpX_without (fun r => wpY_without (fun r' v' => r' = r ∧ i_Rel (k + 4) u v') v v1) u v1 := by
  obtain ⟨n, c, d, l, fh, ff, kn, aL, aR, aO, cH, cF, lA, lC, rl, bd, li, sz, fe, mo, rfl, rfl, R⟩ := I
  have R' := R
  obtain ⟨⟨hn, hc, hd, hl⟩, av, lv, cs, ⟨es, cl⟩, rp, kk⟩ := R
  have h8 := tv_p8 hn
  unfold wpX_without wpY_without
  dsimp only
  by_cases h0 : v1 < 0
  · exact br_t h0 (br_t h0 ⟨rfl, tv_mk R'⟩)
  · by_cases h1 : nI c ≤ v1
    · exact br_f h0 (br_t h1 (br_f h0 (br_t h1 ⟨rfl, tv_mk R'⟩)))
    · refine br_f h0 (br_f h1 (tx_some hn hc rp (fun h => br_f (by decide) (br_f h0 (br_f h1 ?_))) (fun h => br_t rfl (br_f h0 (br_f h1 ?_)))))
      · obtain ⟨p, hp, g⟩ := h
        exact ty_next (s := 0) hn hc av cs kk (by omega) (fun r f' b' kr hr => br_f (tv_nx_some (by omega) g hr) ⟨rfl, tv_mk (tv_Rk R' kr)⟩)
      · exact ty_next (s := 0) hn hc av cs kk (by omega) (fun r f' b' kr hr => br_t (tv_nx_none (fun p _ g => h p g.1.1 g) hr) ⟨rfl, tv_mk (tv_Rk R' kr)⟩)
theorem i_vc_implied {k : Nat} {u : SX} {v : SY} (I : i_Rel k u v) (hk : k + 4 ≤ 2048) (v1 : Int32) : wpX_implied (fun r => wpY_implied (fun r' v' => r' = r ∧ i_Rel (k + 4) u v') v v1) u v1 := by
  obtain ⟨n, c, d, l, fh, ff, kn, aL, aR, aO, cH, cF, lA, lC, rl, bd, li, sz, fe, mo, rfl, rfl, R⟩ := I
  have R' := R
  obtain ⟨⟨hn, hc, hd, hl⟩, av, lv, cs, ⟨es, cl⟩, rp, kk⟩ := R
  have h8 := tv_p8 hn
  unfold wpX_implied wpY_implied
  dsimp only
  rcases tv_tm v1 (show 2 * n < 2 ^ 31 by omega) with h | ⟨j, hj, rfl⟩
  · exact tx_lit0 h (br_t rfl (ty_lit0 hn h (br_t rfl ⟨rfl, tv_mk R'⟩)))
  · have hj6 : j < 16 := by omega
    refine tx_lit1 hn hj (br_f (by decide) (tx_held hj6 (tx_fail hj6 (tx_count hn ⟨2 ^ n + 1, tx_implied29 hn hc rp (fun h => ?_) (fun h => ?_) (2 ^ n) 0 (2 ^ n + 1) (by omega) (by omega) (fun p hp => absurd hp (by omega))⟩))))
    · refine ty_lit1 hn hj (br_f (by decide) (ty_next (s := 0) hn hc av cs kk (by omega) (fun r f' b' kr hr => ⟨257, ty_implied17 hn hc av cs hj6 (fun z f b kr => ⟨rfl, tv_mk (tv_Rk R' kr)⟩) (fun z => ?_) 257 0 r f' b' (by omega) kr hr (fun p hp => absurd hp (by omega))⟩)))
      obtain ⟨p, hp, g, y⟩ := z
      exact absurd ((tv_xm_lit hj6 hp).mp (h p g.1.1 g)) y
    · refine ty_lit1 hn hj (br_f (by decide) (ty_next (s := 0) hn hc av cs kk (by omega) (fun r f' b' kr hr => ⟨257, ty_implied17 hn hc av cs hj6 (fun z => ?_) (fun z f b kr => ⟨rfl, tv_mk (tv_Rk R' kr)⟩) 257 0 r f' b' (by omega) kr hr (fun p hp => absurd hp (by omega))⟩)))
      obtain ⟨p, hp, g, y⟩ := h
      exact absurd ((tv_xm_lit hj6 (by omega)).mpr (z p (by omega) g)) y
theorem i_vc_equal {k : Nat} {u : SX} {v : SY} (I : i_Rel k u v) (hk : k + 4 ≤ 2048) (v1 : Int32) (v2 : Int32) : wpX_equal (fun r u' => wpY_equal (fun r' v' => r' = r ∧ i_Rel (k + 4) u' v') v v1 v2) u v1 v2 := by
  obtain ⟨n, c, d, l, fh, ff, kn, aL, aR, aO, cH, cF, lA, lC, rl, bd, li, sz, fe, mo, rfl, rfl, R⟩ := I
  have R' := R
  obtain ⟨⟨hn, hc, hd, hl⟩, av, lv, cs, ⟨es, cl⟩, rp, kk⟩ := R
  have va := tv_av_va av
  unfold wpX_equal wpY_equal
  dsimp only
  rcases tv_tm v1 (show 7 < 2 ^ 31 by omega) with h | ⟨a, ha, rfl⟩
  · exact tx_term0 h (br_t rfl (ty_term0 h (br_t rfl ⟨rfl, tv_mk R'⟩)))
  · refine tx_term1 ha (br_f (by decide) ?_)
    rcases tv_tm v2 (show 7 < 2 ^ 31 by omega) with h | ⟨b, hb, rfl⟩
    · exact tx_term0 h (br_t rfl (ty_term1 ha (br_f (by decide) (ty_term0 h (br_t rfl ⟨rfl, tv_mk R'⟩)))))
    · refine tx_term1 hb (br_f (by decide) (tx_differ hn hc av rp ha hb (fun h b1 => br_f (by decide) ?_) (fun h b1 => br_t rfl ?_)))
      · refine ty_term1 ha (br_f (by decide) (ty_term1 hb (br_f (by decide) (ty_differ hn hc av cs kk ha hb (fun h' f' b' kr => br_f (by decide) ⟨rfl, tv_mk (tv_Rk R' kr)⟩) (fun h' => ?_)))))
        obtain ⟨p, hp, g, y⟩ := tv_up hn h
        exact absurd ((tv_DXY va ha hb).mp y) (h' p hp g)
      · refine ty_term1 ha (br_f (by decide) (ty_term1 hb (br_f (by decide) (ty_differ hn hc av cs kk ha hb (fun h' => ?_) (fun h' f' b' kr => br_t rfl ⟨rfl, tv_mk (tv_Rk R' kr)⟩)))))
        obtain ⟨p, hp, g, y⟩ := tv_dn h'
        exact absurd ((tv_DXY va ha hb).mpr y) (h p hp g)
theorem i_vc_apart {k : Nat} {u : SX} {v : SY} (I : i_Rel k u v) (hk : k + 4 ≤ 2048) (v1 : Int32) (v2 : Int32) : wpX_apart (fun r u' => wpY_apart (fun r' v' => r' = r ∧ i_Rel (k + 4) u' v') v v1 v2) u v1 v2 := by
  obtain ⟨n, c, d, l, fh, ff, kn, aL, aR, aO, cH, cF, lA, lC, rl, bd, li, sz, fe, mo, rfl, rfl, R⟩ := I
  have R' := R
  obtain ⟨⟨hn, hc, hd, hl⟩, av, lv, cs, ⟨es, cl⟩, rp, kk⟩ := R
  have va := tv_av_va av
  unfold wpX_apart wpY_apart
  dsimp only
  rcases tv_tm v1 (show 7 < 2 ^ 31 by omega) with h | ⟨a, ha, rfl⟩
  · exact tx_term0 h (br_t rfl (ty_term0 h (br_t rfl ⟨rfl, tv_mk R'⟩)))
  · refine tx_term1 ha (br_f (by decide) ?_)
    rcases tv_tm v2 (show 7 < 2 ^ 31 by omega) with h | ⟨b, hb, rfl⟩
    · exact tx_term0 h (br_t rfl (ty_term1 ha (br_f (by decide) (ty_term0 h (br_t rfl ⟨rfl, tv_mk R'⟩)))))
    · refine tx_term1 hb (br_f (by decide) (tx_differ hn hc av rp ha hb (fun h b1 => br_f (by decide) ?_) (fun h b1 => br_t rfl ?_)))
      · refine ty_term1 ha (br_f (by decide) (ty_term1 hb (br_f (by decide) (ty_differ hn hc av cs kk ha hb (fun h' f' b' kr => br_f (by decide) ⟨rfl, tv_mk (tv_Rk R' kr)⟩) (fun h' => ?_)))))
        obtain ⟨p, hp, g, y⟩ := tv_up hn h
        exact absurd ((tv_DXY va ha hb).mp y) (h' p hp g)
      · refine ty_term1 ha (br_f (by decide) (ty_term1 hb (br_f (by decide) (ty_differ hn hc av cs kk ha hb (fun h' => ?_) (fun h' f' b' kr => br_t rfl ⟨rfl, tv_mk (tv_Rk R' kr)⟩)))))
        obtain ⟨p, hp, g, y⟩ := tv_dn h'
        exact absurd ((tv_DXY va ha hb).mpr y) (h p hp g)
theorem i_vc_pattern {k : Nat} {u : SX} {v : SY} (I : i_Rel k u v) (hk : k + 4 ≤ 2048) (v1 : Int32) : wpX_pattern (fun r => wpY_pattern (fun r' v' => r' = r ∧ i_Rel (k + 4) u v') v v1) u v1 := by
  obtain ⟨n, c, d, l, fh, ff, kn, aL, aR, aO, cH, cF, lA, lC, rl, bd, li, sz, fe, mo, rfl, rfl, R⟩ := I
  have R' := R
  obtain ⟨⟨hn, hc, hd, hl⟩, av, lv, cs, ⟨es, cl⟩, rp, kk⟩ := R
  have h8 := tv_p8 hn
  unfold wpX_pattern wpY_pattern
  dsimp only
  have f1 : ∀ s q r, s ≤ q → tv_g aL aR aO cH cF n c (-1) q → (∀ p, s ≤ p → p < q → ¬ tv_g aL aR aO cH cF n c (-1) p) → tv_nx (tv_g aL aR aO cH cF n c (-1)) s r → r = nI q := by
    intro s q r hs g h hr
    have hq := tv_g_lt g
    rcases hr with ⟨x, e, h1, h2, h3, h4⟩ | ⟨_, h1⟩
    · by_cases z : x = q
      · subst z; exact e
      · by_cases y : x < q
        · exact absurd h3 (h x h1 y)
        · exact absurd g (h4 q hs (by omega))
    · exact absurd g (h1 q hs (by omega))
  have f0 : ∀ s r, (∀ p, s ≤ p → p < 2 ^ n → ¬ tv_g aL aR aO cH cF n c (-1) p) → tv_nx (tv_g aL aR aO cH cF n c (-1)) s r → r = -3000 := by
    intro s r h hr
    rcases hr with ⟨x, e, h1, h2, h3, h4⟩ | ⟨e, _⟩
    · exact absurd h3 (h x h1 h3.1.1)
    · exact e
  by_cases h0 : v1 < 0
  · have a0 : ¬ 0 ≤ v1 := Int32.not_le.mpr h0
    have a1 : v1 ≤ 0 := Int32.le_of_lt h0
    refine tx_count hn (br_t a1 ⟨2 ^ n + 1, tx_pattern15 (s := 0) hn hc rp (fun q hs hq g h => ?_) (fun h => ?_) (2 ^ n) 0 (2 ^ n + 1) (by omega) (by omega) (Nat.le_refl 0) (fun p _ hp => absurd hp (by omega))⟩)
    · exact ty_nextn hn hc av cs kk a0 (fun r f' b' kr hr => ⟨f1 0 q r hs g h hr, tv_mk (tv_Rk R' kr)⟩)
    · exact ty_nextn hn hc av cs kk a0 (fun r f' b' kr hr => ⟨f0 0 r h hr, tv_mk (tv_Rk R' kr)⟩)
  · obtain ⟨s, hs31, rfl⟩ := nI_of h0
    have Y1 : ∀ q, s ≤ q → q < 2 ^ n → tv_g aL aR aO cH cF n c (-1) q → (∀ p, s ≤ p → p < q → ¬ tv_g aL aR aO cH cF n c (-1) p) → wpY_next (fun r_1 u => match u with | (a1, a2, a3, a4, a5, a6, a7, a8, a9, a10, a11, a12, a13) => r_1 = nI q ∧ i_Rel (k + 4) (nI n, nI c, fh, ff, nI d, nI l, aL, aR, aO, cH, cF, lA, lC, rl, bd) (a1, a2, a3, a4, a5, a6, a7, a8, a9, a10, a11, a12, a13)) (nI n, nI c, nI l, kn, aL, aR, aO, li, sz, lA, lC, fe, mo) (nI s) (-1) :=
      fun q hs hq g h => ty_next hn hc av cs kk hs31 (fun r f' b' kr hr => ⟨f1 s q r hs g h hr, tv_mk (tv_Rk R' kr)⟩)
    have Y0 : (∀ p, s ≤ p → p < 2 ^ n → ¬ tv_g aL aR aO cH cF n c (-1) p) → wpY_next (fun r_1 u => match u with | (a1, a2, a3, a4, a5, a6, a7, a8, a9, a10, a11, a12, a13) => r_1 = -3000 ∧ i_Rel (k + 4) (nI n, nI c, fh, ff, nI d, nI l, aL, aR, aO, cH, cF, lA, lC, rl, bd) (a1, a2, a3, a4, a5, a6, a7, a8, a9, a10, a11, a12, a13)) (nI n, nI c, nI l, kn, aL, aR, aO, li, sz, lA, lC, fe, mo) (nI s) (-1) :=
      fun h => ty_next hn hc av cs kk hs31 (fun r f' b' kr hr => ⟨f0 s r h hr, tv_mk (tv_Rk R' kr)⟩)
    refine tx_count hn ?_
    by_cases z : s = 0
    · subst z
      exact br_t (nI_le (b := 0) (Nat.le_refl 0) (by omega)) ⟨2 ^ n + 1, tx_pattern15 (s := 0) hn hc rp Y1 Y0 (2 ^ n) 0 (2 ^ n + 1) (by omega) (by omega) (Nat.le_refl 0) (fun p _ hp => absurd hp (by omega))⟩
    · refine br_f (nI_nle (by omega) hs31) ?_
      by_cases y : s ≤ 2 ^ n
      · exact ⟨2 ^ n - s + 1, tx_pattern15 (s := s) hn hc rp Y1 Y0 (2 ^ n - s) s (2 ^ n - s + 1) (by omega) (by omega) (Nat.le_refl s) (fun p h1 hp => absurd hp (by omega))⟩
      · refine ⟨1, ?_⟩
        rw [wX_pattern_15]
        exact br_t (nI_le (by omega) hs31) (Y0 (fun p h1 h2 => absurd h2 (by omega)))
theorem i_vc_patterns {k : Nat} {u : SX} {v : SY} (I : i_Rel k u v) (hk : k + 4 ≤ 2048) : wpX_patterns (fun r => wpY_patterns (fun r' v' => r' = r ∧ i_Rel (k + 4) u v') v) u := by
  obtain ⟨n, c, d, l, fh, ff, kn, aL, aR, aO, cH, cF, lA, lC, rl, bd, li, sz, fe, mo, rfl, rfl, R⟩ := I
  have R' := R
  obtain ⟨⟨hn, hc, hd, hl⟩, av, lv, cs, ⟨es, cl⟩, rp, kk⟩ := R
  unfold wpX_patterns wpY_patterns
  dsimp only
  refine tx_count hn ⟨2 ^ n + 1, tx_patterns9 hn hc rp ?_ (2 ^ n) 0 (2 ^ n + 1) (by omega) (by omega)⟩
  exact ty_countGood hn hc av cs kk (fun f' b' kr => ⟨congrArg nI (tv_cn256 hn (-1)), tv_mk (tv_Rk R' kr)⟩)
theorem i_vc_undecided {k : Nat} {u : SX} {v : SY} (I : i_Rel k u v) (hk : k + 4 ≤ 2048) : wpX_undecided (fun r => wpY_undecided (fun r' v' => r' = r ∧ i_Rel (k + 4) u v') v) u := by
  obtain ⟨n, c, d, l, fh, ff, kn, aL, aR, aO, cH, cF, lA, lC, rl, bd, li, sz, fe, mo, rfl, rfl, R⟩ := I
  have R' := R
  obtain ⟨⟨hn, hc, hd, hl⟩, av, lv, cs, ⟨es, cl⟩, rp, kk⟩ := R
  unfold wpX_undecided wpY_undecided
  dsimp only
  refine tx_count hn ⟨2 ^ n + 1, tx_und12 hn hc rp ?_ (2 ^ n) 0 (2 ^ n + 1) (by omega) (by omega)⟩
  refine ty_next (s := 0) hn hc av cs kk (by omega) (fun r f' b' kr hr => ⟨257, ?_⟩)
  refine ty_und11 hn hc av cs (fun f b kr => ?_) 257 0 r f' b' (by omega) (by omega) kr hr
  refine ⟨?_, tv_mk (tv_Rk R' kr)⟩
  rw [tv_fo256 hn]
theorem i_vc_spare {k : Nat} {u : SX} {v : SY} (I : i_Rel k u v) (hk : k + 4 ≤ 2048) : wpX_spare (fun r => wpY_spare (fun r' v' => r' = r ∧ i_Rel (k + 4) u v') v) u := by
  obtain ⟨n, c, d, l, fh, ff, kn, aL, aR, aO, cH, cF, lA, lC, rl, bd, li, sz, fe, mo, rfl, rfl, R⟩ := I
  have R' := R
  obtain ⟨⟨hn, hc, hd, hl⟩, av, lv, cs, ⟨es, cl⟩, rp, kk⟩ := R
  unfold wpX_spare wpY_spare
  dsimp only
  refine ⟨c + 1, tx_spare4 hn hc rp ?_ c 0 (c + 1) (by omega) (by omega)⟩
  refine ty_countGood hn hc av cs kk (fun f' b' kr => ⟨c + 1, ?_⟩)
  refine ty_spare10 hn hc av cs (tv_cn_b _ 256) (fun f b kr => ?_) c 0 (c + 1) f' b' (by omega) (by omega) kr
  exact ⟨congrArg nI (tv_fo_congr c (fun k hk => (tv_sp hn hc hk).symm)), tv_mk (tv_Rk R' kr)⟩
theorem i_vc_least {k : Nat} {u : SX} {v : SY} (I : i_Rel k u v) (hk : k + 4 ≤ 2048) (v1 : Int32) (v2 : Int32) : wpX_least (fun r u' => wpY_least (fun r' v' => r' = r ∧ i_Rel (k + 4) u' v') v v1 v2) u v1 v2 := by
  obtain ⟨n, c, d, l, fh, ff, kn, aL, aR, aO, cH, cF, lA, lC, rl, bd, li, sz, fe, mo, rfl, rfl, R⟩ := I
  have R' := R
  obtain ⟨⟨hn, hc, hd, hl⟩, av, lv, cs, ⟨es, cl⟩, rp, kk⟩ := R
  have va := tv_av_va av
  have h8 := tv_p8 hn
  unfold wpX_least wpY_least
  dsimp only
  rcases tv_tm v1 (show 7 < 2 ^ 31 by omega) with h | ⟨a, ha, rfl⟩
  · exact tx_term0 h (br_t rfl (ty_term0 h (br_t rfl ⟨rfl, tv_mk R'⟩)))
  · refine tx_term1 ha (br_f (by decide) ?_)
    rcases tv_tm v2 (show 7 < 2 ^ 31 by omega) with h | ⟨b, hb, rfl⟩
    · exact tx_term0 h (br_t rfl (ty_term1 ha (br_f (by decide) (ty_term0 h (br_t rfl ⟨rfl, tv_mk R'⟩)))))
    · refine tx_term1 hb (br_f (by decide) ?_)
      by_cases e : nI a = nI b
      · exact br_t e (ty_term1 ha (br_f (by decide) (ty_term1 hb (br_f (by decide) (br_t e ⟨rfl, tv_mk R'⟩)))))
      · have x1 : (-1000000000 : Int32).toInt = -1000000000 := by decide +kernel
        have x2 : (-3000 : Int32).toInt = -3000 := by decide +kernel
        have x3 : (500000 : Int32).toInt = 500000 := by decide +kernel
        have eqI : ∀ x y : Int32, x = y ↔ x.toInt = y.toInt := fun x y => ⟨fun z => by rw [z], fun z => Int32.toInt_inj.mp z⟩
        refine br_f e (tx_count hn ⟨2 ^ n + 1, tx_least35 hn hc av rp ha hb (fun g b1 mg => ?_) (2 ^ n) 0 (2 ^ n + 1) (-1000000000) bd (by omega) (by omega) (by rw [x1]; exact tv_mx_0 _ (fun v ⟨q, hq, _⟩ => absurd hq (by omega)))⟩)
        have XY : ∀ g' : Int32, tv_mx (tv_wy aL aR aO cH cF n c b a 256) (-3000) g'.toInt → (g.toInt = -1000000000 ∧ g'.toInt = -3000) ∨ (g.toInt = 1000000000 ∧ 500000 < g'.toInt ∧ g'.toInt ≤ 1000000) ∨ (g.toInt = g'.toInt ∧ -2688 ≤ g.toInt ∧ g.toInt ≤ 2688) := by
          intro g' mg'
          refine tv_mx_XY mg mg' ?_ ?_
          · rintro v ⟨q, hq, gq, vq⟩
            obtain ⟨w, hw, ew⟩ := (tv_vxy va hb ha).1 v vq
            exact ⟨w, ⟨q, by omega, gq, hw⟩, ew⟩
          · rintro w ⟨q, hq, gq, vq⟩
            obtain ⟨v, hv, ev⟩ := (tv_vxy va hb ha).2 w vq
            exact ⟨v, ⟨q, gq.1.1, gq, hv⟩, ev⟩
        refine br_c (fun c1 => ?_) (fun c1 => br_c (fun c2 => ?_) (fun c2 => ?_))
        · rw [eqI, x1] at c1
          refine ty_term1 ha (br_f (by decide) (ty_term1 hb (br_f (by decide) (br_f e (ty_next (s := 0) hn hc av cs kk (by omega) (fun r f' b' kr hr => ⟨257, ty_least37 hn hc av cs ha hb (fun g' f2 b2 mg' kr2 => ?_) 257 0 r (-3000) f' b' (by omega) (by omega) kr hr (by rw [x2]; exact tv_mx_0 _ (fun v ⟨q, hq, _⟩ => absurd hq (by omega)))⟩))))))
          have z := XY g' mg'
          exact br_t ((eqI _ _).mpr (by rw [x2]; omega)) ⟨rfl, tv_mk (tv_Rk R' kr2)⟩
        · rw [eqI, tv_TI] at c2
          refine ty_term1 ha (br_f (by decide) (ty_term1 hb (br_f (by decide) (br_f e (ty_next (s := 0) hn hc av cs kk (by omega) (fun r f' b' kr hr => ⟨257, ty_least37 hn hc av cs ha hb (fun g' f2 b2 mg' kr2 => ?_) 257 0 r (-3000) f' b' (by omega) (by omega) kr hr (by rw [x2]; exact tv_mx_0 _ (fun v ⟨q, hq, _⟩ => absurd hq (by omega)))⟩))))))
          have z := XY g' mg'
          exact br_f (fun y => by rw [eqI, x2] at y; omega) (br_f (fun y => by rw [tv_eI, x3] at y; omega) ⟨rfl, tv_mk (tv_Rk R' kr2)⟩)
        · rw [eqI, x1] at c1
          rw [eqI, tv_TI] at c2
          refine ty_term1 ha (br_f (by decide) (ty_term1 hb (br_f (by decide) (br_f e (ty_next (s := 0) hn hc av cs kk (by omega) (fun r f' b' kr hr => ⟨257, ty_least37 hn hc av cs ha hb (fun g' f2 b2 mg' kr2 => ?_) 257 0 r (-3000) f' b' (by omega) (by omega) kr hr (by rw [x2]; exact tv_mx_0 _ (fun v ⟨q, hq, _⟩ => absurd hq (by omega)))⟩))))))
          have z := XY g' mg'
          have eg : g' = g := (eqI _ _).mpr (by omega)
          exact br_f (fun y => by rw [eqI, x2] at y; omega) (br_t (by rw [tv_eI, x3]; omega) ⟨by rw [eg], tv_mk (tv_Rk R' kr2)⟩)
end
