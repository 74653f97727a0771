noncomputable def tv_fo {σ : Type} (G : Nat → Prop) (f : σ → Nat → σ) (s : σ) : Nat → σ
  | 0 => s
  | m + 1 => @ite σ (G m) (Classical.propDecidable (G m)) (f (tv_fo G f s m) m) (tv_fo G f s m)
theorem tv_fo_t {σ : Type} {G : Nat → Prop} {f : σ → Nat → σ} {s : σ} {m : Nat} (h : G m) : tv_fo G f s (m + 1) = f (tv_fo G f s m) m := if_pos h
theorem tv_fo_f {σ : Type} {G : Nat → Prop} {f : σ → Nat → σ} {s : σ} {m : Nat} (h : ¬ G m) : tv_fo G f s (m + 1) = tv_fo G f s m := if_neg h
theorem tv_fo_gap1 {σ : Type} {G : Nat → Prop} {f : σ → Nat → σ} {s : σ} {a : Nat} : ∀ d, (∀ q, a ≤ q → q < a + d → ¬ G q) → tv_fo G f s (a + d) = tv_fo G f s a := by
  intro d
  induction d with
  | zero => intro _; rfl
  | succ d ih =>
    intro h
    exact (tv_fo_f (h (a + d) (by omega) (by omega))).trans (ih (fun q h1 h2 => h q h1 (by omega)))
theorem tv_fo_gap {σ : Type} {G : Nat → Prop} {f : σ → Nat → σ} {s : σ} {a b : Nat} (hab : a ≤ b) (h : ∀ q, a ≤ q → q < b → ¬ G q) : tv_fo G f s b = tv_fo G f s a := by
  have e : b = a + (b - a) := by omega
  rw [e]
  exact tv_fo_gap1 (b - a) (fun q h1 h2 => h q h1 (by omega))
noncomputable def tv_cn (G : Nat → Prop) (m : Nat) : Nat := tv_fo G (fun c _ => c + 1) 0 m
theorem tv_cn_t {G : Nat → Prop} {m : Nat} (h : G m) : tv_cn G (m + 1) = tv_cn G m + 1 := tv_fo_t h
theorem tv_cn_f {G : Nat → Prop} {m : Nat} (h : ¬ G m) : tv_cn G (m + 1) = tv_cn G m := tv_fo_f h
theorem tv_cn_b (G : Nat → Prop) : ∀ m, tv_cn G m ≤ m := by
  intro m
  induction m with
  | zero => exact Nat.le_refl 0
  | succ m ih =>
    by_cases h : G m
    · rw [tv_cn_t h]; omega
    · rw [tv_cn_f h]; omega
theorem tv_cn_le {G H : Nat → Prop} : ∀ m, (∀ p, p < m → G p → H p) → tv_cn G m ≤ tv_cn H m := by
  intro m
  induction m with
  | zero => intro _; exact Nat.le_refl _
  | succ m ih =>
    intro h
    have i := ih (fun p hp => h p (by omega))
    by_cases g : G m
    · rw [tv_cn_t g, tv_cn_t (h m (by omega) g)]; omega
    · rw [tv_cn_f g]
      by_cases g' : H m
      · rw [tv_cn_t g']; omega
      · rw [tv_cn_f g']; exact i
theorem tv_cn_eq {G H : Nat → Prop} : ∀ m, (∀ p, p < m → G p → H p) → (tv_cn H m = tv_cn G m ↔ ∀ p, p < m → H p → G p) := by
  intro m
  induction m with
  | zero => intro _; exact ⟨fun _ p hp => absurd hp (by omega), fun _ => rfl⟩
  | succ m ih =>
    intro h
    have hm : ∀ p, p < m → G p → H p := fun p hp => h p (by omega)
    have i := ih hm
    have l := tv_cn_le m hm
    by_cases g : G m
    · have g' := h m (by omega) g
      rw [tv_cn_t g, tv_cn_t g']
      constructor
      · intro e p hp hh
        by_cases q : p = m
        · subst q; exact g
        · exact i.mp (by omega) p (by omega) hh
      · intro e
        have := i.mpr (fun p hp => e p (by omega))
        omega
    · rw [tv_cn_f g]
      by_cases g' : H m
      · rw [tv_cn_t g']
        constructor
        · intro e; omega
        · intro e; exact absurd (e m (by omega) g') g
      · rw [tv_cn_f g']
        constructor
        · intro e p hp hh
          by_cases q : p = m
          · subst q; exact absurd hh g'
          · exact i.mp e p (by omega) hh
        · intro e; exact i.mpr (fun p hp => e p (by omega))
theorem tv_fo_congr {σ : Type} {G H : Nat → Prop} {f : σ → Nat → σ} {s : σ} : ∀ m, (∀ p, p < m → (G p ↔ H p)) → tv_fo G f s m = tv_fo H f s m := by
  intro m
  induction m with
  | zero => intro _; rfl
  | succ m ih =>
    intro h
    have i := ih (fun p hp => h p (by omega))
    by_cases g : G m
    · rw [tv_fo_t g, tv_fo_t ((h m (by omega)).mp g), i]
    · rw [tv_fo_f g, tv_fo_f (fun z => g ((h m (by omega)).mpr z)), i]
/-- a truth as an int -/
noncomputable def tv_i (P : Prop) : Int32 := @ite Int32 P (Classical.propDecidable P) 1 0
theorem tv_i_t {P : Prop} (h : P) : tv_i P = 1 := if_pos h
theorem tv_i_f {P : Prop} (h : ¬ P) : tv_i P = 0 := if_neg h
theorem tv_i_0 {P : Prop} : tv_i P = 0 ↔ ¬ P := by
  by_cases h : P
  · rw [tv_i_t h]; exact ⟨fun z => absurd z (by decide), fun z => absurd h z⟩
  · rw [tv_i_f h]; exact ⟨fun _ => h, fun _ => rfl⟩
theorem tv_i_c {P Q : Prop} (h : P ↔ Q) : tv_i P = tv_i Q := by rw [propext h]
theorem tv_i_n (P : Prop) : narrow .boolean (.int (tv_i P)) = .int (tv_i P) := by
  by_cases h : P
  · rw [tv_i_t h]; rfl
  · rw [tv_i_f h]; rfl
theorem tv_addI {a b : Int32} (h1 : -2147483648 ≤ a.toInt + b.toInt) (h2 : a.toInt + b.toInt < 2147483648) : (a + b).toInt = a.toInt + b.toInt := by
  rw [Int32.toInt_add]
  exact Int.bmod_eq_of_le (by omega) (by omega)
theorem tv_negI {a : Int32} (h1 : -2147483648 < a.toInt) : (-a).toInt = -a.toInt := by
  have h2 := Int32.toInt_lt a
  rw [Int32.toInt_neg]
  exact Int.bmod_eq_of_le (by omega) (by omega)
theorem tv_subI {a b : Int32} (h1 : -2147483648 ≤ a.toInt - b.toInt) (h2 : a.toInt - b.toInt < 2147483648) : (a - b).toInt = a.toInt - b.toInt := by
  rw [Int32.toInt_sub]
  exact Int.bmod_eq_of_le (by omega) (by omega)
/-- bits of a pattern -/
theorem tv_bit {p i : Nat} (hp : p < 2147483648) (hi : i < 32) : (nI p >>> (nI i &&& 31)) &&& 1 = nI (p / 2 ^ i % 2) := by
  rw [pk_shrN hp _ i (s_l i hi)]
  have h : p / 2 ^ i ≤ p := Nat.div_le_self _ _
  have h2 : p / 2 ^ i < 2 ^ 32 := Nat.lt_of_le_of_lt h (by omega)
  exact pk_andN h2 1 (by decide)
theorem tv_pow {n : Nat} (h : n < 31) : (1 : Int32) <<< (nI n &&& 31) = nI (2 ^ n) := by
  have e : (1 : Int32) = nI 1 := rfl
  have h2 : 2 ^ n < 2 ^ 32 := Nat.pow_lt_pow_right (by decide) (by omega)
  rw [e, pk_shlN _ n (s_l n (by omega)) (by omega), Nat.one_mul]
/-- a clause by its two sets is met by p -/
def tv_xm (h f : Int32) (p : Nat) : Prop := ¬ (h &&& nI p) = 0 ∨ ¬ (f &&& (nI p ^^^ (-1))) = 0
def tv_lb (p j : Nat) : Prop := ¬ p / 2 ^ (j / 2) % 2 = j % 2
def tv_he (j : Nat) : Int32 := if j % 2 = 0 then nI (2 ^ (j / 2)) else 0
def tv_fa (j : Nat) : Int32 := if j % 2 = 1 then nI (2 ^ (j / 2)) else 0
theorem tv_or0 (x y : Int32) : x ||| y = 0 ↔ x = 0 ∧ y = 0 := by
  constructor
  · intro h
    have q : ∀ i, bt x i = false ∧ bt y i = false := by
      intro i
      have e : bt (x ||| y) i = false := by rw [h]; exact b_0 i
      rw [b_or] at e
      exact Bool.or_eq_false_iff.mp e
    exact ⟨b_ext (fun i _ => (q i).1.trans (b_0 i).symm), b_ext (fun i _ => (q i).2.trans (b_0 i).symm)⟩
  · rintro ⟨rfl, rfl⟩; rfl
theorem tv_and_or (x y z : Int32) : (x ||| y) &&& z = (x &&& z) ||| (y &&& z) := by
  apply b_ext
  intro i _
  rw [b_and, b_or, b_or, b_and, b_and]
  cases bt x i <;> cases bt y i <;> cases bt z i <;> rfl
theorem tv_xm_or (h f a b : Int32) (p : Nat) : tv_xm (h ||| a) (f ||| b) p ↔ tv_xm h f p ∨ tv_xm a b p := by
  unfold tv_xm
  rw [tv_and_or, tv_and_or, tv_or0, tv_or0]
  have key : ∀ P1 P2 P3 P4 : Prop, (¬ (P1 ∧ P2) ∨ ¬ (P3 ∧ P4)) ↔ ((¬ P1 ∨ ¬ P3) ∨ (¬ P2 ∨ ¬ P4)) := by
    intro P1 P2 P3 P4
    by_cases h1 : P1 <;> by_cases h2 : P2 <;> by_cases h3 : P3 <;> by_cases h4 : P4 <;> simp [h1, h2, h3, h4]
  exact key _ _ _ _
theorem tv_xm_0 (p : Nat) : ¬ tv_xm 0 0 p := by
  have z : ∀ x : Int32, (0 : Int32) &&& x = 0 := by
    intro x; apply b_ext; intro i _; rw [b_and, b_0]; rfl
  intro h
  rcases h with h | h
  · exact h (z _)
  · exact h (z _)
theorem tv_xm_lit {j p : Nat} (hj : j < 16) (hp : p < 256) : tv_xm (tv_he j) (tv_fa j) p ↔ tv_lb p j :=
  (by decide +kernel : ∀ j, j < 16 → ∀ p, p < 256 → ((¬ ((if j % 2 = 0 then nI (2 ^ (j / 2)) else 0) &&& nI p) = 0 ∨ ¬ ((if j % 2 = 1 then nI (2 ^ (j / 2)) else 0) &&& (nI p ^^^ (-1))) = 0) ↔ ¬ p / 2 ^ (j / 2) % 2 = j % 2)) j hj p hp
def tv_ym (lits : Nat → Int32) (base size p : Nat) : Prop := ∃ i, i < size ∧ tv_lb p (lits (base + i)).toNatClampNeg
def tv_li (lits : Nat → Int32) (base size : Nat) : Prop := ∀ i, i < size → ∃ j : Nat, j < 16 ∧ lits (base + i) = nI j
def tv_cl (h f : Int32) (lits : Nat → Int32) (base size : Nat) : Prop := tv_li lits base size ∧ ∀ p, p < 256 → (tv_xm h f p ↔ tv_ym lits base size p)
theorem tv_cl_congr {h f : Int32} {l l' : Nat → Int32} {b b' s : Nat} (e : ∀ i, i < s → l' (b' + i) = l (b + i)) (c : tv_cl h f l b s) : tv_cl h f l' b' s := by
  refine ⟨fun i hi => ?_, fun p hp => ?_⟩
  · rw [e i hi]; exact c.1 i hi
  · rw [c.2 p hp]
    constructor
    · rintro ⟨i, hi, q⟩; exact ⟨i, hi, by rw [e i hi]; exact q⟩
    · rintro ⟨i, hi, q⟩; exact ⟨i, hi, by rw [e i hi] at q; exact q⟩
theorem tv_cl_0 (l : Nat → Int32) (b : Nat) : tv_cl 0 0 l b 0 := by
  refine ⟨fun i hi => absurd hi (by omega), fun p _ => ⟨fun h => absurd h (tv_xm_0 p), ?_⟩⟩
  rintro ⟨i, hi, _⟩; omega
theorem tv_cl_add {h f : Int32} {l : Nat → Int32} {b s j : Nat} (c : tv_cl h f l b s) (hj : j < 16) : tv_cl (h ||| tv_he j) (f ||| tv_fa j) (upd l (b + s) (nI j)) b (s + 1) := by
  have e : ∀ i, i < s → upd l (b + s) (nI j) (b + i) = l (b + i) := fun i hi => pk_un (by omega)
  have e2 : upd l (b + s) (nI j) (b + s) = nI j := pk_us
  refine ⟨fun i hi => ?_, fun p hp => ?_⟩
  · by_cases q : i = s
    · subst q; exact ⟨j, hj, e2⟩
    · rw [e i (by omega)]; exact c.1 i (by omega)
  · rw [tv_xm_or, c.2 p hp, tv_xm_lit hj hp]
    constructor
    · rintro (⟨i, hi, q⟩ | q)
      · exact ⟨i, by omega, by rw [e i hi]; exact q⟩
      · exact ⟨s, by omega, by rw [e2, nI_clamp (by omega)]; exact q⟩
    · rintro ⟨i, hi, q⟩
      by_cases z : i = s
      · subst z; rw [e2, nI_clamp (by omega)] at q; exact Or.inr q
      · rw [e i (by omega)] at q; exact Or.inl ⟨i, by omega, q⟩
theorem tv_or_0 (x : Int32) : 0 ||| x = x := by
  apply b_ext; intro i _; rw [b_or, b_0]; rfl
theorem tv_cl_1 {l : Nat → Int32} {b j : Nat} (hj : j < 16) : tv_cl (tv_he j) (tv_fa j) (upd l b (nI j)) b 1 := by
  have := tv_cl_add (tv_cl_0 l b) hj
  rw [tv_or_0, tv_or_0] at this
  exact this
/-- the good patterns: real, and met by every clause but one -/
def tv_G (F : Nat → Prop) (M : Nat → Nat → Prop) (c : Nat) (but : Int32) (p : Nat) : Prop := F p ∧ ∀ k, k < c → ¬ nI k = but → M k p
