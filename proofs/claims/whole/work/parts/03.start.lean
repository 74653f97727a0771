def tv_ti (A : tv_M) (t u : Nat) (v : Int) : tv_M := fun i j => if i = t ∧ j = u ∧ v < A i j then v else A i j
def tv_tl (A : tv_M) : List (Nat × Nat × Int) → tv_M
  | [] => A
  | c :: l => tv_tl (tv_ti A c.1 c.2.1 c.2.2) l
theorem tv_tl_app (l1 l2 : List (Nat × Nat × Int)) : ∀ A : tv_M, tv_tl A (l1 ++ l2) = tv_tl (tv_tl A l1) l2 := by
  induction l1 with
  | nil => intro A; rfl
  | cons c l ih => intro A; exact ih _
def tv_best (i j : Nat) : Int → List (Nat × Nat × Int) → Int
  | b, [] => b
  | b, c :: l => tv_best i j (if i = c.1 ∧ j = c.2.1 ∧ c.2.2 < b then c.2.2 else b) l
theorem tv_tl_best (i j : Nat) (l : List (Nat × Nat × Int)) : ∀ A : tv_M, tv_tl A l i j = tv_best i j (A i j) l := by
  induction l with
  | nil => intro A; rfl
  | cons c l ih => intro A; exact ih _
def tv_min (a b : Int) : Int := if b < a then b else a
theorem tv_best_min (i j : Nat) (l : List (Nat × Nat × Int)) : ∀ a b : Int, tv_best i j (tv_min a b) l = tv_min a (tv_best i j b l) := by
  induction l with
  | nil => intro a b; rfl
  | cons c l ih =>
    intro a b
    show tv_best i j (if i = c.1 ∧ j = c.2.1 ∧ c.2.2 < tv_min a b then c.2.2 else tv_min a b) l = tv_min a (tv_best i j (if i = c.1 ∧ j = c.2.1 ∧ c.2.2 < b then c.2.2 else b) l)
    rw [← ih]
    refine congrArg (fun z => tv_best i j z l) ?_
    by_cases h : i = c.1 ∧ j = c.2.1
    · have e1 : ∀ q : Prop, (i = c.1 ∧ j = c.2.1 ∧ q) ↔ q := fun q => ⟨fun z => z.2.2, fun z => ⟨h.1, h.2, z⟩⟩
      simp only [e1]
      unfold tv_min
      by_cases d1 : b < a <;> by_cases d2 : c.2.2 < b <;> by_cases d3 : c.2.2 < a <;> simp only [d1, d2, d3, if_true, if_false] <;> omega
    · have h1 : ∀ q : Prop, ¬ (i = c.1 ∧ j = c.2.1 ∧ q) := fun q z => h ⟨z.1, z.2.1⟩
      rw [if_neg (h1 _), if_neg (h1 _)]
theorem tv_tl_T {A : tv_M} {i j : Nat} (l : List (Nat × Nat × Int)) (h : A i j ≤ 1000000000) : tv_tl A l i j = tv_min (A i j) (tv_best i j 1000000000 l) := by
  rw [tv_tl_best, ← tv_best_min]
  refine congrArg (fun z => tv_best i j z l) ?_
  unfold tv_min; split <;> omega
/-- atoms: L, R terms, O offsets, pattern p, top T -/
def tv_at (T : Int) (L R : Nat → Nat) (O : Nat → Int) (p : Nat) : Nat → tv_M
  | 0 => fun i j => if i = j then 0 else T
  | m + 1 => if p / 2 ^ m % 2 = 1 then tv_ti (tv_at T L R O p m) (L m) (R m) (O m) else tv_ti (tv_at T L R O p m) (R m) (L m) (-O m - 1)
def tv_cx1 (x y r : Nat) : List (Nat × Nat × Int) :=
  if r = 0 then [(x, y, -1)] else if r = 1 then [(x, y, 0), (y, x, 0), (x + 3, y + 3, 0), (y + 3, x + 3, 0)] else [(y, x, -1)]
def tv_cx (o : Nat) : List (Nat × Nat × Int) := tv_cx1 0 1 (o % 3) ++ (tv_cx1 0 2 (o / 3 % 3) ++ tv_cx1 1 2 (o / 9))
def tv_rk (o x : Nat) : Nat := if x = 0 then o % 3 else if x = 1 then o / 3 % 3 else o / 9
def tv_cy1 (o q : Nat) : List (Nat × Nat × Int) :=
  (if tv_rk o (q / 3) ≤ tv_rk o (q % 3) then [(q / 3, q % 3, if tv_rk o (q / 3) < tv_rk o (q % 3) then (-1 : Int) else 0)] else []) ++
  (if tv_rk o (q / 3) = tv_rk o (q % 3) then [(q / 3 + 3, q % 3 + 3, (0 : Int))] else [])
def tv_cy (o : Nat) : Nat → List (Nat × Nat × Int)
  | 0 => []
  | q + 1 => tv_cy o q ++ tv_cy1 o q
def tv_io (o : Nat) : Bool :=
  ((1 <<< tv_rk o 0) ||| ((1 <<< tv_rk o 1) ||| (1 <<< tv_rk o 2))) == 1 || (((1 <<< tv_rk o 0) ||| ((1 <<< tv_rk o 1) ||| (1 <<< tv_rk o 2))) == 3 || ((1 <<< tv_rk o 0) ||| ((1 <<< tv_rk o 1) ||| (1 <<< tv_rk o 2))) == 7)
def tv_rl (a b : Nat) : Nat := if a < b then 0 else if a = b then 1 else 2
def tv_tau (o : Nat) : Nat := tv_rl (tv_rk o 0) (tv_rk o 1) + 3 * tv_rl (tv_rk o 0) (tv_rk o 2) + 9 * tv_rl (tv_rk o 1) (tv_rk o 2)
theorem tv_T1a : ∀ r, r < 27 → tv_io r = true → tv_tau r < 27 := by decide +kernel
theorem tv_T1b : ∀ r, r < 27 → tv_io r = true → ∀ i, i < 7 → ∀ j, j < 7 → i = j ∨ tv_best i j 1000000000 (tv_cx (tv_tau r)) = tv_best i j 1000000000 (tv_cy r 9) := by decide +kernel
theorem tv_T1c : ∀ r, r < 27 → tv_io r = true → ∀ i, i < 7 → 0 ≤ tv_best i i 1000000000 (tv_cx (tv_tau r)) ∧ 0 ≤ tv_best i i 1000000000 (tv_cy r 9) := by decide +kernel
theorem tv_T2 : ∀ o, o < 27 → (∃ r, r < 27 ∧ tv_io r = true ∧ tv_tau r = o) ∨
    (tv_best 0 1 1000000000 (tv_cx o) ≤ 0 ∧ tv_best 1 2 1000000000 (tv_cx o) ≤ 0 ∧ tv_best 2 0 1000000000 (tv_cx o) ≤ 0 ∧ tv_best 0 1 1000000000 (tv_cx o) + tv_best 1 2 1000000000 (tv_cx o) + tv_best 2 0 1000000000 (tv_cx o) < 0) ∨
    (tv_best 0 2 1000000000 (tv_cx o) ≤ 0 ∧ tv_best 2 1 1000000000 (tv_cx o) ≤ 0 ∧ tv_best 1 0 1000000000 (tv_cx o) ≤ 0 ∧ tv_best 0 2 1000000000 (tv_cx o) + tv_best 2 1 1000000000 (tv_cx o) + tv_best 1 0 1000000000 (tv_cx o) < 0) := by
  have e : ∀ o, o < 27 → ((List.range 27).any (fun r => tv_io r && tv_tau r == o) = true) ∨
    (tv_best 0 1 1000000000 (tv_cx o) ≤ 0 ∧ tv_best 1 2 1000000000 (tv_cx o) ≤ 0 ∧ tv_best 2 0 1000000000 (tv_cx o) ≤ 0 ∧ tv_best 0 1 1000000000 (tv_cx o) + tv_best 1 2 1000000000 (tv_cx o) + tv_best 2 0 1000000000 (tv_cx o) < 0) ∨
    (tv_best 0 2 1000000000 (tv_cx o) ≤ 0 ∧ tv_best 2 1 1000000000 (tv_cx o) ≤ 0 ∧ tv_best 1 0 1000000000 (tv_cx o) ≤ 0 ∧ tv_best 0 2 1000000000 (tv_cx o) + tv_best 2 1 1000000000 (tv_cx o) + tv_best 1 0 1000000000 (tv_cx o) < 0) := by decide +kernel
  intro o ho
  rcases e o ho with h | h
  · left
    rw [List.any_eq_true] at h
    obtain ⟨r, hr, h⟩ := h
    rw [Bool.and_eq_true] at h
    exact ⟨r, List.mem_range.mp hr, h.1, eq_of_beq h.2⟩
  · exact Or.inr h
/-- lists of small constraints -/
def tv_sm (l : List (Nat × Nat × Int)) : Prop := ∀ c, c ∈ l → -21 ≤ c.2.2 ∧ c.2.2 ≤ 21
theorem tv_smX : ∀ o, o < 27 → tv_sm (tv_cx o) := by
  have h : ∀ o, o < 27 → ((tv_cx o).all (fun c => decide (-21 ≤ c.2.2 ∧ c.2.2 ≤ 21)) = true) := by decide +kernel
  intro o ho c hc
  exact of_decide_eq_true (List.all_eq_true.mp (h o ho) c hc)
theorem tv_smY : ∀ o, o < 27 → tv_sm (tv_cy o 9) := by
  have h : ∀ o, o < 27 → ((tv_cy o 9).all (fun c => decide (-21 ≤ c.2.2 ∧ c.2.2 ≤ 21)) = true) := by decide +kernel
  intro o ho c hc
  exact of_decide_eq_true (List.all_eq_true.mp (h o ho) c hc)
theorem tv_ti_B {A : tv_M} {t u : Nat} {v : Int} (h : tv_B 21 A) (hv : -21 ≤ v ∧ v ≤ 21) : tv_B 21 (tv_ti A t u v) := by
  intro i j hi hj
  unfold tv_ti
  split
  · exact Or.inr hv
  · exact h i j hi hj
theorem tv_tl_B (l : List (Nat × Nat × Int)) : ∀ A : tv_M, tv_sm l → tv_B 21 A → tv_B 21 (tv_tl A l) := by
  induction l with
  | nil => intro A _ h; exact h
  | cons c l ih =>
    intro A hs h
    exact ih _ (fun d hd => hs d (List.mem_cons_of_mem _ hd)) (tv_ti_B h (hs c (List.mem_cons_self ..)))
theorem tv_ti_E {A B : tv_M} {t u : Nat} {v : Int} (h : tv_EM 21 A B) (hv : -21 ≤ v ∧ v ≤ 21) : tv_EM 21 (tv_ti A t u v) (tv_ti B t u v) := by
  intro i j hi hj
  have h1 := h i j hi hj
  unfold tv_ti
  unfold tv_E at *
  by_cases e : i = t ∧ j = u
  · have e1 : ∀ q : Prop, (i = t ∧ j = u ∧ q) ↔ q := fun q => ⟨fun z => z.2.2, fun z => ⟨e.1, e.2, z⟩⟩
    simp only [e1]
    by_cases d1 : v < A i j
    · rw [if_pos d1]
      by_cases d2 : v < B i j
      · rw [if_pos d2]; exact Or.inr ⟨rfl, hv.1, hv.2⟩
      · exfalso; omega
    · rw [if_neg d1]
      by_cases d2 : v < B i j
      · exfalso; omega
      · rw [if_neg d2]; exact h1
  · have h1' : ∀ q : Prop, ¬ (i = t ∧ j = u ∧ q) := fun q z => e ⟨z.1, z.2.1⟩
    rw [if_neg (h1' _), if_neg (h1' _)]; exact h1
theorem tv_tl_E (l : List (Nat × Nat × Int)) : ∀ A B : tv_M, tv_sm l → tv_EM 21 A B → tv_EM 21 (tv_tl A l) (tv_tl B l) := by
  induction l with
  | nil => intro A B _ h; exact h
  | cons c l ih =>
    intro A B hs h
    exact ih _ _ (fun d hd => hs d (List.mem_cons_of_mem _ hd)) (tv_ti_E h (hs c (List.mem_cons_self ..)))
/-- atoms as they are stored: terms 0 .. 6 that differ, offsets -20 .. 20 -/
def tv_va (L R : Nat → Nat) (O : Nat → Int) (n : Nat) : Prop := ∀ i, i < n → L i < 7 ∧ R i < 7 ∧ L i ≠ R i ∧ -20 ≤ O i ∧ O i ≤ 20
theorem tv_at_B {L R : Nat → Nat} {O : Nat → Int} {p n : Nat} (h : tv_va L R O n) : ∀ m, m ≤ n → tv_B 21 (tv_at 1000000000 L R O p m) := by
  intro m
  induction m with
  | zero =>
    intro _ i j _ _
    show (if i = j then (0 : Int) else 1000000000) = tv_T ∨ _
    by_cases e : i = j
    · right; show -21 ≤ (if i = j then (0 : Int) else 1000000000) ∧ (if i = j then (0 : Int) else 1000000000) ≤ 21
      rw [if_pos e]; decide
    · left; rw [if_neg e]; rfl
  | succ m ih =>
    intro hm
    have hv := h m (by omega)
    show tv_B 21 (if p / 2 ^ m % 2 = 1 then _ else _)
    split
    · exact tv_ti_B (ih (by omega)) (by omega)
    · exact tv_ti_B (ih (by omega)) (by omega)
theorem tv_at_E {L R : Nat → Nat} {O : Nat → Int} {p n : Nat} (h : tv_va L R O n) : ∀ m, m ≤ n → tv_EM 21 (tv_at 1000000000 L R O p m) (tv_at 1000000 L R O p m) := by
  intro m
  induction m with
  | zero =>
    intro _ i j _ _
    show tv_E 21 (if i = j then (0 : Int) else 1000000000) (if i = j then (0 : Int) else 1000000)
    unfold tv_E
    by_cases e : i = j
    · rw [if_pos e, if_pos e]; omega
    · rw [if_neg e, if_neg e]; omega
  | succ m ih =>
    intro hm
    have hv := h m (by omega)
    show tv_EM 21 (if p / 2 ^ m % 2 = 1 then _ else _) (if p / 2 ^ m % 2 = 1 then _ else _)
    split
    · exact tv_ti_E (ih (by omega)) (by omega)
    · exact tv_ti_E (ih (by omega)) (by omega)
theorem tv_at_diag {T : Int} {L R : Nat → Nat} {O : Nat → Int} {p n : Nat} (h : tv_va L R O n) (i : Nat) : ∀ m, m ≤ n → tv_at T L R O p m i i = 0 := by
  intro m
  induction m with
  | zero => intro _; exact if_pos rfl
  | succ m ih =>
    intro hm
    have hv := h m (by omega)
    have e := ih (by omega)
    have q : ∀ t u v, t ≠ u → tv_ti (tv_at T L R O p m) t u v i i = 0 := by
      intro t u v htu
      unfold tv_ti
      rw [if_neg (by omega)]; exact e
    show (if p / 2 ^ m % 2 = 1 then tv_ti (tv_at T L R O p m) (L m) (R m) (O m) else tv_ti (tv_at T L R O p m) (R m) (L m) (-O m - 1)) i i = 0
    split
    · exact q _ _ _ hv.2.2.1
    · exact q _ _ _ (fun z => hv.2.2.1 z.symm)
theorem tv_at_congr {T : Int} {L R L' R' : Nat → Nat} {O O' : Nat → Int} {p p' n : Nat} (h : ∀ i, i < n → L i = L' i ∧ R i = R' i ∧ O i = O' i ∧ p / 2 ^ i % 2 = p' / 2 ^ i % 2) : ∀ m, m ≤ n → tv_at T L R O p m = tv_at T L' R' O' p' m := by
  intro m
  induction m with
  | zero => intro _; rfl
  | succ m ih =>
    intro hm
    obtain ⟨h1, h2, h3, h4⟩ := h m (by omega)
    show (if p / 2 ^ m % 2 = 1 then tv_ti (tv_at T L R O p m) (L m) (R m) (O m) else tv_ti (tv_at T L R O p m) (R m) (L m) (-O m - 1)) = (if p' / 2 ^ m % 2 = 1 then tv_ti (tv_at T L' R' O' p' m) (L' m) (R' m) (O' m) else tv_ti (tv_at T L' R' O' p' m) (R' m) (L' m) (-O' m - 1))
    rw [ih (by omega), h1, h2, h3, h4]
theorem tv_at_le {T : Int} {L R : Nat → Nat} {O : Nat → Int} {p m : Nat} (i j : Nat) : tv_at T L R O p (m + 1) i j ≤ tv_at T L R O p m i j := by
  have q : ∀ t u v, tv_ti (tv_at T L R O p m) t u v i j ≤ tv_at T L R O p m i j := by
    intro t u v
    unfold tv_ti
    split <;> omega
  show (if p / 2 ^ m % 2 = 1 then tv_ti (tv_at T L R O p m) (L m) (R m) (O m) else tv_ti (tv_at T L R O p m) (R m) (L m) (-O m - 1)) i j ≤ _
  split
  · exact q _ _ _
  · exact q _ _ _
theorem tv_tl_le (l : List (Nat × Nat × Int)) (i j : Nat) : ∀ A : tv_M, tv_tl A l i j ≤ A i j := by
  induction l with
  | nil => intro A; exact Int.le_refl _
  | cons c l ih =>
    intro A
    refine Int.le_trans (ih _) ?_
    unfold tv_ti; split <;> omega
def tv_SX (L R : Nat → Nat) (O : Nat → Int) (n p o : Nat) : tv_M := tv_tl (tv_at 1000000000 L R O p n) (tv_cx o)
def tv_SY (T : Int) (L R : Nat → Nat) (O : Nat → Int) (n p r : Nat) : tv_M := tv_tl (tv_at T L R O p n) (tv_cy r 9)
section
variable {L R : Nat → Nat} {O : Nat → Int} {n p : Nat}
theorem tv_SX_B (h : tv_va L R O n) {o : Nat} (ho : o < 27) : tv_B 21 (tv_SX L R O n p o) := tv_tl_B _ _ (tv_smX o ho) (tv_at_B h n (Nat.le_refl n))
theorem tv_SY_B (h : tv_va L R O n) {o : Nat} (ho : o < 27) : tv_B 21 (tv_SY 1000000000 L R O n p o) := tv_tl_B _ _ (tv_smY o ho) (tv_at_B h n (Nat.le_refl n))
theorem tv_SY_E (h : tv_va L R O n) {o : Nat} (ho : o < 27) : tv_EM 21 (tv_SY 1000000000 L R O n p o) (tv_SY 1000000 L R O n p o) := tv_tl_E _ _ _ (tv_smY o ho) (tv_at_E h n (Nat.le_refl n))
theorem tv_SX_d (h : tv_va L R O n) (o i : Nat) : tv_SX L R O n p o i i ≤ 0 := Int.le_trans (tv_tl_le _ i i _) (Int.le_of_eq (tv_at_diag h i n (Nat.le_refl n)))
theorem tv_SY_d (h : tv_va L R O n) (o i : Nat) : tv_SY 1000000000 L R O n p o i i ≤ 0 := Int.le_trans (tv_tl_le _ i i _) (Int.le_of_eq (tv_at_diag h i n (Nat.le_refl n)))
theorem tv_at_top (h : tv_va L R O n) {i j : Nat} (hi : i < 7) (hj : j < 7) : tv_at 1000000000 L R O p n i j ≤ 1000000000 := by
  rcases tv_at_B (p := p) h n (Nat.le_refl n) i j hi hj with e | e
  · rw [e]; exact Int.le_refl _
  · omega
theorem tv_S_eq (h : tv_va L R O n) {r : Nat} (hr : r < 27) (hi : tv_io r = true) : ∀ i j, i < 7 → j < 7 → tv_SX L R O n p (tv_tau r) i j = tv_SY 1000000000 L R O n p r i j := by
  intro i j h1 h2
  unfold tv_SX tv_SY
  rw [tv_tl_T _ (tv_at_top h h1 h2), tv_tl_T _ (tv_at_top h h1 h2)]
  by_cases e : i = j
  · subst e
    have t2 := tv_T1c r hr hi i h1
    rw [tv_at_diag h i n (Nat.le_refl n)]
    unfold tv_min
    rw [if_neg (by omega), if_neg (by omega)]
  · rw [(tv_T1b r hr hi i h1 j h2).resolve_left e]
theorem tv_S_bad (h : tv_va L R O n) {o : Nat} (ho : o < 27) (hn : ¬ ∃ r, r < 27 ∧ tv_io r = true ∧ tv_tau r = o) : ¬ tv_Good (tv_SX L R O n p o) := by
  have le : ∀ i j, i < 7 → j < 7 → tv_SX L R O n p o i j ≤ tv_best i j 1000000000 (tv_cx o) := by
    intro i j hi hj
    unfold tv_SX
    rw [tv_tl_T _ (tv_at_top h hi hj)]
    unfold tv_min; split <;> omega
  have hT : tv_T = 1000000000 := rfl
  rcases tv_T2 o ho with t | ⟨t1, t2, t3, t4⟩ | ⟨t1, t2, t3, t4⟩
  · exact absurd t hn
  · have a1 := le 0 1 (by omega) (by omega)
    have a2 := le 1 2 (by omega) (by omega)
    have a3 := le 2 0 (by omega) (by omega)
    exact tv_tri (tv_SX_B h ho) (x := 0) (y := 1) (z := 2) (by omega) (by omega) (by omega) (by omega) (by omega) (by omega) (by omega)
  · have a1 := le 0 2 (by omega) (by omega)
    have a2 := le 2 1 (by omega) (by omega)
    have a3 := le 1 0 (by omega) (by omega)
    exact tv_tri (tv_SX_B h ho) (x := 0) (y := 2) (z := 1) (by omega) (by omega) (by omega) (by omega) (by omega) (by omega) (by omega)
theorem tv_toY (h : tv_va L R O n) {o : Nat} (ho : o < 27) (g : tv_Good (tv_SX L R O n p o)) : ∃ r, r < 27 ∧ tv_io r = true ∧ tv_Good (tv_SY 1000000000 L R O n p r) ∧ ∀ i j, i < 7 → j < 7 → tv_fw (tv_SX L R O n p o) 7 i j = tv_fw (tv_SY 1000000000 L R O n p r) 7 i j := by
  by_cases hn : ∃ r, r < 27 ∧ tv_io r = true ∧ tv_tau r = o
  · obtain ⟨r, hr, hi, e⟩ := hn
    have q := tv_S_eq (p := p) h hr hi
    rw [e] at q
    exact ⟨r, hr, hi, tv_Good_congr q g, tv_fw_congr q (Nat.le_refl 7)⟩
  · exact absurd g (tv_S_bad h ho hn)
theorem tv_toX (h : tv_va L R O n) {r : Nat} (hr : r < 27) (hi : tv_io r = true) (g : tv_Good (tv_SY 1000000000 L R O n p r)) : ∃ o, o < 27 ∧ tv_Good (tv_SX L R O n p o) ∧ ∀ i j, i < 7 → j < 7 → tv_fw (tv_SX L R O n p o) 7 i j = tv_fw (tv_SY 1000000000 L R O n p r) 7 i j := by
  have q := tv_S_eq (p := p) h hr hi
  exact ⟨tv_tau r, tv_T1a r hr hi, tv_Good_congr (fun i j hi hj => (q i j hi hj).symm) g, tv_fw_congr q (Nat.le_refl 7)⟩
end
/-- some meaning has pattern p over the first n atoms -/
def tv_Fe (L R : Nat → Nat) (O : Nat → Int) (n p : Nat) : Prop := ∃ o, o < 27 ∧ tv_Good (tv_SX L R O n p o)
theorem tv_Fe_Y {L R : Nat → Nat} {O : Nat → Int} {n p : Nat} (h : tv_va L R O n) : tv_Fe L R O n p ↔ ∃ r, r < 27 ∧ tv_io r = true ∧ tv_Good (tv_SY 1000000000 L R O n p r) := by
  constructor
  · intro ⟨o, ho, g⟩
    obtain ⟨r, hr, hi, g', _⟩ := tv_toY h ho g
    exact ⟨r, hr, hi, g'⟩
  · intro ⟨r, hr, hi, g⟩
    obtain ⟨o, ho, g', _⟩ := tv_toX h hr hi g
    exact ⟨o, ho, g'⟩
theorem tv_Fe_congr {L R L' R' : Nat → Nat} {O O' : Nat → Int} {p p' n : Nat} (h : ∀ i, i < n → L i = L' i ∧ R i = R' i ∧ O i = O' i ∧ p / 2 ^ i % 2 = p' / 2 ^ i % 2) : tv_Fe L R O n p ↔ tv_Fe L' R' O' n p' := by
  unfold tv_Fe tv_SX
  rw [tv_at_congr (T := 1000000000) h n (Nat.le_refl n)]
theorem tv_tl_mono (l : List (Nat × Nat × Int)) : ∀ A B : tv_M, (∀ i j, A i j ≤ B i j) → ∀ i j, tv_tl A l i j ≤ tv_tl B l i j := by
  induction l with
  | nil => intro A B h; exact h
  | cons c l ih =>
    intro A B h
    refine ih _ _ ?_
    intro i j
    have := h i j
    unfold tv_ti
    by_cases d1 : i = c.1 ∧ j = c.2.1 ∧ c.2.2 < A i j
    · rw [if_pos d1, if_pos ⟨d1.1, d1.2.1, by omega⟩]; exact Int.le_refl _
    · rw [if_neg d1]
      by_cases d2 : i = c.1 ∧ j = c.2.1 ∧ c.2.2 < B i j
      · rw [if_pos d2]
        have : ¬ c.2.2 < A i j := fun z => d1 ⟨d2.1, d2.2.1, z⟩
        omega
      · rw [if_neg d2]; exact this
theorem tv_Fe_step {L R : Nat → Nat} {O : Nat → Int} {n p : Nat} (h : tv_Fe L R O (n + 1) p) : tv_Fe L R O n p := by
  obtain ⟨o, ho, g⟩ := h
  exact ⟨o, ho, tv_Good_mono (fun i j _ _ => tv_tl_mono _ _ _ (fun i j => tv_at_le i j) i j) g⟩
theorem tv_bits : ∀ n, n < 8 → ∀ m, m < n → ∀ p, p < 2 ^ n → (p + 2 ^ n) / 2 ^ m % 2 = p / 2 ^ m % 2 := by decide +kernel
theorem tv_Fe_half {L R : Nat → Nat} {O : Nat → Int} {n p : Nat} (hn : n < 8) (hp : p < 2 ^ n) (h : tv_Fe L R O (n + 1) (p + 2 ^ n)) : tv_Fe L R O n p :=
  (tv_Fe_congr (fun i hi => ⟨rfl, rfl, rfl, tv_bits n hn i hi p hp⟩)).mp (tv_Fe_step h)
theorem tv_Fe_0 (L R : Nat → Nat) (O : Nat → Int) : tv_Fe L R O 0 0 := by
  refine ⟨13, by omega, tv_pot_Good (fun _ => 0) ?_⟩
  intro i j hi hj
  show (0 : Int) - 0 ≤ tv_SX L R O 0 0 13 i j
  have e : ∀ i, i < 7 → ∀ j, j < 7 → (0 : Int) ≤ tv_best i j (if i = j then 0 else 1000000000) (tv_cx 13) := by decide +kernel
  unfold tv_SX
  rw [tv_tl_best]
  have := e i hi j hj
  show (0 : Int) - 0 ≤ tv_best i j (if i = j then 0 else 1000000000) (tv_cx 13)
  omega
