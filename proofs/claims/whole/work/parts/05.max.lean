/-- g is the greatest of the values P, or d if there is none -/
def tv_mx (P : Int → Prop) (d g : Int) : Prop := (g = d ∧ ∀ v, ¬ P v) ∨ (P g ∧ ∀ v, P v → v ≤ g)
theorem tv_mx_un {P Q P' : Int → Prop} {d g g' : Int} (hP : ∀ v, P v → d < v) (hQ : ∀ v, Q v → d < v) (h : tv_mx P d g) (h' : tv_mx Q d g') (e : ∀ v, P' v ↔ P v ∨ Q v) : (g < g' → tv_mx P' d g') ∧ (¬ g < g' → tv_mx P' d g) := by
  rcases h with ⟨h1, h2⟩ | ⟨h1, h2⟩ <;> rcases h' with ⟨k1, k2⟩ | ⟨k1, k2⟩
  · refine ⟨fun z => by omega, fun _ => Or.inl ⟨h1, fun v hv => ?_⟩⟩
    rcases (e v).mp hv with q | q
    · exact h2 v q
    · exact k2 v q
  · have := hQ _ k1
    refine ⟨fun _ => Or.inr ⟨(e _).mpr (Or.inr k1), fun v hv => ?_⟩, fun z => by omega⟩
    rcases (e v).mp hv with q | q
    · exact absurd q (h2 v)
    · exact k2 v q
  · have := hP _ h1
    refine ⟨fun z => by omega, fun _ => Or.inr ⟨(e _).mpr (Or.inl h1), fun v hv => ?_⟩⟩
    rcases (e v).mp hv with q | q
    · exact h2 v q
    · exact absurd q (k2 v)
  · refine ⟨fun z => Or.inr ⟨(e _).mpr (Or.inr k1), fun v hv => ?_⟩, fun z => Or.inr ⟨(e _).mpr (Or.inl h1), fun v hv => ?_⟩⟩
    · rcases (e v).mp hv with q | q
      · have := h2 v q; omega
      · exact k2 v q
    · rcases (e v).mp hv with q | q
      · exact h2 v q
      · have := k2 v q; omega
theorem tv_mx_1 (v d : Int) : tv_mx (fun w => w = v) d v := Or.inr ⟨rfl, fun w hw => by omega⟩
theorem tv_mx_c {P P' : Int → Prop} {d g : Int} (h : tv_mx P d g) (e : ∀ v, P' v ↔ P v) : tv_mx P' d g := by
  rcases h with ⟨h1, h2⟩ | ⟨h1, h2⟩
  · exact Or.inl ⟨h1, fun v hv => h2 v ((e v).mp hv)⟩
  · exact Or.inr ⟨(e g).mpr h1, fun v hv => h2 v ((e v).mp hv)⟩
theorem tv_mx_0 (d : Int) {P : Int → Prop} (h : ∀ v, ¬ P v) : tv_mx P d d := Or.inl ⟨rfl, h⟩
/-- what least answers -/
theorem tv_mx_XY {P Q : Int → Prop} {g g' : Int} (h : tv_mx P (-1000000000) g) (h' : tv_mx Q (-3000) g') (e1 : ∀ v, P v → ∃ w, Q w ∧ tv_E 2688 v w) (e2 : ∀ w, Q w → ∃ v, P v ∧ tv_E 2688 v w) :
    (g = -1000000000 ∧ g' = -3000) ∨ (g = 1000000000 ∧ 500000 < g' ∧ g' ≤ 1000000) ∨ (g = g' ∧ -2688 ≤ g ∧ g ≤ 2688) := by
  rcases h with ⟨h1, h2⟩ | ⟨h1, h2⟩
  · rcases h' with ⟨k1, k2⟩ | ⟨k1, k2⟩
    · exact Or.inl ⟨h1, k1⟩
    · obtain ⟨v, hv, _⟩ := e2 _ k1
      exact absurd hv (h2 v)
  · rcases h' with ⟨k1, k2⟩ | ⟨k1, k2⟩
    · obtain ⟨v, hv, _⟩ := e1 _ h1
      exact absurd hv (k2 v)
    · obtain ⟨w, hw, ew⟩ := e1 _ h1
      obtain ⟨v, hv, ev⟩ := e2 _ k1
      have a1 := h2 v hv
      have a2 := k2 w hw
      unfold tv_E at ew ev
      omega
/-- differing: the class asks for a positive bound, the reference for one that is not 0 -/
theorem tv_diff {S D' : tv_M} {t u : Nat} (ht : t < 7) (hu : u < 7) (hB : tv_B 21 S) (hG : tv_Good S) (hE : tv_EM 2688 (tv_fw S 7) D') : (¬ D' t u = 0 ∨ ¬ D' u t = 0) ↔ (0 < tv_fw S 7 t u ∨ 0 < tv_fw S 7 u t) := by
  have a := hE t u ht hu
  have b := hE u t hu ht
  have hT : tv_T = 1000000000 := rfl
  have B7 := tv_fw_B hB (Nat.le_refl 7)
  have hb := tv_bd_le (Nat.le_refl 7)
  have f1 := B7 t u ht hu
  have f2 := B7 u t hu ht
  unfold tv_E at a b
  constructor
  · intro h
    by_cases l1 : tv_fw S 7 t u < tv_T
    · by_cases l2 : tv_fw S 7 u t < tv_T
      · have := tv_pair hB hG ht hu l1 l2
        omega
      · right; omega
    · left; omega
  · intro h; omega
/-- stored atoms -/
abbrev tv_L (a : Nat → Int32) : Nat → Nat := fun i => (a i).toNatClampNeg
abbrev tv_O (a : Nat → Int32) : Nat → Int := fun i => (a i).toInt
def tv_av (aL aR aO : Nat → Int32) (n : Nat) : Prop := ∀ i, i < n → ∃ a b : Nat, a < 7 ∧ b < 7 ∧ a ≠ b ∧ aL i = nI a ∧ aR i = nI b ∧ -20 ≤ (aO i).toInt ∧ (aO i).toInt ≤ 20
theorem tv_av_va {aL aR aO : Nat → Int32} {n : Nat} (h : tv_av aL aR aO n) : tv_va (tv_L aL) (tv_L aR) (tv_O aO) n := by
  intro i hi
  obtain ⟨a, b, ha, hb, hab, e1, e2, h3, h4⟩ := h i hi
  show (aL i).toNatClampNeg < 7 ∧ (aR i).toNatClampNeg < 7 ∧ (aL i).toNatClampNeg ≠ (aR i).toNatClampNeg ∧ -20 ≤ (aO i).toInt ∧ (aO i).toInt ≤ 20
  rw [e1, e2, nI_clamp (by omega), nI_clamp (by omega)]
  exact ⟨ha, hb, hab, h3, h4⟩
theorem tv_av_le {aL aR aO : Nat → Int32} {n m : Nat} (h : tv_av aL aR aO n) (hm : m ≤ n) : tv_av aL aR aO m := fun i hi => h i (by omega)
/-- levels: saved counts -/
def tv_lv (lA lC : Nat → Int32) : Nat → Nat → Nat → Prop
  | 0, _, _ => True
  | l + 1, n, c => ∃ a b : Nat, a ≤ n ∧ b ≤ c ∧ lA l = nI a ∧ lC l = nI b ∧ tv_lv lA lC l a b
theorem tv_lv_up {lA lC : Nat → Int32} {l n c n' c' : Nat} (h : tv_lv lA lC l n c) (hn : n ≤ n') (hc : c ≤ c') : tv_lv lA lC l n' c' := by
  cases l with
  | zero => trivial
  | succ l =>
    obtain ⟨a, b, ha, hb, q⟩ := h
    exact ⟨a, b, by omega, by omega, q⟩
theorem tv_lv_congr {lA lC lA' lC' : Nat → Int32} : ∀ {l n c : Nat}, (∀ i, i < l → lA' i = lA i ∧ lC' i = lC i) → tv_lv lA lC l n c → tv_lv lA' lC' l n c := by
  intro l
  induction l with
  | zero => intro n c _ _; trivial
  | succ l ih =>
    intro n c e h
    obtain ⟨a, b, ha, hb, e1, e2, q⟩ := h
    exact ⟨a, b, ha, hb, (e l (by omega)).1.trans e1, (e l (by omega)).2.trans e2, ih (fun i hi => e i (by omega)) q⟩
theorem tv_lv_push {lA lC : Nat → Int32} {l n c : Nat} (h : tv_lv lA lC l n c) : tv_lv (upd lA l (nI n)) (upd lC l (nI c)) (l + 1) n c :=
  ⟨n, c, Nat.le_refl n, Nat.le_refl c, pk_us, pk_us, tv_lv_congr (fun i hi => ⟨pk_un (by omega), pk_un (by omega)⟩) h⟩
/-- the class's table of real patterns -/
def tv_rp (aL aR aO rl : Nat → Int32) (n : Nat) : Prop := ∀ m, m ≤ n → ∀ p, p < 2 ^ m → rl (2 ^ m + p) = tv_i (tv_Fe (tv_L aL) (tv_L aR) (tv_O aO) m p)
/-- the real patterns over n atoms -/
def tv_F (aL aR aO : Nat → Int32) (n p : Nat) : Prop := p < 2 ^ n ∧ tv_Fe (tv_L aL) (tv_L aR) (tv_O aO) n p
def tv_kn (aL aR aO fe : Nat → Int32) (kn : Int32) (n : Nat) : Prop := ¬ kn = 0 → ∀ p, p < 256 → fe p = tv_i (tv_F aL aR aO n p)
def tv_cs (cH cF li sz : Nat → Int32) (c : Nat) : Prop := ∀ k, k < c → ∃ s : Nat, s ≤ 4 ∧ sz k = nI s ∧ tv_cl (cH k) (cF k) li (4 * k) s
