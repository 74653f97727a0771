theorem tv_tm (x : Int32) {n : Nat} (hn : n < 2 ^ 31) : (x < 0 ∨ nI n ≤ x) ∨ ∃ j : Nat, j < n ∧ x = nI j := by
  rcases pk_ix x hn with h | h | h
  · exact Or.inl (Or.inl h)
  · exact Or.inl (Or.inr h)
  · exact Or.inr h
theorem tx_held {post : Int32 → Prop} {j : Nat} (hj : j < 16) (K : post (tv_he j)) : wpX_heldAtom post (nI j) := by
  unfold wpX_heldAtom
  rw [tv_a1 (show j < 2 ^ 31 by omega), tv_s1 (show j < 2 ^ 31 by omega), tv_pow (show j / 2 < 31 by omega)]
  unfold tv_he at K
  by_cases c : j % 2 = 0
  · rw [if_pos c] at K; exact br_t (by rw [c]; rfl) K
  · rw [if_neg c] at K; exact br_f (by rw [show j % 2 = 1 by omega]; decide) K
theorem tx_fail {post : Int32 → Prop} {j : Nat} (hj : j < 16) (K : post (tv_fa j)) : wpX_failedAtom post (nI j) := by
  unfold wpX_failedAtom
  rw [tv_a1 (show j < 2 ^ 31 by omega), tv_s1 (show j < 2 ^ 31 by omega), tv_pow (show j / 2 < 31 by omega)]
  unfold tv_fa at K
  by_cases c : j % 2 = 1
  · rw [if_pos c] at K; exact br_t (by rw [c]; rfl) K
  · rw [if_neg c] at K; exact br_f (by rw [show j % 2 = 0 by omega]; decide) K
theorem tx_term0 {post : Int32 → Prop} {x : Int32} (h : x < 0 ∨ nI 7 ≤ x) (K : post 0) : wpX_isTerm post x := by
  unfold wpX_isTerm
  by_cases c : x < 0
  · exact br_t c K
  · exact br_f c (br_t (h.resolve_left c) K)
theorem tx_term1 {post : Int32 → Prop} {j : Nat} (h : j < 7) (K : post 1) : wpX_isTerm post (nI j) := by
  unfold wpX_isTerm
  exact br_f (nI_pos (by omega)) (br_f (nI_ge (b := 7) h (by decide)) K)
section
variable {fa fc fh ff fd fl : Int32} {aL aR aO cH cF lA lC rl bd : Nat → Int32}
theorem tx_lit0 {post : Int32 → Prop} {n : Nat} {x : Int32} (h : x < 0 ∨ nI (2 * n) ≤ x) (K : post 0) : wpX_isLiteral post (nI n, fc, fh, ff, fd, fl, aL, aR, aO, cH, cF, lA, lC, rl, bd) x := by
  unfold wpX_isLiteral
  dsimp only
  rw [tv_2]
  by_cases c : x < 0
  · exact br_t c K
  · exact br_f c (br_t (h.resolve_left c) K)
theorem tx_lit1 {post : Int32 → Prop} {n j : Nat} (hn : n ≤ 8) (h : j < 2 * n) (K : post 1) : wpX_isLiteral post (nI n, fc, fh, ff, fd, fl, aL, aR, aO, cH, cF, lA, lC, rl, bd) (nI j) := by
  unfold wpX_isLiteral
  dsimp only
  rw [tv_2]
  exact br_f (nI_pos (by omega)) (br_f (nI_ge h (by omega)) K)
end
section
variable {fa fc fl kn : Int32} {aL aR aO li sz lA lC fe mo : Nat → Int32}
theorem ty_term0 {post : Int32 → Prop} {x : Int32} (h : x < 0 ∨ nI 7 ≤ x) (K : post 0) : wpY_isTerm post (fa, fc, fl, kn, aL, aR, aO, li, sz, lA, lC, fe, mo) x := by
  unfold wpY_isTerm
  dsimp only
  by_cases c : x < 0
  · exact br_t c K
  · refine br_f c (br_t ?_ K)
    have q := h.resolve_left c
    rw [tv_eI, nI_toInt (by decide)] at q
    rw [tv_lI, show (6 : Int32).toInt = 6 by decide]
    omega
theorem ty_term1 {post : Int32 → Prop} {j : Nat} (h : j < 7) (K : post 1) : wpY_isTerm post (fa, fc, fl, kn, aL, aR, aO, li, sz, lA, lC, fe, mo) (nI j) := by
  unfold wpY_isTerm
  exact br_f (nI_pos (by omega)) (br_f (nI_nlt (a := 6) (by omega) (by decide)) K)
theorem ty_lit0 {post : Int32 → Prop} {n : Nat} {x : Int32} (hn : n ≤ 8) (h : x < 0 ∨ nI (2 * n) ≤ x) (K : post 0) : wpY_isLiteral post (nI n, fc, fl, kn, aL, aR, aO, li, sz, lA, lC, fe, mo) x := by
  unfold wpY_isLiteral
  dsimp only
  by_cases c : x < 0
  · exact br_t c K
  · have q := h.resolve_left c
    obtain ⟨j, hj, rfl⟩ := nI_of c
    rw [nI_leI (by omega) hj] at q
    rw [tv_d2 hj]
    refine br_f c (pk_lt 15 j (fun _ => K) (fun z => ⟨by decide, br_t (nI_le (by omega) (by omega)) K⟩))
theorem ty_lit1 {post : Int32 → Prop} {n j : Nat} (hn : n ≤ 8) (h : j < 2 * n) (K : post 1) : wpY_isLiteral post (nI n, fc, fl, kn, aL, aR, aO, li, sz, lA, lC, fe, mo) (nI j) := by
  unfold wpY_isLiteral
  dsimp only
  rw [tv_d2 (show j < 2 ^ 31 by omega)]
  exact br_f (nI_pos (by omega)) (br_f (nI_nlt (a := 15) (by omega) (by decide)) ⟨by decide, br_f (nI_ge (by omega) (by omega)) K⟩)
theorem ty_clause15 {post : Int32 → SY → Prop} {c : Nat} (hc : c < 16) (K : ∀ l' : Nat → Int32, (∀ i, i < 4 → l' (4 * c + i) = li (64 + i)) → (∀ q, (q < 4 * c ∨ 64 ≤ q) → l' q = li q) → post (nI c) (fa, nI (c + 1), fl, kn, aL, aR, aO, l', upd (upd sz c (sz 16)) 16 0, lA, lC, fe, mo)) :
    ∀ (d i m : Nat) (l : Nat → Int32), i + d = 4 → d < m → (∀ q, q < i → l (4 * c + q) = li (64 + q)) → (∀ q, (q < 4 * c ∨ 64 ≤ q) → l q = li q) → wY_clause_15 post fa (nI c) fl kn m (nI i) aL aR aO l sz lA lC fe mo := by
  intro d
  induction d with
  | zero =>
    intro i m l hi hm h1 h2
    obtain ⟨m, rfl⟩ := tv_q hm
    have e : i = 4 := by omega
    subst e
    rw [wY_clause_15]
    dsimp only
    rw [nI_clamp (show c < 2 ^ 31 by omega)]
    have k := K l h1 h2
    rw [← nI_pred c] at k
    exact br_t (nI_le (Nat.le_refl _) (by omega)) ⟨vp_in_nI (by omega) (by omega), nm_e (nm_e (nm_r (nI_1 c) k))⟩
  | succ d ih =>
    intro i m l hi hm h1 h2
    obtain ⟨m, rfl⟩ := tv_q hm
    rw [wY_clause_15]
    dsimp only
    rw [tv_4, tv_64, nI_clamp (show 4 * c + i < 2 ^ 31 by omega), nI_clamp (show 64 + i < 2 ^ 31 by omega), h2 (64 + i) (by omega)]
    refine br_f (nI_ge (b := 4) (by omega) (by decide)) ⟨vp_in_nI (by omega) (by omega), vp_in_nI (by omega) (by omega), nm_e (nm_r (nI_1 i) (ih (i + 1) m _ (by omega) (by omega) ?_ ?_))⟩
    · intro q hq
      by_cases z : q = i
      · subst z; exact pk_us
      · rw [pk_un (by omega)]; exact h1 q (by omega)
    · intro q hq
      rw [pk_un (by omega)]; exact h2 q hq
end
theorem tv_cs_congr {cH cF li sz cH' cF' li' sz' : Nat → Int32} {c : Nat} (h : tv_cs cH cF li sz c) (e1 : ∀ k, k < c → cH' k = cH k ∧ cF' k = cF k ∧ sz' k = sz k) (e2 : ∀ q, q < 4 * c → li' q = li q) : tv_cs cH' cF' li' sz' c := by
  intro k hk
  obtain ⟨s, hs, es, cl⟩ := h k hk
  obtain ⟨a1, a2, a3⟩ := e1 k hk
  refine ⟨s, hs, a3.trans es, ?_⟩
  rw [a1, a2]
  exact tv_cl_congr (fun i hi => e2 _ (by omega)) cl
theorem tv_cs_add {cH cF li sz : Nat → Int32} {c s : Nat} (h : tv_cs cH cF li sz c) (hs : s ≤ 4) (es : sz c = nI s) (cl : tv_cl (cH c) (cF c) li (4 * c) s) : tv_cs cH cF li sz (c + 1) := by
  intro k hk
  by_cases z : k = c
  · subst z; exact ⟨s, hs, es, cl⟩
  · exact h k (by omega)
theorem tv_cs_le {cH cF li sz : Nat → Int32} {c c' : Nat} (h : tv_cs cH cF li sz c) (hc : c' ≤ c) : tv_cs cH cF li sz c' := fun k hk => h k (by omega)
theorem tv_rp_congr {aL aR aO aL' aR' aO' rl : Nat → Int32} {n : Nat} (h : tv_rp aL aR aO rl n) (e : ∀ i, i < n → aL' i = aL i ∧ aR' i = aR i ∧ aO' i = aO i) : tv_rp aL' aR' aO' rl n := by
  intro m hm p hp
  rw [h m hm p hp]
  refine tv_i_c (tv_Fe_congr (fun i hi => ?_))
  obtain ⟨a1, a2, a3⟩ := e i (by omega)
  refine ⟨?_, ?_, ?_, rfl⟩
  · show (aL i).toNatClampNeg = (aL' i).toNatClampNeg; rw [a1]
  · show (aR i).toNatClampNeg = (aR' i).toNatClampNeg; rw [a2]
  · show (aO i).toInt = (aO' i).toInt; rw [a3]
def tv_R (n c d l : Nat) (fh ff kn : Int32) (aL aR aO cH cF lA lC rl li sz fe : Nat → Int32) : Prop :=
  (n ≤ 8 ∧ c ≤ 16 ∧ d ≤ 4 ∧ l ≤ 4) ∧ tv_av aL aR aO n ∧ tv_lv lA lC l n c ∧ tv_cs cH cF li sz c ∧ (sz 16 = nI d ∧ tv_cl fh ff li 64 d) ∧ tv_rp aL aR aO rl n ∧ tv_kn aL aR aO fe kn n
/-- the relation: the same atoms, levels and counts; clauses and draft met by the same patterns; the class's table of real patterns, and the reference's where it is known -/
def i_Rel (k : Nat) (u : SX) (v : SY) : Prop :=
  ∃ (n c d l : Nat) (fh ff kn : Int32) (aL aR aO cH cF lA lC rl bd li sz fe mo : Nat → Int32), u = (nI n, nI c, fh, ff, nI d, nI l, aL, aR, aO, cH, cF, lA, lC, rl, bd) ∧ v = (nI n, nI c, nI l, kn, aL, aR, aO, li, sz, lA, lC, fe, mo) ∧ tv_R n c d l fh ff kn aL aR aO cH cF lA lC rl li sz fe
theorem tv_mk {k n c d l : Nat} {fh ff kn : Int32} {aL aR aO cH cF lA lC rl bd li sz fe mo : Nat → Int32} (R : tv_R n c d l fh ff kn aL aR aO cH cF lA lC rl li sz fe) : i_Rel k (nI n, nI c, fh, ff, nI d, nI l, aL, aR, aO, cH, cF, lA, lC, rl, bd) (nI n, nI c, nI l, kn, aL, aR, aO, li, sz, lA, lC, fe, mo) :=
  ⟨n, c, d, l, fh, ff, kn, aL, aR, aO, cH, cF, lA, lC, rl, bd, li, sz, fe, mo, rfl, rfl, R⟩
theorem tv_Rk {n c d l : Nat} {fh ff kn : Int32} {aL aR aO cH cF lA lC rl li sz fe f' : Nat → Int32} (R : tv_R n c d l fh ff kn aL aR aO cH cF lA lC rl li sz fe) (kr : tv_kr aL aR aO f' n) : tv_R n c d l fh ff 1 aL aR aO cH cF lA lC rl li sz f' := by
  obtain ⟨a1, a2, a3, a4, a5, a6, _⟩ := R
  exact ⟨a1, a2, a3, a4, a5, a6, fun _ => kr⟩
theorem i_up {k : Nat} {u : SX} {v : SY} (h : i_Rel k u v) : i_Rel (k + 4) u v := h
theorem i_vc0 : wpX_init (fun u => wpY_init (fun v => i_Rel 0 u v)) := by
  unfold wpX_init
  refine nm_e ?_
  unfold wpY_init
  refine tv_mk (n := 0) (c := 0) (d := 0) (l := 0) ⟨⟨by omega, by omega, by omega, by omega⟩, fun i hi => absurd hi (by omega), trivial, fun i hi => absurd hi (by omega), ⟨rfl, tv_cl_0 _ _⟩, ?_, fun z => absurd rfl z⟩
  intro m hm p hp
  have e : m = 0 := by omega
  subst e
  have e2 : p = 0 := by omega
  subst e2
  rw [tv_i_t (tv_Fe_0 _ _ _)]
  exact pk_us.trans tv_nb1
