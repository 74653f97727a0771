theorem tv_2i (t u : Nat) : (2 : Int32) * nI t + nI u = nI (2 * t + u) := by
  show nI 2 * nI t + nI u = _
  rw [pk_mul, nI_add]
theorem tv_3i (t u : Nat) : (3 : Int32) * nI t + nI u = nI (3 * t + u) := by
  show nI 3 * nI t + nI u = _
  rw [pk_mul, nI_add]
theorem tv_nb0 : vp_nar .boolean 0 = 0 := rfl
theorem tv_nb1 : vp_nar .boolean 1 = 1 := rfl
theorem tv_nbi (P : Prop) : vp_nar .boolean (tv_i P) = tv_i P := by
  by_cases h : P
  · rw [tv_i_t h]; rfl
  · rw [tv_i_f h]; rfl
def tv_fi (aL aR aO r : Nat → Int32) (n i : Nat) : Prop := tv_rp aL aR aO r n ∧ ∀ q, q < i → r (2 * 2 ^ n + q) = tv_i (tv_Fe (tv_L aL) (tv_L aR) (tv_O aO) (n + 1) q) ∧ r (3 * 2 ^ n + q) = tv_i (tv_Fe (tv_L aL) (tv_L aR) (tv_O aO) (n + 1) (q + 2 ^ n))
theorem tv_fi_step {aL aR aO r : Nat → Int32} {n i : Nat} (hi : i < 2 ^ n) (h : tv_fi aL aR aO r n i) : tv_fi aL aR aO (upd (upd r (2 * 2 ^ n + i) (tv_i (tv_Fe (tv_L aL) (tv_L aR) (tv_O aO) (n + 1) i))) (3 * 2 ^ n + i) (tv_i (tv_Fe (tv_L aL) (tv_L aR) (tv_O aO) (n + 1) (i + 2 ^ n)))) n (i + 1) := by
  obtain ⟨h1, h2⟩ := h
  refine ⟨fun m hm p hp => ?_, fun q hq => ?_⟩
  · have e : 2 ^ m ≤ 2 ^ n := Nat.pow_le_pow_right (by decide) hm
    rw [pk_un (by omega), pk_un (by omega)]
    exact h1 m hm p hp
  · by_cases z : q = i
    · subst z
      constructor
      · rw [pk_un (by omega), pk_us]
      · rw [pk_us]
    · obtain ⟨a1, a2⟩ := h2 q (by omega)
      constructor
      · rw [pk_un (by omega), pk_un (by omega), a1]
      · rw [pk_un (by omega), pk_un (by omega), a2]
theorem tv_fi_end {aL aR aO r : Nat → Int32} {n : Nat} (h : tv_fi aL aR aO r n (2 ^ n)) : tv_rp aL aR aO r (n + 1) := by
  obtain ⟨h1, h2⟩ := h
  intro m hm p hp
  by_cases z : m = n + 1
  · subst z
    have e : 2 ^ (n + 1) = 2 * 2 ^ n := by rw [Nat.pow_succ]; omega
    rw [e] at hp ⊢
    by_cases y : p < 2 ^ n
    · exact (h2 p y).1
    · have a := (h2 (p - 2 ^ n) (by omega)).2
      rw [show 3 * 2 ^ n + (p - 2 ^ n) = 2 * 2 ^ n + p by omega, show p - 2 ^ n + 2 ^ n = p by omega] at a
      exact a
  · exact h1 m (by omega) p hp
theorem tv_low {L R : Nat → Nat} {O : Nat → Int} {n p o i j : Nat} (h : tv_va L R O n) (ho : o < 27) (hi : i < 7) (hj : j < 7) : tv_fw (tv_SX L R O n p o) 7 i j = 1000000000 ∨ (-2688 ≤ tv_fw (tv_SX L R O n p o) 7 i j ∧ tv_fw (tv_SX L R O n p o) 7 i j ≤ 2688) := by
  have B := tv_fw_B (tv_SX_B (p := p) h ho) (Nat.le_refl 7) i j hi hj
  have b := tv_bd_le (Nat.le_refl 7)
  have hT : tv_T = 1000000000 := rfl
  omega
/-- the values of t less u that the orders below m allow -/
def tv_vx (L R : Nat → Nat) (O : Nat → Int) (n p t u m : Nat) (v : Int) : Prop := ∃ q, q < m ∧ tv_Good (tv_SX L R O n p q) ∧ v = tv_fw (tv_SX L R O n p q) 7 t u
section
variable {fa fc fh ff fd fl : Int32} {aL aR aO cH cF lA lC rl bd : Nat → Int32}
theorem tx_settle {post : Int32 → SX → Prop} {n p o : Nat} (hn : n ≤ 8) (hp : p < 2147483648) (av : tv_av aL aR aO n) (ho : o < 27) (K1 : tv_Good (tv_SX (tv_L aL) (tv_L aR) (tv_O aO) n p o) → ∀ b', tv_is b' (tv_fw (tv_SX (tv_L aL) (tv_L aR) (tv_O aO) n p o) 7) → post 1 (nI n, fc, fh, ff, fd, fl, aL, aR, aO, cH, cF, lA, lC, rl, b')) (K0 : ¬ tv_Good (tv_SX (tv_L aL) (tv_L aR) (tv_O aO) n p o) → ∀ b', post 0 (nI n, fc, fh, ff, fd, fl, aL, aR, aO, cH, cF, lA, lC, rl, b')) : wpX_settleBounds post (nI n, fc, fh, ff, fd, fl, aL, aR, aO, cH, cF, lA, lC, rl, bd) (nI p) (nI o) := by
  unfold wpX_settleBounds
  dsimp only
  have r1 : nI o - nI o / 3 * 3 = nI (o % 3) := tv_r3 (by omega)
  have r2 : nI o / 3 = nI (o / 3) := tv_d3 (by omega)
  have r3 : nI (o / 3) - nI (o / 3) / 3 * 3 = nI (o / 3 % 3) := tv_r3 (by omega)
  have r4 : nI o / 9 = nI (o / 9) := tv_d9 (by omega)
  rw [r1, r2, r3, r4]
  have va := tv_av_va av
  have n3 : ¬ (3 : Int32) = 0 := by decide
  have n9 : ¬ (9 : Int32) = 0 := by decide
  have e : tv_SX (tv_L aL) (tv_L aR) (tv_O aO) n p o = tv_tl (tv_tl (tv_tl (tv_at 1000000000 (tv_L aL) (tv_L aR) (tv_O aO) p n) (tv_cx1 0 1 (o % 3))) (tv_cx1 0 2 (o / 3 % 3))) (tv_cx1 1 2 (o / 9)) := by
    unfold tv_SX tv_cx
    rw [tv_tl_app, tv_tl_app]
  refine tx_drop (fun b0 h0 => tx_atoms hn hp av h0 (fun b1 h1 => ⟨n3, tx_order (x := 0) (y := 1) (by omega) (by omega) (by omega) h1 (fun b2 h2 => ⟨n3, n3, tx_order (x := 0) (y := 2) (by omega) (by omega) (by omega) h2 (fun b3 h3 => ⟨n9, tx_order (x := 1) (y := 2) (by omega) (by omega) (by omega) h3 (fun b4 h4 => ?_)⟩)⟩)⟩))
  rw [← e] at h4
  exact tx_close (tv_SX_B va ho) (fun i _ => tv_SX_d va o i) h4 (fun g b' hb => ⟨rfl, K1 g b' hb⟩) (fun g b' => ⟨rfl, K0 g b'⟩)
theorem tx_has2 {post : Int32 → SX → Prop} {n p : Nat} (hn : n ≤ 8) (hp : p < 2147483648) (av : tv_av aL aR aO n) (K1 : tv_Fe (tv_L aL) (tv_L aR) (tv_O aO) n p → ∀ b', post 1 (nI n, fc, fh, ff, fd, fl, aL, aR, aO, cH, cF, lA, lC, rl, b')) (K0 : ¬ tv_Fe (tv_L aL) (tv_L aR) (tv_O aO) n p → ∀ b', post 0 (nI n, fc, fh, ff, fd, fl, aL, aR, aO, cH, cF, lA, lC, rl, b')) :
    ∀ (d o m : Nat) (b : Nat → Int32), o + d = 27 → d < m → (∀ q, q < o → ¬ tv_Good (tv_SX (tv_L aL) (tv_L aR) (tv_O aO) n p q)) → wX_hasMeaning_2 post (nI p) m (nI o) (nI n) fc fh ff fd fl aL aR aO cH cF lA lC rl b := by
  intro d
  induction d with
  | zero =>
    intro o m b hi hm h
    obtain ⟨m, rfl⟩ := tv_q hm
    have e : o = 27 := by omega
    subst e
    rw [wX_hasMeaning_2]
    exact br_t (nI_le (Nat.le_refl _) (by omega)) (K0 (fun ⟨q, hq, g⟩ => h q hq g) b)
  | succ d ih =>
    intro o m b hi hm h
    obtain ⟨m, rfl⟩ := tv_q hm
    rw [wX_hasMeaning_2]
    refine br_f (nI_ge (b := 27) (by omega) (by decide)) (tx_settle hn hp av (by omega) (fun g b' hb => br_f (by decide) (K1 ⟨o, by omega, g⟩ b')) (fun g b' => br_t rfl (nm_r (nI_1 o) (ih (o + 1) m b' (by omega) (by omega) ?_))))
    intro q hq
    by_cases z : q = o
    · subst z; exact g
    · exact h q (by omega)
theorem tx_has {post : Int32 → SX → Prop} {n p : Nat} (hn : n ≤ 8) (hp : p < 2147483648) (av : tv_av aL aR aO n) (K1 : tv_Fe (tv_L aL) (tv_L aR) (tv_O aO) n p → ∀ b', post 1 (nI n, fc, fh, ff, fd, fl, aL, aR, aO, cH, cF, lA, lC, rl, b')) (K0 : ¬ tv_Fe (tv_L aL) (tv_L aR) (tv_O aO) n p → ∀ b', post 0 (nI n, fc, fh, ff, fd, fl, aL, aR, aO, cH, cF, lA, lC, rl, b')) : wpX_hasMeaning post (nI n, fc, fh, ff, fd, fl, aL, aR, aO, cH, cF, lA, lC, rl, bd) (nI p) := by
  unfold wpX_hasMeaning
  exact ⟨28, tx_has2 hn hp av K1 K0 27 0 28 bd (by omega) (by omega) (fun q hq => absurd hq (by omega))⟩
theorem tx_fr48 {post : SX → Prop} {J6 : Int32 → Int32 → Int32 → Int32 → Int32 → Int32 → Int32 → (Nat → Int32) → (Nat → Int32) → (Nat → Int32) → (Nat → Int32) → (Nat → Int32) → (Nat → Int32) → (Nat → Int32) → (Nat → Int32) → (Nat → Int32) → Prop} {n i : Nat} {z0 : Int32} (hn : n < 8) (hi : i < 2 ^ n) (av : tv_av aL aR aO (n + 1)) (hz : z0 = tv_i (tv_Fe (tv_L aL) (tv_L aR) (tv_O aO) (n + 1) i))
    (K : ∀ b', J6 (nI (i + 1)) (nI (n + 1)) fc fh ff fd fl aL aR aO cH cF lA lC (upd (upd rl (2 * 2 ^ n + i) (tv_i (tv_Fe (tv_L aL) (tv_L aR) (tv_O aO) (n + 1) i))) (3 * 2 ^ n + i) (tv_i (tv_Fe (tv_L aL) (tv_L aR) (tv_O aO) (n + 1) (i + 2 ^ n)))) b') :
    wX_findRealPatterns_48 post J6 (nI (2 ^ n)) (nI i) (tv_i (tv_Fe (tv_L aL) (tv_L aR) (tv_O aO) n i)) z0 (nI (2 * 2 ^ n + i)) (nI (n + 1)) fc fh ff fd fl aL aR aO cH cF lA lC rl bd := by
  have hp : 2 ^ n ≤ 128 := (by decide +kernel : ∀ n, n < 8 → 2 ^ n ≤ 128) n hn
  unfold wX_findRealPatterns_48
  rw [tv_3i, nI_add, nI_clamp (show 2 * 2 ^ n + i < 2 ^ 31 by omega), nI_clamp (show 3 * 2 ^ n + i < 2 ^ 31 by omega), hz, tv_nbi]
  have w : vp_in (nI (3 * 2 ^ n + i)) 512 := vp_in_nI (by omega) (by omega)
  refine ⟨vp_in_nI (by omega) (by omega), nm_e ?_⟩
  by_cases c : tv_Fe (tv_L aL) (tv_L aR) (tv_O aO) n i
  · refine br_f (fun z => (tv_i_0.mp z) c) (tx_has (by omega) (by omega) av (fun g b' => ?_) (fun g b' => ?_))
    · have k := K b'
      rw [tv_i_t g] at k
      exact br_f (by decide) ⟨w, nm_r (congrArg _ tv_nb1) (nm_r (nI_1 i) k)⟩
    · have k := K b'
      rw [tv_i_f g] at k
      exact br_t rfl ⟨w, nm_r (congrArg _ tv_nb0) (nm_r (nI_1 i) k)⟩
  · have g : ¬ tv_Fe (tv_L aL) (tv_L aR) (tv_O aO) (n + 1) (i + 2 ^ n) := fun z => c (tv_Fe_half hn hi z)
    have k := K bd
    rw [tv_i_f g] at k
    exact br_t (tv_i_f c) ⟨w, nm_r (congrArg _ tv_nb0) (nm_r (nI_1 i) k)⟩
theorem tx_fr6 {post : SX → Prop} {n : Nat} (hn : n < 8) (av : tv_av aL aR aO (n + 1)) (K : ∀ r' b', tv_rp aL aR aO r' (n + 1) → post (nI (n + 1), fc, fh, ff, fd, fl, aL, aR, aO, cH, cF, lA, lC, r', b')) :
    ∀ (d i m : Nat) (r b : Nat → Int32), i + d = 2 ^ n → d < m → tv_fi aL aR aO r n i → wX_findRealPatterns_6 post (nI (2 ^ n)) m (nI i) (nI (n + 1)) fc fh ff fd fl aL aR aO cH cF lA lC r b := by
  have hp : 2 ^ n ≤ 128 := (by decide +kernel : ∀ n, n < 8 → 2 ^ n ≤ 128) n hn
  intro d
  induction d with
  | zero =>
    intro i m r b hi hm h
    obtain ⟨m, rfl⟩ := tv_q hm
    have e : i = 2 ^ n := by omega
    subst e
    rw [wX_findRealPatterns_6]
    exact br_t (nI_le (Nat.le_refl _) (by omega)) (K r b (tv_fi_end h))
  | succ d ih =>
    intro i m r b hi hm h
    obtain ⟨m, rfl⟩ := tv_q hm
    have hi2 : i < 2 ^ n := by omega
    rw [wX_findRealPatterns_6]
    dsimp only
    rw [tv_2i, nI_add, nI_clamp (show 2 ^ n + i < 2 ^ 31 by omega), h.1 n (Nat.le_refl n) i hi2]
    have go : ∀ (z0 : Int32) (b1 : Nat → Int32), z0 = tv_i (tv_Fe (tv_L aL) (tv_L aR) (tv_O aO) (n + 1) i) → wX_findRealPatterns_48 post (wX_findRealPatterns_6 post (nI (2 ^ n)) m) (nI (2 ^ n)) (nI i) (tv_i (tv_Fe (tv_L aL) (tv_L aR) (tv_O aO) n i)) z0 (nI (2 * 2 ^ n + i)) (nI (n + 1)) fc fh ff fd fl aL aR aO cH cF lA lC r b1 :=
      fun z0 b1 hz => tx_fr48 hn hi2 av hz (fun b' => ih (i + 1) m _ b' (by omega) (by omega) (tv_fi_step hi2 h))
    refine br_f (nI_ge (by omega) (by omega)) ⟨vp_in_nI (by omega) (by omega), nm_e ?_⟩
    by_cases c : tv_Fe (tv_L aL) (tv_L aR) (tv_O aO) n i
    · refine br_f (fun z => (tv_i_0.mp z) c) (tx_has (by omega) (by omega) av (fun g b' => br_f (by decide) (go 1 b' (tv_i_t g).symm)) (fun g b' => br_t rfl ?_))
      unfold wX_findRealPatterns_47
      exact go 0 b' (tv_i_f g).symm
    · refine br_t (tv_i_f c) ?_
      unfold wX_findRealPatterns_47
      exact go 0 b (tv_i_f (fun z => c (tv_Fe_step z))).symm
theorem tx_findReal {post : SX → Prop} {n : Nat} (hn : n < 8) (av : tv_av aL aR aO (n + 1)) (rp : tv_rp aL aR aO rl n) (K : ∀ r' b', tv_rp aL aR aO r' (n + 1) → post (nI (n + 1), fc, fh, ff, fd, fl, aL, aR, aO, cH, cF, lA, lC, r', b')) : wpX_findRealPatterns post (nI (n + 1), fc, fh, ff, fd, fl, aL, aR, aO, cH, cF, lA, lC, rl, bd) (nI n) := by
  unfold wpX_findRealPatterns
  dsimp only
  rw [tv_pow (show n < 31 by omega)]
  exact nm_e ⟨2 ^ n + 1, tx_fr6 hn av K (2 ^ n) 0 (2 ^ n + 1) rl bd (by omega) (by omega) ⟨rp, fun q hq => absurd hq (by omega)⟩⟩
theorem tx_gd7 {post : Int32 → SX → Prop} {n p t u : Nat} (hn : n ≤ 8) (hp : p < 2147483648) (av : tv_av aL aR aO n) (ht : t < 7) (hu : u < 7) (K : ∀ g b', tv_mx (tv_vx (tv_L aL) (tv_L aR) (tv_O aO) n p t u 27) (-1000000000) g.toInt → post g (nI n, fc, fh, ff, fd, fl, aL, aR, aO, cH, cF, lA, lC, rl, b')) :
    ∀ (d o m : Nat) (g : Int32) (b : Nat → Int32), o + d = 27 → d < m → tv_mx (tv_vx (tv_L aL) (tv_L aR) (tv_O aO) n p t u o) (-1000000000) g.toInt → wX_greatestDifference_7 post (nI t) (nI u) (nI p) m g (nI o) (nI n) fc fh ff fd fl aL aR aO cH cF lA lC rl b := by
  have va := tv_av_va av
  intro d
  induction d with
  | zero =>
    intro o m g b hi hm h
    obtain ⟨m, rfl⟩ := tv_q hm
    have e : o = 27 := by omega
    subst e
    rw [wX_greatestDifference_7]
    exact br_t (nI_le (Nat.le_refl _) (by omega)) (K g b h)
  | succ d ih =>
    intro o m g b hi hm h
    obtain ⟨m, rfl⟩ := tv_q hm
    rw [wX_greatestDifference_7]
    dsimp only
    rw [tv_7]
    have w : vp_in (nI (7 * t + u)) 49 := vp_in_nI (by omega) (by omega)
    have hP : ∀ v, tv_vx (tv_L aL) (tv_L aR) (tv_O aO) n p t u o v → -1000000000 < v := by
      rintro v ⟨q, hq, _, rfl⟩
      have := tv_low (p := p) va (show q < 27 by omega) ht hu
      omega
    refine br_f (nI_ge (b := 27) (by omega) (by decide)) (tx_settle hn hp av (by omega) (fun gd b' hb => br_f (by decide) ?_) (fun gd b' => br_t rfl (nm_r (nI_1 o) (ih (o + 1) m g b' (by omega) (by omega) (tv_mx_c h ?_)))))
    · rw [nI_clamp (show 7 * t + u < 2 ^ 31 by omega)]
      have e := hb t u ht hu
      have lo := tv_low (p := p) va (show o < 27 by omega) ht hu
      have un := tv_mx_un (P' := tv_vx (tv_L aL) (tv_L aR) (tv_O aO) n p t u (o + 1)) hP (fun v (hv : v = tv_fw (tv_SX (tv_L aL) (tv_L aR) (tv_O aO) n p o) 7 t u) => by omega) h (tv_mx_1 (tv_fw (tv_SX (tv_L aL) (tv_L aR) (tv_O aO) n p o) 7 t u) (-1000000000)) (by
        intro v
        constructor
        · rintro ⟨q, hq, gq, ev⟩
          by_cases z : q = o
          · subst z; exact Or.inr ev
          · exact Or.inl ⟨q, by omega, gq, ev⟩
        · rintro (⟨q, hq, gq, ev⟩ | ev)
          · exact ⟨q, by omega, gq, ev⟩
          · exact ⟨o, by omega, gd, ev⟩)
      refine ⟨w, br_c (fun c => ?_) (fun c => ?_)⟩
      · rw [tv_eI, e] at c
        exact nm_r (nI_1 o) (ih (o + 1) m g b' (by omega) (by omega) (un.2 (by omega)))
      · rw [tv_eI, e] at c
        exact ⟨w, nm_e (nm_r (nI_1 o) (ih (o + 1) m _ b' (by omega) (by omega) (by rw [e]; exact un.1 (by omega))))⟩
    · intro v
      constructor
      · rintro ⟨q, hq, gq, ev⟩
        by_cases z : q = o
        · subst z; exact absurd gq gd
        · exact ⟨q, by omega, gq, ev⟩
      · rintro ⟨q, hq, gq, ev⟩
        exact ⟨q, by omega, gq, ev⟩
theorem tx_gd {post : Int32 → SX → Prop} {n p t u : Nat} (hn : n ≤ 8) (hp : p < 2147483648) (av : tv_av aL aR aO n) (ht : t < 7) (hu : u < 7) (K : ∀ g b', tv_mx (tv_vx (tv_L aL) (tv_L aR) (tv_O aO) n p t u 27) (-1000000000) g.toInt → post g (nI n, fc, fh, ff, fd, fl, aL, aR, aO, cH, cF, lA, lC, rl, b')) : wpX_greatestDifference post (nI n, fc, fh, ff, fd, fl, aL, aR, aO, cH, cF, lA, lC, rl, bd) (nI t) (nI u) (nI p) := by
  unfold wpX_greatestDifference
  refine ⟨28, tx_gd7 hn hp av ht hu K 27 0 28 (-1000000000) bd (by omega) (by omega) ?_⟩
  rw [show (-1000000000 : Int32).toInt = -1000000000 by decide +kernel]
  exact tv_mx_0 _ (fun v ⟨q, hq, _⟩ => absurd hq (by omega))
end
