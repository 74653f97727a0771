abbrev tv_ma (cH cF : Nat → Int32) (c : Nat) (but : Int32) (p : Nat) : Prop := ∀ k, k < c → ¬ nI k = but → tv_xm (cH k) (cF k) p
abbrev tv_g (aL aR aO cH cF : Nat → Int32) (n c : Nat) (but : Int32) (p : Nat) : Prop := tv_G (tv_F aL aR aO n) (fun k p => tv_xm (cH k) (cF k) p) c but p
theorem tv_mx_pos {P : Int → Prop} {g : Int} (h : tv_mx P (-1000000000) g) : 0 < g ↔ ∃ v, P v ∧ 0 < v := by
  rcases h with ⟨h1, h2⟩ | ⟨h1, h2⟩
  · constructor
    · intro z; omega
    · rintro ⟨v, hv, _⟩; exact absurd hv (h2 v)
  · constructor
    · intro z; exact ⟨g, h1, z⟩
    · rintro ⟨v, hv, z⟩; have := h2 v hv; omega
/-- some order lets t and u differ -/
def tv_DX (L R : Nat → Nat) (O : Nat → Int) (n p t u : Nat) : Prop := ∃ o, o < 27 ∧ tv_Good (tv_SX L R O n p o) ∧ (0 < tv_fw (tv_SX L R O n p o) 7 t u ∨ 0 < tv_fw (tv_SX L R O n p o) 7 u t)
theorem tv_DX_vx {L R : Nat → Nat} {O : Nat → Int} {n p t u : Nat} : tv_DX L R O n p t u ↔ (∃ v, tv_vx L R O n p t u 27 v ∧ 0 < v) ∨ (∃ v, tv_vx L R O n p u t 27 v ∧ 0 < v) := by
  constructor
  · rintro ⟨o, ho, g, z | z⟩
    · exact Or.inl ⟨_, ⟨o, ho, g, rfl⟩, z⟩
    · exact Or.inr ⟨_, ⟨o, ho, g, rfl⟩, z⟩
  · rintro (⟨v, ⟨o, ho, g, rfl⟩, z⟩ | ⟨v, ⟨o, ho, g, rfl⟩, z⟩)
    · exact ⟨o, ho, g, Or.inl z⟩
    · exact ⟨o, ho, g, Or.inr z⟩
/-- the values over all good patterns below m -/
def tv_wx (aL aR aO cH cF : Nat → Int32) (n c t u m : Nat) (v : Int) : Prop := ∃ q, q < m ∧ tv_g aL aR aO cH cF n c (-1) q ∧ tv_vx (tv_L aL) (tv_L aR) (tv_O aO) n q t u 27 v
def tv_us (x : Int32) : Nat → Int32
  | 0 => 0
  | i + 1 => tv_us x i + ((x >>> (nI i &&& 31)) &&& 1)
def tv_un (s : Int32 × Int32) (p : Nat) : Int32 × Int32 := (s.1 ||| nI p, s.2 ||| (nI p ^^^ (-1)))
theorem tx_met {post : Int32 → Prop} {h f : Int32} {p : Nat} (K1 : tv_xm h f p → post 1) (K0 : ¬ tv_xm h f p → post 0) : wpX_isMet post h f (nI p) := by
  unfold wpX_isMet
  exact br_c (fun c => br_c (fun d => K0 (fun z => z.elim (fun q => q c) (fun q => q d))) (fun d => K1 (Or.inr d))) (fun c => K1 (Or.inl c))
section
variable {fa fc fh ff fd fl : Int32} {aL aR aO cH cF lA lC rl bd : Nat → Int32}
theorem tx_mab2 {post : Int32 → Prop} {c p : Nat} {but : Int32} (hc : c ≤ 16) (K1 : tv_ma cH cF c but p → post 1) (K0 : ¬ tv_ma cH cF c but p → post 0) :
    ∀ d k m : Nat, k + d = c → d < m → (∀ j, j < k → ¬ nI j = but → tv_xm (cH j) (cF j) p) → wX_meetsAllBut_2 post but (nI p) fa (nI c) fh ff fd fl aL aR aO cH cF lA lC rl bd m (nI k) := by
  intro d
  induction d with
  | zero =>
    intro k m hi hm h
    obtain ⟨m, rfl⟩ := tv_q hm
    have e : k = c := by omega
    subst e
    rw [wX_meetsAllBut_2]
    exact br_t (nI_le (Nat.le_refl _) (by omega)) (K1 h)
  | succ d ih =>
    intro k m hi hm h
    obtain ⟨m, rfl⟩ := tv_q hm
    rw [wX_meetsAllBut_2]
    dsimp only
    rw [nI_clamp (show k < 2 ^ 31 by omega)]
    have w : vp_in (nI k) 16 := vp_in_nI (by omega) (by omega)
    refine br_f (nI_ge (by omega) (by omega)) (br_c (fun e => nm_r (nI_1 k) (ih (k + 1) m (by omega) (by omega) (lt_s h (fun z => absurd e z)))) (fun e => ⟨w, w, tx_met (fun g => br_f (by decide) (nm_r (nI_1 k) (ih (k + 1) m (by omega) (by omega) (lt_s h (fun _ => g))))) (fun g => br_t rfl (K0 (fun z => g (z k (by omega) e))))⟩))
theorem tx_mab {post : Int32 → Prop} {c p : Nat} {but : Int32} (hc : c ≤ 16) (K1 : tv_ma cH cF c but p → post 1) (K0 : ¬ tv_ma cH cF c but p → post 0) : wpX_meetsAllBut post (fa, nI c, fh, ff, fd, fl, aL, aR, aO, cH, cF, lA, lC, rl, bd) but (nI p) := by
  unfold wpX_meetsAllBut
  exact ⟨c + 1, tx_mab2 hc K1 K0 c 0 (c + 1) (by omega) (by omega) (fun j hj => absurd hj (by omega))⟩
theorem tx_real {post : Int32 → Prop} {n p : Nat} (hn : n ≤ 8) (hp : p < 2 ^ n) (rp : tv_rp aL aR aO rl n) (K1 : tv_Fe (tv_L aL) (tv_L aR) (tv_O aO) n p → post 1) (K0 : ¬ tv_Fe (tv_L aL) (tv_L aR) (tv_O aO) n p → post 0) : wpX_isReal post (nI n, fc, fh, ff, fd, fl, aL, aR, aO, cH, cF, lA, lC, rl, bd) (nI p) := by
  have h8 := tv_p8 hn
  unfold wpX_isReal
  dsimp only
  rw [tv_pow (show n < 31 by omega), nI_add, nI_clamp (show 2 ^ n + p < 2 ^ 31 by omega), rp n (Nat.le_refl n) p hp]
  refine ⟨vp_in_nI (by omega) (by omega), tv_i_n _, ?_⟩
  by_cases c : tv_Fe (tv_L aL) (tv_L aR) (tv_O aO) n p
  · rw [tv_i_t c]; exact K1 c
  · rw [tv_i_f c]; exact K0 c
theorem tx_good {post : Int32 → Prop} {n c p : Nat} (hn : n ≤ 8) (hc : c ≤ 16) (hp : p < 2 ^ n) (rp : tv_rp aL aR aO rl n) (K1 : tv_g aL aR aO cH cF n c (-1) p → post 1) (K0 : ¬ tv_g aL aR aO cH cF n c (-1) p → post 0) : wpX_isGood post (nI n, nI c, fh, ff, fd, fl, aL, aR, aO, cH, cF, lA, lC, rl, bd) (nI p) := by
  unfold wpX_isGood
  dsimp only
  exact tx_real hn hp rp (fun f => br_f (by decide) (tx_mab hc (fun g => br_f (by decide) (K1 ⟨⟨hp, f⟩, g⟩)) (fun g => br_t rfl (K0 (fun z => g z.2))))) (fun f => br_t rfl (K0 (fun z => f z.1.2)))
theorem tx_count {post : Int32 → Prop} {n : Nat} (hn : n ≤ 8) (K : post (nI (2 ^ n))) : wpX_patternCount post (nI n, fc, fh, ff, fd, fl, aL, aR, aO, cH, cF, lA, lC, rl, bd) := by
  unfold wpX_patternCount
  dsimp only
  rw [tv_pow (show n < 31 by omega)]
  exact K
theorem tx_some7 {post : Int32 → Prop} {n c : Nat} {but : Int32} (hn : n ≤ 8) (hc : c ≤ 16) (rp : tv_rp aL aR aO rl n) (K1 : (∃ p, p < 2 ^ n ∧ tv_g aL aR aO cH cF n c but p) → post 1) (K0 : (∀ p, p < 2 ^ n → ¬ tv_g aL aR aO cH cF n c but p) → post 0) :
    ∀ d i m : Nat, i + d = 2 ^ n → d < m → (∀ p, p < i → ¬ tv_g aL aR aO cH cF n c but p) → wX_someRealMeetsAllBut_7 post but (nI (2 ^ n)) (nI n) (nI c) fh ff fd fl aL aR aO cH cF lA lC rl bd m (nI i) := by
  have h8 := tv_p8 hn
  intro d
  induction d with
  | zero =>
    intro i m hi hm h
    obtain ⟨m, rfl⟩ := tv_q hm
    have e : i = 2 ^ n := by omega
    subst e
    rw [wX_someRealMeetsAllBut_7]
    exact br_t (nI_le (Nat.le_refl _) (by omega)) (K0 h)
  | succ d ih =>
    intro i m hi hm h
    obtain ⟨m, rfl⟩ := tv_q hm
    rw [wX_someRealMeetsAllBut_7]
    have hi2 : i < 2 ^ n := by omega
    have nx : ¬ tv_g aL aR aO cH cF n c but i → ∀ y, y = nI i + 1 → wX_someRealMeetsAllBut_7 post but (nI (2 ^ n)) (nI n) (nI c) fh ff fd fl aL aR aO cH cF lA lC rl bd m y := fun g => nm_r (nI_1 i) (ih (i + 1) m (by omega) (by omega) (lt_s h g))
    exact br_f (nI_ge (by omega) (by omega)) (tx_real hn hi2 rp (fun f => br_f (by decide) (tx_mab hc (fun g => br_f (by decide) (K1 ⟨i, hi2, ⟨hi2, f⟩, g⟩)) (fun g => br_t rfl (nx (fun z => g z.2))))) (fun f => br_t rfl (nx (fun z => f z.1.2))))
theorem tx_some {post : Int32 → Prop} {n c : Nat} {but : Int32} (hn : n ≤ 8) (hc : c ≤ 16) (rp : tv_rp aL aR aO rl n) (K1 : (∃ p, p < 2 ^ n ∧ tv_g aL aR aO cH cF n c but p) → post 1) (K0 : (∀ p, p < 2 ^ n → ¬ tv_g aL aR aO cH cF n c but p) → post 0) : wpX_someRealMeetsAllBut post (nI n, nI c, fh, ff, fd, fl, aL, aR, aO, cH, cF, lA, lC, rl, bd) but := by
  unfold wpX_someRealMeetsAllBut
  dsimp only
  exact tx_count hn ⟨2 ^ n + 1, tx_some7 hn hc rp K1 K0 (2 ^ n) 0 (2 ^ n + 1) (by omega) (by omega) (fun p hp => absurd hp (by omega))⟩
theorem tx_implied29 {post : Int32 → Prop} {n c : Nat} {xh xf : Int32} (hn : n ≤ 8) (hc : c ≤ 16) (rp : tv_rp aL aR aO rl n) (K1 : (∀ p, p < 2 ^ n → tv_g aL aR aO cH cF n c (-1) p → tv_xm xh xf p) → post 1) (K0 : (∃ p, p < 2 ^ n ∧ tv_g aL aR aO cH cF n c (-1) p ∧ ¬ tv_xm xh xf p) → post 0) :
    ∀ d i m : Nat, i + d = 2 ^ n → d < m → (∀ p, p < i → tv_g aL aR aO cH cF n c (-1) p → tv_xm xh xf p) → wX_implied_29 post xh xf (nI (2 ^ n)) (nI n) (nI c) fh ff fd fl aL aR aO cH cF lA lC rl bd m (nI i) := by
  have h8 := tv_p8 hn
  intro d
  induction d with
  | zero =>
    intro i m hi hm h
    obtain ⟨m, rfl⟩ := tv_q hm
    have e : i = 2 ^ n := by omega
    subst e
    rw [wX_implied_29]
    exact br_t (nI_le (Nat.le_refl _) (by omega)) (K1 h)
  | succ d ih =>
    intro i m hi hm h
    obtain ⟨m, rfl⟩ := tv_q hm
    rw [wX_implied_29]
    have hi2 : i < 2 ^ n := by omega
    have nx : (tv_g aL aR aO cH cF n c (-1) i → tv_xm xh xf i) → ∀ y, y = nI i + 1 → wX_implied_29 post xh xf (nI (2 ^ n)) (nI n) (nI c) fh ff fd fl aL aR aO cH cF lA lC rl bd m y := fun g => nm_r (nI_1 i) (ih (i + 1) m (by omega) (by omega) (lt_s h g))
    exact br_f (nI_ge (by omega) (by omega)) (tx_good hn hc hi2 rp (fun g => br_f (by decide) (tx_met (fun z => br_f (by decide) (nx (fun _ => z))) (fun z => br_t rfl (K0 ⟨i, hi2, g, z⟩)))) (fun g => br_t rfl (nx (fun z => absurd z g))))
theorem tx_differ8 {post : Int32 → SX → Prop} {n c t u : Nat} (hn : n ≤ 8) (hc : c ≤ 16) (av : tv_av aL aR aO n) (rp : tv_rp aL aR aO rl n) (ht : t < 7) (hu : u < 7) (K1 : (∃ p, p < 2 ^ n ∧ tv_g aL aR aO cH cF n c (-1) p ∧ tv_DX (tv_L aL) (tv_L aR) (tv_O aO) n p t u) → ∀ b', post 1 (nI n, nI c, fh, ff, fd, fl, aL, aR, aO, cH, cF, lA, lC, rl, b')) (K0 : (∀ p, p < 2 ^ n → tv_g aL aR aO cH cF n c (-1) p → ¬ tv_DX (tv_L aL) (tv_L aR) (tv_O aO) n p t u) → ∀ b', post 0 (nI n, nI c, fh, ff, fd, fl, aL, aR, aO, cH, cF, lA, lC, rl, b')) :
    ∀ (d i m : Nat) (b : Nat → Int32), i + d = 2 ^ n → d < m → (∀ p, p < i → tv_g aL aR aO cH cF n c (-1) p → ¬ tv_DX (tv_L aL) (tv_L aR) (tv_O aO) n p t u) → wX_canDiffer_8 post (nI t) (nI u) (nI (2 ^ n)) m (nI i) (nI n) (nI c) fh ff fd fl aL aR aO cH cF lA lC rl b := by
  have h8 := tv_p8 hn
  intro d
  induction d with
  | zero =>
    intro i m b hi hm h
    obtain ⟨m, rfl⟩ := tv_q hm
    have e : i = 2 ^ n := by omega
    subst e
    rw [wX_canDiffer_8]
    exact br_t (nI_le (Nat.le_refl _) (by omega)) (K0 h b)
  | succ d ih =>
    intro i m b hi hm h
    obtain ⟨m, rfl⟩ := tv_q hm
    rw [wX_canDiffer_8]
    have hi2 : i < 2 ^ n := by omega
    have nx : ∀ b', (tv_g aL aR aO cH cF n c (-1) i → ¬ tv_DX (tv_L aL) (tv_L aR) (tv_O aO) n i t u) → ∀ y, y = nI i + 1 → wX_canDiffer_8 post (nI t) (nI u) (nI (2 ^ n)) m y (nI n) (nI c) fh ff fd fl aL aR aO cH cF lA lC rl b' := fun b' g => nm_r (nI_1 i) (ih (i + 1) m b' (by omega) (by omega) (lt_s h g))
    refine br_f (nI_ge (by omega) (by omega)) (tx_good hn hc hi2 rp (fun g => br_f (by decide) (tx_gd hn (by omega) av ht hu (fun r b1 m1 => br_c (fun c1 => ?_) (fun c1 => tx_gd hn (by omega) av hu ht (fun s b2 m2 => br_c (fun c2 => ?_) (fun c2 => ?_)))))) (fun g => br_t rfl (nx b (fun z => absurd z g))))
    · rw [tv_lI, tv_z0] at c1
      exact K1 ⟨i, hi2, g, tv_DX_vx.mpr (Or.inl ((tv_mx_pos m1).mp c1))⟩ b1
    · rw [tv_lI, tv_z0] at c1
      rw [tv_eI, tv_z0] at c2
      refine nx b2 (fun _ z => ?_)
      rcases tv_DX_vx.mp z with z | z
      · exact c1 ((tv_mx_pos m1).mpr z)
      · have := (tv_mx_pos m2).mpr z; omega
    · rw [tv_eI, tv_z0] at c2
      exact K1 ⟨i, hi2, g, tv_DX_vx.mpr (Or.inr ((tv_mx_pos m2).mp (by omega)))⟩ b2
theorem tx_differ {post : Int32 → SX → Prop} {n c t u : Nat} (hn : n ≤ 8) (hc : c ≤ 16) (av : tv_av aL aR aO n) (rp : tv_rp aL aR aO rl n) (ht : t < 7) (hu : u < 7) (K1 : (∃ p, p < 2 ^ n ∧ tv_g aL aR aO cH cF n c (-1) p ∧ tv_DX (tv_L aL) (tv_L aR) (tv_O aO) n p t u) → ∀ b', post 1 (nI n, nI c, fh, ff, fd, fl, aL, aR, aO, cH, cF, lA, lC, rl, b')) (K0 : (∀ p, p < 2 ^ n → tv_g aL aR aO cH cF n c (-1) p → ¬ tv_DX (tv_L aL) (tv_L aR) (tv_O aO) n p t u) → ∀ b', post 0 (nI n, nI c, fh, ff, fd, fl, aL, aR, aO, cH, cF, lA, lC, rl, b')) : wpX_canDiffer post (nI n, nI c, fh, ff, fd, fl, aL, aR, aO, cH, cF, lA, lC, rl, bd) (nI t) (nI u) := by
  unfold wpX_canDiffer
  dsimp only
  exact tx_count hn ⟨2 ^ n + 1, tx_differ8 hn hc av rp ht hu K1 K0 (2 ^ n) 0 (2 ^ n + 1) bd (by omega) (by omega) (fun p hp => absurd hp (by omega))⟩
theorem tx_least35 {post : Int32 → SX → Prop} {n c t u : Nat} (hn : n ≤ 8) (hc : c ≤ 16) (av : tv_av aL aR aO n) (rp : tv_rp aL aR aO rl n) (ht : t < 7) (hu : u < 7) (K : ∀ g b', tv_mx (tv_wx aL aR aO cH cF n c u t (2 ^ n)) (-1000000000) g.toInt → ((g = (-1000000000) → post (-3000) (nI n, nI c, fh, ff, fd, fl, aL, aR, aO, cH, cF, lA, lC, rl, b')) ∧ (¬ g = (-1000000000) → ((g = 1000000000 → post (-4000) (nI n, nI c, fh, ff, fd, fl, aL, aR, aO, cH, cF, lA, lC, rl, b')) ∧ (¬ g = 1000000000 → post (-g) (nI n, nI c, fh, ff, fd, fl, aL, aR, aO, cH, cF, lA, lC, rl, b')))))) :
    ∀ (d i m : Nat) (g : Int32) (b : Nat → Int32), i + d = 2 ^ n → d < m → tv_mx (tv_wx aL aR aO cH cF n c u t i) (-1000000000) g.toInt → wX_least_35 post (nI t) (nI u) (nI (2 ^ n)) m g (nI i) (nI n) (nI c) fh ff fd fl aL aR aO cH cF lA lC rl b := by
  have h8 := tv_p8 hn
  have va := tv_av_va av
  intro d
  induction d with
  | zero =>
    intro i m g b hi hm h
    obtain ⟨m, rfl⟩ := tv_q hm
    have e : i = 2 ^ n := by omega
    subst e
    rw [wX_least_35]
    exact br_t (nI_le (Nat.le_refl _) (by omega)) (K g b h)
  | succ d ih =>
    intro i m g b hi hm h
    obtain ⟨m, rfl⟩ := tv_q hm
    rw [wX_least_35]
    have hi2 : i < 2 ^ n := by omega
    have hV : ∀ q v, tv_vx (tv_L aL) (tv_L aR) (tv_O aO) n q u t 27 v → -1000000000 < v := by
      rintro q v ⟨o, ho, _, rfl⟩
      have := tv_low (p := q) va ho hu ht
      omega
    have hW : ∀ v, tv_wx aL aR aO cH cF n c u t i v → -1000000000 < v := by
      rintro v ⟨q, _, _, z⟩
      exact hV q v z
    refine br_f (nI_ge (by omega) (by omega)) (tx_good hn hc hi2 rp (fun gd => br_f (by decide) (tx_gd hn (by omega) av hu ht (fun r b1 m1 => ?_))) (fun gd => br_t rfl (nm_r (nI_1 i) (ih (i + 1) m g b (by omega) (by omega) (tv_mx_c h ?_)))))
    · have un := tv_mx_un (P' := tv_wx aL aR aO cH cF n c u t (i + 1)) hW (hV i) h m1 (by
        intro v
        constructor
        · rintro ⟨q, hq, gq, ev⟩
          by_cases z : q = i
          · subst z; exact Or.inr ev
          · exact Or.inl ⟨q, by omega, gq, ev⟩
        · rintro (⟨q, hq, gq, ev⟩ | ev)
          · exact ⟨q, by omega, gq, ev⟩
          · exact ⟨i, by omega, gd, ev⟩)
      refine br_c (fun c1 => ?_) (fun c1 => ?_)
      · rw [tv_eI] at c1
        exact nm_r (nI_1 i) (ih (i + 1) m g b1 (by omega) (by omega) (un.2 (by omega)))
      · rw [tv_eI] at c1
        exact nm_r (nI_1 i) (ih (i + 1) m r b1 (by omega) (by omega) (un.1 (by omega)))
    · intro v
      constructor
      · rintro ⟨q, hq, gq, ev⟩
        by_cases z : q = i
        · subst z; exact absurd gq gd
        · exact ⟨q, by omega, gq, ev⟩
      · rintro ⟨q, hq, gq, ev⟩
        exact ⟨q, by omega, gq, ev⟩
theorem tx_pattern15 {post : Int32 → Prop} {n c s : Nat} (hn : n ≤ 8) (hc : c ≤ 16) (rp : tv_rp aL aR aO rl n) (K1 : ∀ q, s ≤ q → q < 2 ^ n → tv_g aL aR aO cH cF n c (-1) q → (∀ p, s ≤ p → p < q → ¬ tv_g aL aR aO cH cF n c (-1) p) → post (nI q)) (K0 : (∀ p, s ≤ p → p < 2 ^ n → ¬ tv_g aL aR aO cH cF n c (-1) p) → post (-3000)) :
    ∀ d i m : Nat, i + d = 2 ^ n → d < m → s ≤ i → (∀ p, s ≤ p → p < i → ¬ tv_g aL aR aO cH cF n c (-1) p) → wX_pattern_15 post (nI (2 ^ n)) (nI n) (nI c) fh ff fd fl aL aR aO cH cF lA lC rl bd m (nI i) := by
  have h8 := tv_p8 hn
  intro d
  induction d with
  | zero =>
    intro i m hi hm hs h
    obtain ⟨m, rfl⟩ := tv_q hm
    have e : i = 2 ^ n := by omega
    subst e
    rw [wX_pattern_15]
    exact br_t (nI_le (Nat.le_refl _) (by omega)) (K0 h)
  | succ d ih =>
    intro i m hi hm hs h
    obtain ⟨m, rfl⟩ := tv_q hm
    rw [wX_pattern_15]
    have hi2 : i < 2 ^ n := by omega
    refine br_f (nI_ge (by omega) (by omega)) (tx_good hn hc hi2 rp (fun g => br_f (by decide) (K1 i hs hi2 g h)) (fun g => br_t rfl (nm_r (nI_1 i) (ih (i + 1) m (by omega) (by omega) (by omega) ?_))))
    intro p h1 h2
    by_cases z : p = i
    · subst z; exact g
    · exact h p h1 (by omega)
theorem tx_patterns9 {post : Int32 → Prop} {n c : Nat} (hn : n ≤ 8) (hc : c ≤ 16) (rp : tv_rp aL aR aO rl n) (K : post (nI (tv_cn (tv_g aL aR aO cH cF n c (-1)) (2 ^ n)))) :
    ∀ d i m : Nat, i + d = 2 ^ n → d < m → wX_patterns_9 post (nI (2 ^ n)) (nI n) (nI c) fh ff fd fl aL aR aO cH cF lA lC rl bd m (nI (tv_cn (tv_g aL aR aO cH cF n c (-1)) i)) (nI i) := by
  have h8 := tv_p8 hn
  intro d
  induction d with
  | zero =>
    intro i m hi hm
    obtain ⟨m, rfl⟩ := tv_q hm
    have e : i = 2 ^ n := by omega
    subst e
    rw [wX_patterns_9]
    exact br_t (nI_le (Nat.le_refl _) (by omega)) K
  | succ d ih =>
    intro i m hi hm
    obtain ⟨m, rfl⟩ := tv_q hm
    rw [wX_patterns_9]
    have hi2 : i < 2 ^ n := by omega
    have k := ih (i + 1) m (by omega) (by omega)
    refine br_f (nI_ge (by omega) (by omega)) (tx_good hn hc hi2 rp (fun g => br_f (by decide) ?_) (fun g => br_t rfl ?_))
    · rw [tv_cn_t g] at k
      exact nm_r (nI_1 _) (nm_r (nI_1 i) k)
    · rw [tv_cn_f g] at k
      exact nm_r (nI_1 i) k
theorem tx_und56 {post : Int32 → Prop} {n : Nat} {x : Int32} (hn : n ≤ 8) (K : post (tv_us x n)) : ∀ d i m : Nat, i + d = n → d < m → wX_undecided_56 post x (nI n) fc fh ff fd fl aL aR aO cH cF lA lC rl bd m (tv_us x i) (nI i) := by
  intro d
  induction d with
  | zero =>
    intro i m hi hm
    obtain ⟨m, rfl⟩ := tv_q hm
    have e : i = n := by omega
    subst e
    rw [wX_undecided_56]
    exact br_t (nI_le (Nat.le_refl _) (by omega)) K
  | succ d ih =>
    intro i m hi hm
    obtain ⟨m, rfl⟩ := tv_q hm
    rw [wX_undecided_56]
    exact br_f (nI_ge (by omega) (by omega)) (nm_e (nm_r (nI_1 i) (ih (i + 1) m (by omega) (by omega))))
theorem tx_und12 {post : Int32 → Prop} {n c : Nat} (hn : n ≤ 8) (hc : c ≤ 16) (rp : tv_rp aL aR aO rl n) (K : post (tv_us ((tv_fo (tv_g aL aR aO cH cF n c (-1)) tv_un (0, 0) (2 ^ n)).1 &&& (tv_fo (tv_g aL aR aO cH cF n c (-1)) tv_un (0, 0) (2 ^ n)).2) n)) :
    ∀ d i m : Nat, i + d = 2 ^ n → d < m → wX_undecided_12 post (nI (2 ^ n)) (nI n) (nI c) fh ff fd fl aL aR aO cH cF lA lC rl bd m (tv_fo (tv_g aL aR aO cH cF n c (-1)) tv_un (0, 0) i).1 (tv_fo (tv_g aL aR aO cH cF n c (-1)) tv_un (0, 0) i).2 (nI i) := by
  have h8 := tv_p8 hn
  intro d
  induction d with
  | zero =>
    intro i m hi hm
    obtain ⟨m, rfl⟩ := tv_q hm
    have e : i = 2 ^ n := by omega
    subst e
    rw [wX_undecided_12]
    exact br_t (nI_le (Nat.le_refl _) (by omega)) (nm_e ⟨n + 1, tx_und56 hn K n 0 (n + 1) (by omega) (by omega)⟩)
  | succ d ih =>
    intro i m hi hm
    obtain ⟨m, rfl⟩ := tv_q hm
    rw [wX_undecided_12]
    have hi2 : i < 2 ^ n := by omega
    have k := ih (i + 1) m (by omega) (by omega)
    refine br_f (nI_ge (by omega) (by omega)) (tx_good hn hc hi2 rp (fun g => br_f (by decide) ?_) (fun g => br_t rfl ?_))
    · rw [tv_fo_t g] at k
      exact nm_e (nm_e (nm_r (nI_1 i) k))
    · rw [tv_fo_f g] at k
      exact nm_r (nI_1 i) k
theorem tx_shut7 {post : Int32 → Prop} {n c k : Nat} (hn : n ≤ 8) (hc : c ≤ 16) (hk : k < c) (rp : tv_rp aL aR aO rl n) (K1 : (∃ p, p < 2 ^ n ∧ tv_g aL aR aO cH cF n c (nI k) p ∧ ¬ tv_xm (cH k) (cF k) p) → post 1) (K0 : (∀ p, p < 2 ^ n → tv_g aL aR aO cH cF n c (nI k) p → tv_xm (cH k) (cF k) p) → post 0) :
    ∀ d i m : Nat, i + d = 2 ^ n → d < m → (∀ p, p < i → tv_g aL aR aO cH cF n c (nI k) p → tv_xm (cH k) (cF k) p) → wX_shutsOutAlone_7 post (nI k) (nI (2 ^ n)) (nI n) (nI c) fh ff fd fl aL aR aO cH cF lA lC rl bd m (nI i) := by
  have h8 := tv_p8 hn
  intro d
  induction d with
  | zero =>
    intro i m hi hm h
    obtain ⟨m, rfl⟩ := tv_q hm
    have e : i = 2 ^ n := by omega
    subst e
    rw [wX_shutsOutAlone_7]
    exact br_t (nI_le (Nat.le_refl _) (by omega)) (K0 h)
  | succ d ih =>
    intro i m hi hm h
    obtain ⟨m, rfl⟩ := tv_q hm
    rw [wX_shutsOutAlone_7]
    dsimp only
    rw [nI_clamp (show k < 2 ^ 31 by omega)]
    have w : vp_in (nI k) 16 := vp_in_nI (by omega) (by omega)
    have hi2 : i < 2 ^ n := by omega
    have nx : (tv_g aL aR aO cH cF n c (nI k) i → tv_xm (cH k) (cF k) i) → ∀ y, y = nI i + 1 → wX_shutsOutAlone_7 post (nI k) (nI (2 ^ n)) (nI n) (nI c) fh ff fd fl aL aR aO cH cF lA lC rl bd m y := fun g => nm_r (nI_1 i) (ih (i + 1) m (by omega) (by omega) (lt_s h g))
    exact br_f (nI_ge (by omega) (by omega)) (tx_real hn hi2 rp (fun f => br_f (by decide) ⟨w, w, tx_met (fun g => br_f (by decide) (nx (fun _ => g))) (fun g => br_t rfl (tx_mab hc (fun q => br_f (by decide) (K1 ⟨i, hi2, ⟨⟨hi2, f⟩, q⟩, g⟩)) (fun q => br_t rfl (nx (fun z => absurd z.2 q)))))⟩) (fun f => br_t rfl (nx (fun z => absurd z.1.2 f))))
theorem tx_spare4 {post : Int32 → Prop} {n c : Nat} (hn : n ≤ 8) (hc : c ≤ 16) (rp : tv_rp aL aR aO rl n) (K : post (nI (tv_cn (fun k => ∀ p, p < 2 ^ n → tv_g aL aR aO cH cF n c (nI k) p → tv_xm (cH k) (cF k) p) c))) :
    ∀ d k m : Nat, k + d = c → d < m → wX_spare_4 post (nI n) (nI c) fh ff fd fl aL aR aO cH cF lA lC rl bd m (nI (tv_cn (fun k => ∀ p, p < 2 ^ n → tv_g aL aR aO cH cF n c (nI k) p → tv_xm (cH k) (cF k) p) k)) (nI k) := by
  intro d
  induction d with
  | zero =>
    intro k m hi hm
    obtain ⟨m, rfl⟩ := tv_q hm
    have e : k = c := by omega
    subst e
    rw [wX_spare_4]
    exact br_t (nI_le (Nat.le_refl _) (by omega)) K
  | succ d ih =>
    intro k m hi hm
    obtain ⟨m, rfl⟩ := tv_q hm
    rw [wX_spare_4]
    have q := ih (k + 1) m (by omega) (by omega)
    refine br_f (nI_ge (by omega) (by omega)) ?_
    unfold wpX_shutsOutAlone
    dsimp only
    refine tx_count hn ⟨2 ^ n + 1, tx_shut7 hn hc (by omega) rp (fun z => br_f (by decide) ?_) (fun z => br_t rfl ?_) (2 ^ n) 0 (2 ^ n + 1) (by omega) (by omega) (fun p hp => absurd hp (by omega))⟩
    · rw [tv_cn_f (fun y => by obtain ⟨p, h1, h2, h3⟩ := z; exact h3 (y p h1 h2))] at q
      exact nm_r (nI_1 k) q
    · rw [tv_cn_t z] at q
      exact nm_r (nI_1 _) (nm_r (nI_1 k) q)
end
