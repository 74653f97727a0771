theorem tv_off {x : Int32} (h1 : -20 ≤ x.toInt) (h2 : x.toInt ≤ 20) : (-x - 1).toInt = -x.toInt - 1 := by
  have e1 : (1 : Int32).toInt = 1 := by decide
  have e2 := tv_negI (a := x) (by omega)
  rw [tv_subI (by omega) (by omega), e2, e1]
theorem tv_m1 : (-1 : Int32).toInt = -1 := by decide
theorem tv_z0 : (0 : Int32).toInt = 0 := by decide
theorem tv_nle {a b : Int32} (h : ¬ a ≤ b) : b < a := Int32.not_le.mp h
theorem tv_q {m d : Nat} (h : d < m) : ∃ q, m = q + 1 := ⟨m - 1, by omega⟩
section
variable {fa fc fh ff fd fl : Int32} {aL aR aO cH cF lA lC rl bd : Nat → Int32}
theorem tx_tighten {post : SX → Prop} {A : tv_M} {t u : Nat} {v : Int32} (ht : t < 7) (hu : u < 7) (h : tv_is bd A) (K : ∀ b', tv_is b' (tv_ti A t u v.toInt) → post (fa, fc, fh, ff, fd, fl, aL, aR, aO, cH, cF, lA, lC, rl, b')) : wpX_tighten post (fa, fc, fh, ff, fd, fl, aL, aR, aO, cH, cF, lA, lC, rl, bd) (nI t) (nI u) v := by
  unfold wpX_tighten
  dsimp only
  rw [tv_7, nI_clamp (show 7 * t + u < 2 ^ 31 by omega)]
  have w : vp_in (nI (7 * t + u)) 49 := vp_in_nI (by omega) (by omega)
  have e := h t u ht hu
  refine ⟨w, ?_, ?_⟩
  · intro c
    rw [tv_eI, e] at c
    apply K
    intro i j hi hj
    rw [h i j hi hj]
    unfold tv_ti
    rw [if_neg]
    rintro ⟨rfl, rfl, z⟩
    omega
  · intro c
    rw [tv_eI, e] at c
    refine ⟨w, ?_⟩
    rintro _ rfl
    apply K
    refine tv_is_upd ht hu h ?_ ?_
    · unfold tv_ti; rw [if_pos ⟨rfl, rfl, by omega⟩]
    · intro i j hi hj z
      unfold tv_ti
      rw [if_neg (fun q => z ⟨q.1, q.2.1⟩)]
theorem tx_order {post : SX → Prop} {A : tv_M} {x y r : Nat} (hx : x < 3) (hy : y < 3) (hr : r < 3) (h : tv_is bd A) (K : ∀ b', tv_is b' (tv_tl A (tv_cx1 x y r)) → post (fa, fc, fh, ff, fd, fl, aL, aR, aO, cH, cF, lA, lC, rl, b')) : wpX_boundByOrder post (fa, fc, fh, ff, fd, fl, aL, aR, aO, cH, cF, lA, lC, rl, bd) (nI x) (nI y) (nI r) := by
  unfold wpX_boundByOrder
  dsimp only
  have a3 : ∀ z, nI z + 3 = nI (z + 3) := fun z => nI_add z 3
  rw [a3 x, a3 y]
  have e0 : nI r = 0 ↔ r = 0 := nI_eq (a := r) (b := 0) (by omega) (by omega)
  have e1 : nI r = 1 ↔ r = 1 := nI_eq (a := r) (b := 1) (by omega) (by omega)
  by_cases c0 : r = 0
  · have l : tv_cx1 x y r = [(x, y, -1)] := by unfold tv_cx1; rw [if_pos c0]
    refine br_t (e0.mpr c0) (tx_tighten (by omega) (by omega) h (fun b1 h1 => K b1 ?_))
    rw [l]; rw [tv_m1] at h1; exact h1
  · by_cases c1 : r = 1
    · have l : tv_cx1 x y r = [(x, y, 0), (y, x, 0), (x + 3, y + 3, 0), (y + 3, x + 3, 0)] := by unfold tv_cx1; rw [if_neg c0, if_pos c1]
      refine br_f (fun z => c0 (e0.mp z)) (br_t (e1.mpr c1) (tx_tighten (by omega) (by omega) h (fun b1 h1 => tx_tighten (by omega) (by omega) h1 (fun b2 h2 => tx_tighten (by omega) (by omega) h2 (fun b3 h3 => tx_tighten (by omega) (by omega) h3 (fun b4 h4 => K b4 ?_))))))
      rw [l]; rw [tv_z0] at h4; exact h4
    · have l : tv_cx1 x y r = [(y, x, -1)] := by unfold tv_cx1; rw [if_neg c0, if_neg c1]
      refine br_f (fun z => c0 (e0.mp z)) (br_f (fun z => c1 (e1.mp z)) (tx_tighten (by omega) (by omega) h (fun b1 h1 => K b1 ?_)))
      rw [l]; rw [tv_m1] at h1; exact h1
theorem tx_atoms2 {post : SX → Prop} {n p : Nat} (hn : n ≤ 8) (hp : p < 2147483648) (av : tv_av aL aR aO n) (K : ∀ b', tv_is b' (tv_at 1000000000 (tv_L aL) (tv_L aR) (tv_O aO) p n) → post (nI n, fc, fh, ff, fd, fl, aL, aR, aO, cH, cF, lA, lC, rl, b')) :
    ∀ (d i m : Nat) (b : Nat → Int32), i + d = n → d < m → tv_is b (tv_at 1000000000 (tv_L aL) (tv_L aR) (tv_O aO) p i) → wX_boundByAtoms_2 post (nI p) m (nI i) (nI n) fc fh ff fd fl aL aR aO cH cF lA lC rl b := by
  intro d
  induction d with
  | zero =>
    intro i m b hi hm h
    obtain ⟨m, rfl⟩ := tv_q hm
    have e : i = n := by omega
    subst e
    rw [wX_boundByAtoms_2]
    exact br_t (nI_le (Nat.le_refl _) (by omega)) (K b h)
  | succ d ih =>
    intro i m b hi hm h
    obtain ⟨m, rfl⟩ := tv_q hm
    obtain ⟨ta, tb, h1, h2, h3, e1, e2, e3, e4⟩ := av i (by omega)
    rw [wX_boundByAtoms_2]
    dsimp only
    have w : vp_in (nI i) 8 := vp_in_nI (by omega) (by omega)
    have ec : (nI i).toNatClampNeg = i := nI_clamp (by omega)
    have eL : tv_L aL i = ta := by show (aL i).toNatClampNeg = ta; rw [e1]; exact nI_clamp (by omega)
    have eR : tv_L aR i = tb := by show (aR i).toNatClampNeg = tb; rw [e2]; exact nI_clamp (by omega)
    rw [ec, e1, e2, tv_bit hp (by omega)]
    refine br_f (nI_ge (by omega) (by omega)) ?_
    by_cases c : p / 2 ^ i % 2 = 1
    · refine br_t (by rw [c]; rfl) ⟨w, w, w, tx_tighten h1 h2 h (fun b' hb => nm_r (nI_1 i) (ih (i + 1) m b' (by omega) (by omega) ?_))⟩
      show tv_is b' (if p / 2 ^ i % 2 = 1 then _ else _)
      rw [if_pos c, eL, eR]; exact hb
    · have c0 : p / 2 ^ i % 2 = 0 := by
        have := Nat.mod_lt (p / 2 ^ i) (show 0 < 2 by decide)
        omega
      refine br_f (by rw [c0]; decide) ⟨w, w, w, tx_tighten h2 h1 h (fun b' hb => nm_r (nI_1 i) (ih (i + 1) m b' (by omega) (by omega) ?_))⟩
      show tv_is b' (if p / 2 ^ i % 2 = 1 then _ else _)
      rw [tv_off e3 e4] at hb
      rw [if_neg c, eL, eR]; exact hb
theorem tx_atoms {post : SX → Prop} {n p : Nat} (hn : n ≤ 8) (hp : p < 2147483648) (av : tv_av aL aR aO n) (h : tv_is bd (tv_at 1000000000 (tv_L aL) (tv_L aR) (tv_O aO) p 0)) (K : ∀ b', tv_is b' (tv_at 1000000000 (tv_L aL) (tv_L aR) (tv_O aO) p n) → post (nI n, fc, fh, ff, fd, fl, aL, aR, aO, cH, cF, lA, lC, rl, b')) : wpX_boundByAtoms post (nI n, fc, fh, ff, fd, fl, aL, aR, aO, cH, cF, lA, lC, rl, bd) (nI p) := by
  unfold wpX_boundByAtoms
  exact ⟨n + 1, tx_atoms2 hn hp av K n 0 (n + 1) bd (by omega) (by omega) h⟩
theorem tx_drop24 {post : SX → Prop} (K : ∀ b', tv_is b' (fun i j => if i = j then 0 else 1000000000) → post (fa, fc, fh, ff, fd, fl, aL, aR, aO, cH, cF, lA, lC, rl, b')) :
    ∀ (d t m : Nat) (b : Nat → Int32), t + d = 7 → d < m → tv_is b (fun i j => if i = j ∧ i < t then 0 else 1000000000) → wX_dropBounds_24 post fa fc fh ff fd fl m (nI t) aL aR aO cH cF lA lC rl b := by
  intro d
  induction d with
  | zero =>
    intro t m b hi hm h
    obtain ⟨m, rfl⟩ := tv_q hm
    have e : t = 7 := by omega
    subst e
    rw [wX_dropBounds_24]
    refine br_t (nI_le (Nat.le_refl _) (by omega)) (K b ?_)
    intro i j h1 h2
    rw [h i j h1 h2]
    dsimp only
    by_cases z : i = j
    · rw [if_pos z, if_pos ⟨z, h1⟩]
    · rw [if_neg z, if_neg (fun q => z q.1)]
  | succ d ih =>
    intro t m b hi hm h
    obtain ⟨m, rfl⟩ := tv_q hm
    rw [wX_dropBounds_24]
    dsimp only
    rw [tv_7, nI_clamp (show 7 * t + t < 2 ^ 31 by omega)]
    refine br_f (nI_ge (b := 7) (by omega) (by decide)) ⟨vp_in_nI (by omega) (by omega), nm_e (nm_r (nI_1 t) (ih (t + 1) m _ (by omega) (by omega) ?_))⟩
    refine tv_is_upd (by omega) (by omega) h ?_ ?_
    · rw [if_pos ⟨rfl, by omega⟩]; exact tv_z0
    · intro i j h1 h2 z
      by_cases y : i = j
      · by_cases y2 : i < t
        · rw [if_pos ⟨y, by omega⟩, if_pos ⟨y, y2⟩]
        · rw [if_neg (by omega), if_neg (fun q => y2 q.2)]
      · rw [if_neg (fun q => y q.1), if_neg (fun q => y q.1)]
theorem tx_drop2 {post : SX → Prop} (K : ∀ b', tv_is b' (fun i j => if i = j then 0 else 1000000000) → post (fa, fc, fh, ff, fd, fl, aL, aR, aO, cH, cF, lA, lC, rl, b')) :
    ∀ (d k m : Nat) (b : Nat → Int32), k + d = 49 → d < m → (∀ q, q < k → b q = 1000000000) → wX_dropBounds_2 post fa fc fh ff fd fl m (nI k) aL aR aO cH cF lA lC rl b := by
  intro d
  induction d with
  | zero =>
    intro k m b hi hm h
    obtain ⟨m, rfl⟩ := tv_q hm
    have e : k = 49 := by omega
    subst e
    rw [wX_dropBounds_2]
    refine br_t (nI_le (Nat.le_refl _) (by omega)) ⟨8, tx_drop24 K 7 0 8 b (by omega) (by omega) ?_⟩
    intro i j h1 h2
    rw [h _ (by omega)]
    dsimp only
    rw [if_neg (by omega)]
    exact tv_TI
  | succ d ih =>
    intro k m b hi hm h
    obtain ⟨m, rfl⟩ := tv_q hm
    rw [wX_dropBounds_2]
    dsimp only
    rw [nI_clamp (show k < 2 ^ 31 by omega)]
    refine br_f (nI_ge (b := 49) (by omega) (by decide)) ⟨vp_in_nI (by omega) (by omega), nm_e (nm_r (nI_1 k) (ih (k + 1) m _ (by omega) (by omega) ?_))⟩
    intro q hq
    by_cases z : q = k
    · subst z; exact pk_us
    · rw [pk_un z]; exact h q (by omega)
theorem tx_drop {post : SX → Prop} (K : ∀ b', tv_is b' (fun i j => if i = j then 0 else 1000000000) → post (fa, fc, fh, ff, fd, fl, aL, aR, aO, cH, cF, lA, lC, rl, b')) : wpX_dropBounds post (fa, fc, fh, ff, fd, fl, aL, aR, aO, cH, cF, lA, lC, rl, bd) := by
  unfold wpX_dropBounds
  exact ⟨50, tx_drop2 K 49 0 50 bd (by omega) (by omega) (fun q hq => absurd hq (by omega))⟩
theorem tx_cl120 {post : Int32 → SX → Prop} (K1 : (∀ t, t < 7 → ¬ (bd (7 * t + t)).toInt < 0) → post 1 (fa, fc, fh, ff, fd, fl, aL, aR, aO, cH, cF, lA, lC, rl, bd)) (K0 : (∃ t, t < 7 ∧ (bd (7 * t + t)).toInt < 0) → post 0 (fa, fc, fh, ff, fd, fl, aL, aR, aO, cH, cF, lA, lC, rl, bd)) :
    ∀ d t m : Nat, t + d = 7 → d < m → (∀ q, q < t → ¬ (bd (7 * q + q)).toInt < 0) → wX_closeBounds_120 post fa fc fh ff fd fl aL aR aO cH cF lA lC rl bd m (nI t) := by
  intro d
  induction d with
  | zero =>
    intro t m hi hm h
    obtain ⟨m, rfl⟩ := tv_q hm
    have e : t = 7 := by omega
    subst e
    rw [wX_closeBounds_120]
    exact br_t (nI_le (Nat.le_refl _) (by omega)) (K1 h)
  | succ d ih =>
    intro t m hi hm h
    obtain ⟨m, rfl⟩ := tv_q hm
    rw [wX_closeBounds_120]
    dsimp only
    rw [tv_7, nI_clamp (show 7 * t + t < 2 ^ 31 by omega)]
    refine br_f (nI_ge (b := 7) (by omega) (by decide)) ⟨vp_in_nI (by omega) (by omega), ?_, ?_⟩
    · intro c
      rw [tv_eI, tv_z0] at c
      refine nm_r (nI_1 t) (ih (t + 1) m (by omega) (by omega) ?_)
      intro q hq
      by_cases z : q = t
      · subst z; omega
      · exact h q (by omega)
    · intro c
      rw [tv_eI, tv_z0] at c
      exact K0 ⟨t, by omega, by omega⟩
theorem tx_cl31 {post : Int32 → SX → Prop} {J2 J10 : Int32 → (Nat → Int32) → (Nat → Int32) → (Nat → Int32) → (Nat → Int32) → (Nat → Int32) → (Nat → Int32) → (Nat → Int32) → (Nat → Int32) → (Nat → Int32) → Prop} {S : tv_M} {w t : Nat} {f : Int32} (hB : tv_B 21 S) (hw : w < 7) (ht : t < 7) (K : ∀ b', tv_iv S w (7 * (t + 1)) b' → J10 (nI (t + 1)) aL aR aO cH cF lA lC rl b') :
    ∀ (d u m : Nat) (b : Nat → Int32), u + d = 7 → d < m → tv_ir S w t u f b → wX_closeBounds_31 post J2 J10 (nI w) (nI t) f fa fc fh ff fd fl m (nI u) aL aR aO cH cF lA lC rl b := by
  intro d
  induction d with
  | zero =>
    intro u m b hi hm h
    obtain ⟨m, rfl⟩ := tv_q hm
    have e : u = 7 := by omega
    subst e
    rw [wX_closeBounds_31]
    exact br_t (nI_le (Nat.le_refl _) (by omega)) (nm_r (nI_1 t) (K b (tv_ir_end h)))
  | succ d ih =>
    intro u m b hi hm h
    obtain ⟨m, rfl⟩ := tv_q hm
    rw [wX_closeBounds_31]
    dsimp only
    rw [tv_7, tv_7, nI_clamp (show 7 * w + u < 2 ^ 31 by omega), nI_clamp (show 7 * t + u < 2 ^ 31 by omega)]
    have hu : u < 7 := by omega
    have w1 : vp_in (nI (7 * w + u)) 49 := vp_in_nI (by omega) (by omega)
    have w2 : vp_in (nI (7 * t + u)) 49 := vp_in_nI (by omega) (by omega)
    refine br_f (nI_ge (b := 7) (by omega) (by decide)) (br_c (fun c => ?_) (fun c => ⟨w1, nm_e (br_c (fun c2 => ?_) (fun c2 => ⟨w2, br_c (fun c3 => ?_) (fun c3 => ?_)⟩))⟩))
    · rw [tv_eI, tv_TI] at c
      exact nm_r (nI_1 t) (K b (tv_ir_end (tv_ir_skip ht (by omega) (by omega) h)))
    · refine nm_r (nI_1 u) (ih (u + 1) m b (by omega) (by omega) (tv_ir_keep hB hw ht hu h ?_))
      rintro ⟨_, z, _⟩
      exact absurd c2 (Int32.not_le.mpr z)
    · refine nm_r (nI_1 u) (ih (u + 1) m b (by omega) (by omega) (tv_ir_keep hB hw ht hu h ?_))
      rintro ⟨_, _, z⟩
      exact absurd c3 (Int32.not_le.mpr z)
    · exact ⟨w2, nm_e (nm_r (nI_1 u) (ih (u + 1) m _ (by omega) (by omega) (tv_ir_store hB hw ht hu h (tv_nle c) (tv_nle c2) (tv_nle c3))))⟩
theorem tx_cl10 {post : Int32 → SX → Prop} {J2 : Int32 → (Nat → Int32) → (Nat → Int32) → (Nat → Int32) → (Nat → Int32) → (Nat → Int32) → (Nat → Int32) → (Nat → Int32) → (Nat → Int32) → (Nat → Int32) → Prop} {S : tv_M} {w : Nat} (hB : tv_B 21 S) (hw : w < 7) (K : ∀ b', tv_iv S w 49 b' → J2 (nI (w + 1)) aL aR aO cH cF lA lC rl b') :
    ∀ (d t m : Nat) (b : Nat → Int32), t + d = 7 → d < m → tv_iv S w (7 * t) b → wX_closeBounds_10 post J2 (nI w) fa fc fh ff fd fl m (nI t) aL aR aO cH cF lA lC rl b := by
  intro d
  induction d with
  | zero =>
    intro t m b hi hm h
    obtain ⟨m, rfl⟩ := tv_q hm
    have e : t = 7 := by omega
    subst e
    rw [wX_closeBounds_10]
    exact br_t (nI_le (Nat.le_refl _) (by omega)) (nm_r (nI_1 w) (K b h))
  | succ d ih =>
    intro t m b hi hm h
    obtain ⟨m, rfl⟩ := tv_q hm
    rw [wX_closeBounds_10]
    dsimp only
    rw [tv_7, nI_clamp (show 7 * t + w < 2 ^ 31 by omega)]
    have ht : t < 7 := by omega
    exact br_f (nI_ge (b := 7) (by omega) (by decide)) ⟨vp_in_nI (by omega) (by omega), nm_e ⟨8, tx_cl31 hB hw ht (fun b' hb => ih (t + 1) m b' (by omega) (by omega) hb) 7 0 8 b (by omega) (by omega) (tv_ir_start hw ht h)⟩⟩
theorem tx_cl2 {post : Int32 → SX → Prop} {S : tv_M} (hB : tv_B 21 S) (hd : ∀ i, i < 7 → S i i ≤ 0) (K1 : tv_Good S → ∀ b', tv_is b' (tv_fw S 7) → post 1 (fa, fc, fh, ff, fd, fl, aL, aR, aO, cH, cF, lA, lC, rl, b')) (K0 : ¬ tv_Good S → ∀ b', post 0 (fa, fc, fh, ff, fd, fl, aL, aR, aO, cH, cF, lA, lC, rl, b')) :
    ∀ (d w m : Nat) (b : Nat → Int32), w + d = 7 → d < m → tv_ic S w b → wX_closeBounds_2 post fa fc fh ff fd fl m (nI w) aL aR aO cH cF lA lC rl b := by
  intro d
  induction d with
  | zero =>
    intro w m b hi hm h
    obtain ⟨m, rfl⟩ := tv_q hm
    have e : w = 7 := by omega
    subst e
    rw [wX_closeBounds_2]
    have q := tv_ic_last h
    exact br_t (nI_le (Nat.le_refl _) (by omega)) ⟨8, tx_cl120 (fun z => K1 (q.1 z).1 b (q.1 z).2) (fun z => K0 (q.2 z) b) 7 0 8 (by omega) (by omega) (fun q hq => absurd hq (by omega))⟩
  | succ d ih =>
    intro w m b hi hm h
    obtain ⟨m, rfl⟩ := tv_q hm
    rw [wX_closeBounds_2]
    have hw : w < 7 := by omega
    exact br_f (nI_ge (b := 7) (by omega) (by decide)) ⟨8, tx_cl10 hB hw (fun b' hb => ih (w + 1) m b' (by omega) (by omega) (tv_iv_end hb)) 7 0 8 b (by omega) (by omega) (tv_iv_start hd hw h)⟩
theorem tx_close {post : Int32 → SX → Prop} {S : tv_M} (hB : tv_B 21 S) (hd : ∀ i, i < 7 → S i i ≤ 0) (h : tv_is bd S) (K1 : tv_Good S → ∀ b', tv_is b' (tv_fw S 7) → post 1 (fa, fc, fh, ff, fd, fl, aL, aR, aO, cH, cF, lA, lC, rl, b')) (K0 : ¬ tv_Good S → ∀ b', post 0 (fa, fc, fh, ff, fd, fl, aL, aR, aO, cH, cF, lA, lC, rl, b')) : wpX_closeBounds post (fa, fc, fh, ff, fd, fl, aL, aR, aO, cH, cF, lA, lC, rl, bd) := by
  unfold wpX_closeBounds
  exact ⟨8, tx_cl2 hB hd K1 K0 7 0 8 bd (by omega) (by omega) (Or.inl h)⟩
end
