theorem tv_g_lt {aL aR aO cH cF : Nat → Int32} {n c p : Nat} {but : Int32} (h : tv_g aL aR aO cH cF n c but p) : p < 2 ^ n := h.1.1
theorem tv_nx_some {G : Nat → Prop} {r : Int32} {p : Nat} (hp : p < 256) (g : G p) (h : tv_nx G 0 r) : ¬ r < 0 := by
  rcases h with ⟨q, rfl, _, hq, _⟩ | ⟨_, h⟩
  · exact nI_pos (by omega)
  · exact absurd g (h p (by omega) hp)
theorem tv_nx_none {G : Nat → Prop} {r : Int32} (g : ∀ p, p < 256 → ¬ G p) (h : tv_nx G 0 r) : r < 0 := by
  rcases h with ⟨q, rfl, _, hq, z, _⟩ | ⟨e, h⟩
  · exact absurd z (g q hq)
  · rw [e]; exact tv_3k
section
variable {aL aR aO cH cF : Nat → Int32} {n c : Nat}
theorem tv_up {P : Nat → Prop} {but : Int32} (hn : n ≤ 8) (h : ∃ p, p < 2 ^ n ∧ tv_g aL aR aO cH cF n c but p ∧ P p) : ∃ p, p < 256 ∧ tv_g aL aR aO cH cF n c but p ∧ P p := by
  have h8 := tv_p8 hn
  obtain ⟨p, hp, q⟩ := h
  exact ⟨p, by omega, q⟩
theorem tv_dn {P : Nat → Prop} {but : Int32} (h : ∃ p, p < 256 ∧ tv_g aL aR aO cH cF n c but p ∧ P p) : ∃ p, p < 2 ^ n ∧ tv_g aL aR aO cH cF n c but p ∧ P p := by
  obtain ⟨p, hp, g, q⟩ := h
  exact ⟨p, g.1.1, g, q⟩
theorem tv_cn256 (hn : n ≤ 8) (but : Int32) : tv_cn (tv_g aL aR aO cH cF n c but) 256 = tv_cn (tv_g aL aR aO cH cF n c but) (2 ^ n) :=
  tv_fo_gap (tv_p8 hn) (fun q h1 h2 g => by have := g.1.1; omega)
theorem tv_fo256 (hn : n ≤ 8) (but : Int32) : tv_fo (tv_g aL aR aO cH cF n c but) tv_un (0, 0) 256 = tv_fo (tv_g aL aR aO cH cF n c but) tv_un (0, 0) (2 ^ n) :=
  tv_fo_gap (tv_p8 hn) (fun q h1 h2 g => by have := g.1.1; omega)
theorem tv_m1n {k : Nat} (h : k < 16) : ¬ nI k = -1 := (by decide +kernel : ∀ k, k < 16 → ¬ nI k = -1) k h
theorem tv_sp (hn : n ≤ 8) (hc : c ≤ 16) {k : Nat} (hk : k < c) : (∀ p, p < 2 ^ n → tv_g aL aR aO cH cF n c (nI k) p → tv_xm (cH k) (cF k) p) ↔ tv_cn (tv_g aL aR aO cH cF n c (nI k)) 256 = tv_cn (tv_g aL aR aO cH cF n c (-1)) 256 := by
  rw [tv_cn_eq 256 (fun p _ g => ⟨g.1, fun j hj _ => g.2 j hj (tv_m1n (by omega))⟩)]
  constructor
  · intro h p hp g
    refine ⟨g.1, fun j hj _ => ?_⟩
    by_cases z : j = k
    · subst z; exact h p g.1.1 g
    · exact g.2 j hj (fun y => z ((nI_eq (by omega) (by omega)).mp y))
  · intro h p hp g
    have h8 := tv_p8 hn
    exact (h p (by omega) g).2 k hk (tv_m1n (by omega))
end
theorem i_vc_possible {k : Nat} {u : SX} {v : SY} (I : i_Rel k u v) (hk : k + 4 ≤ 2048) : wpX_possible (fun r => wpY_possible (fun r' v' => r' = r ∧ i_Rel (k + 4) u v') v) u := by
  obtain ⟨n, c, d, l, fh, ff, kn, aL, aR, aO, cH, cF, lA, lC, rl, bd, li, sz, fe, mo, rfl, rfl, R⟩ := I
  have R' := R
  obtain ⟨⟨hn, hc, hd, hl⟩, av, lv, cs, ⟨es, cl⟩, rp, kk⟩ := R
  have h8 := tv_p8 hn
  unfold wpX_possible wpY_possible
  dsimp only
  refine tx_some hn hc rp (fun h => ⟨rfl, ?_⟩) (fun h => ⟨rfl, ?_⟩)
  · obtain ⟨p, hp, g⟩ := h
    exact ty_next (s := 0) hn hc av cs kk (by omega) (fun r f' b' kr hr => br_f (tv_nx_some (by omega) g hr) ⟨rfl, tv_mk (tv_Rk R' kr)⟩)
  · exact ty_next (s := 0) hn hc av cs kk (by omega) (fun r f' b' kr hr => br_t (tv_nx_none (fun p _ g => h p g.1.1 g) hr) ⟨rfl, tv_mk (tv_Rk R' kr)⟩)
theorem i_vc_without {k : Nat} {u : SX} {v : SY} (I : i_Rel k u v) (hk : k + 4 ≤ 2048) (v1 : Int32) : wpX_without (fun r => wpY_without (fun r' v' => r' = r ∧ i_Rel (k + 4) u v') v v1) u v1 := by
  obtain ⟨n, c, d, l, fh, ff, kn, aL, aR, aO, cH, cF, lA, lC, rl, bd, li, sz, fe, mo, rfl, rfl, R⟩ := I
  have R' := R
  obtain ⟨⟨hn, hc, hd, hl⟩, av, lv, cs, ⟨es, cl⟩, rp, kk⟩ := R
  have h8 := tv_p8 hn
  unfold wpX_without wpY_without
  dsimp only
  by_cases h0 : v1 < 0
  · exact br_t h0 (br_t h0 ⟨rfl, tv_mk R'⟩)
  · by_cases h1 : nI c ≤ v1
    · exact br_f h0 (br_t h1 (br_f h0 (br_t h1 ⟨rfl, tv_mk R'⟩)))
    · refine br_f h0 (br_f h1 (tx_some hn hc rp (fun h => br_f (by decide) (br_f h0 (br_f h1 ?_))) (fun h => br_t rfl (br_f h0 (br_f h1 ?_)))))
      · obtain ⟨p, hp, g⟩ := h
        exact ty_next (s := 0) hn hc av cs kk (by omega) (fun r f' b' kr hr => br_f (tv_nx_some (by omega) g hr) ⟨rfl, tv_mk (tv_Rk R' kr)⟩)
      · exact ty_next (s := 0) hn hc av cs kk (by omega) (fun r f' b' kr hr => br_t (tv_nx_none (fun p _ g => h p g.1.1 g) hr) ⟨rfl, tv_mk (tv_Rk R' kr)⟩)
theorem i_vc_implied {k : Nat} {u : SX} {v : SY} (I : i_Rel k u v) (hk : k + 4 ≤ 2048) (v1 : Int32) : wpX_implied (fun r => wpY_implied (fun r' v' => r' = r ∧ i_Rel (k + 4) u v') v v1) u v1 := by
  obtain ⟨n, c, d, l, fh, ff, kn, aL, aR, aO, cH, cF, lA, lC, rl, bd, li, sz, fe, mo, rfl, rfl, R⟩ := I
  have R' := R
  obtain ⟨⟨hn, hc, hd, hl⟩, av, lv, cs, ⟨es, cl⟩, rp, kk⟩ := R
  have h8 := tv_p8 hn
  unfold wpX_implied wpY_implied
  dsimp only
  rcases tv_tm v1 (show 2 * n < 2 ^ 31 by omega) with h | ⟨j, hj, rfl⟩
  · exact tx_lit0 h (br_t rfl (ty_lit0 hn h (br_t rfl ⟨rfl, tv_mk R'⟩)))
  · have hj6 : j < 16 := by omega
    refine tx_lit1 hn hj (br_f (by decide) (tx_held hj6 (tx_fail hj6 (tx_count hn ⟨2 ^ n + 1, tx_implied29 hn hc rp (fun h => ?_) (fun h => ?_) (2 ^ n) 0 (2 ^ n + 1) (by omega) (by omega) (fun p hp => absurd hp (by omega))⟩))))
    · refine ty_lit1 hn hj (br_f (by decide) (ty_next (s := 0) hn hc av cs kk (by omega) (fun r f' b' kr hr => ⟨257, ty_implied17 hn hc av cs hj6 (fun z f b kr => ⟨rfl, tv_mk (tv_Rk R' kr)⟩) (fun z => ?_) 257 0 r f' b' (by omega) kr hr (fun p hp => absurd hp (by omega))⟩)))
      obtain ⟨p, hp, g, y⟩ := z
      exact absurd ((tv_xm_lit hj6 hp).mp (h p g.1.1 g)) y
    · refine ty_lit1 hn hj (br_f (by decide) (ty_next (s := 0) hn hc av cs kk (by omega) (fun r f' b' kr hr => ⟨257, ty_implied17 hn hc av cs hj6 (fun z => ?_) (fun z f b kr => ⟨rfl, tv_mk (tv_Rk R' kr)⟩) 257 0 r f' b' (by omega) kr hr (fun p hp => absurd hp (by omega))⟩)))
      obtain ⟨p, hp, g, y⟩ := h
      exact absurd ((tv_xm_lit hj6 (by omega)).mpr (z p (by omega) g)) y
theorem i_vc_equal {k : Nat} {u : SX} {v : SY} (I : i_Rel k u v) (hk : k + 4 ≤ 2048) (v1 : Int32) (v2 : Int32) : wpX_equal (fun r u' => wpY_equal (fun r' v' => r' = r ∧ i_Rel (k + 4) u' v') v v1 v2) u v1 v2 := by
  obtain ⟨n, c, d, l, fh, ff, kn, aL, aR, aO, cH, cF, lA, lC, rl, bd, li, sz, fe, mo, rfl, rfl, R⟩ := I
  have R' := R
  obtain ⟨⟨hn, hc, hd, hl⟩, av, lv, cs, ⟨es, cl⟩, rp, kk⟩ := R
  have va := tv_av_va av
  unfold wpX_equal wpY_equal
  dsimp only
  rcases tv_tm v1 (show 7 < 2 ^ 31 by omega) with h | ⟨a, ha, rfl⟩
  · exact tx_term0 h (br_t rfl (ty_term0 h (br_t rfl ⟨rfl, tv_mk R'⟩)))
  · refine tx_term1 ha (br_f (by decide) ?_)
    rcases tv_tm v2 (show 7 < 2 ^ 31 by omega) with h | ⟨b, hb, rfl⟩
    · exact tx_term0 h (br_t rfl (ty_term1 ha (br_f (by decide) (ty_term0 h (br_t rfl ⟨rfl, tv_mk R'⟩)))))
    · refine tx_term1 hb (br_f (by decide) (tx_differ hn hc av rp ha hb (fun h b1 => br_f (by decide) ?_) (fun h b1 => br_t rfl ?_)))
      · refine ty_term1 ha (br_f (by decide) (ty_term1 hb (br_f (by decide) (ty_differ hn hc av cs kk ha hb (fun h' f' b' kr => br_f (by decide) ⟨rfl, tv_mk (tv_Rk R' kr)⟩) (fun h' => ?_)))))
        obtain ⟨p, hp, g, y⟩ := tv_up hn h
        exact absurd ((tv_DXY va ha hb).mp y) (h' p hp g)
      · refine ty_term1 ha (br_f (by decide) (ty_term1 hb (br_f (by decide) (ty_differ hn hc av cs kk ha hb (fun h' => ?_) (fun h' f' b' kr => br_t rfl ⟨rfl, tv_mk (tv_Rk R' kr)⟩)))))
        obtain ⟨p, hp, g, y⟩ := tv_dn h'
        exact absurd ((tv_DXY va ha hb).mpr y) (h p hp g)
theorem i_vc_apart {k : Nat} {u : SX} {v : SY} (I : i_Rel k u v) (hk : k + 4 ≤ 2048) (v1 : Int32) (v2 : Int32) : wpX_apart (fun r u' => wpY_apart (fun r' v' => r' = r ∧ i_Rel (k + 4) u' v') v v1 v2) u v1 v2 := by
  obtain ⟨n, c, d, l, fh, ff, kn, aL, aR, aO, cH, cF, lA, lC, rl, bd, li, sz, fe, mo, rfl, rfl, R⟩ := I
  have R' := R
  obtain ⟨⟨hn, hc, hd, hl⟩, av, lv, cs, ⟨es, cl⟩, rp, kk⟩ := R
  have va := tv_av_va av
  unfold wpX_apart wpY_apart
  dsimp only
  rcases tv_tm v1 (show 7 < 2 ^ 31 by omega) with h | ⟨a, ha, rfl⟩
  · exact tx_term0 h (br_t rfl (ty_term0 h (br_t rfl ⟨rfl, tv_mk R'⟩)))
  · refine tx_term1 ha (br_f (by decide) ?_)
    rcases tv_tm v2 (show 7 < 2 ^ 31 by omega) with h | ⟨b, hb, rfl⟩
    · exact tx_term0 h (br_t rfl (ty_term1 ha (br_f (by decide) (ty_term0 h (br_t rfl ⟨rfl, tv_mk R'⟩)))))
    · refine tx_term1 hb (br_f (by decide) (tx_differ hn hc av rp ha hb (fun h b1 => br_f (by decide) ?_) (fun h b1 => br_t rfl ?_)))
      · refine ty_term1 ha (br_f (by decide) (ty_term1 hb (br_f (by decide) (ty_differ hn hc av cs kk ha hb (fun h' f' b' kr => br_f (by decide) ⟨rfl, tv_mk (tv_Rk R' kr)⟩) (fun h' => ?_)))))
        obtain ⟨p, hp, g, y⟩ := tv_up hn h
        exact absurd ((tv_DXY va ha hb).mp y) (h' p hp g)
      · refine ty_term1 ha (br_f (by decide) (ty_term1 hb (br_f (by decide) (ty_differ hn hc av cs kk ha hb (fun h' => ?_) (fun h' f' b' kr => br_t rfl ⟨rfl, tv_mk (tv_Rk R' kr)⟩)))))
        obtain ⟨p, hp, g, y⟩ := tv_dn h'
        exact absurd ((tv_DXY va ha hb).mpr y) (h p hp g)
theorem i_vc_pattern {k : Nat} {u : SX} {v : SY} (I : i_Rel k u v) (hk : k + 4 ≤ 2048) (v1 : Int32) : wpX_pattern (fun r => wpY_pattern (fun r' v' => r' = r ∧ i_Rel (k + 4) u v') v v1) u v1 := by
  obtain ⟨n, c, d, l, fh, ff, kn, aL, aR, aO, cH, cF, lA, lC, rl, bd, li, sz, fe, mo, rfl, rfl, R⟩ := I
  have R' := R
  obtain ⟨⟨hn, hc, hd, hl⟩, av, lv, cs, ⟨es, cl⟩, rp, kk⟩ := R
  have h8 := tv_p8 hn
  unfold wpX_pattern wpY_pattern
  dsimp only
  have f1 : ∀ s q r, s ≤ q → tv_g aL aR aO cH cF n c (-1) q → (∀ p, s ≤ p → p < q → ¬ tv_g aL aR aO cH cF n c (-1) p) → tv_nx (tv_g aL aR aO cH cF n c (-1)) s r → r = nI q := by
    intro s q r hs g h hr
    have hq := tv_g_lt g
    rcases hr with ⟨x, e, h1, h2, h3, h4⟩ | ⟨_, h1⟩
    · by_cases z : x = q
      · subst z; exact e
      · by_cases y : x < q
        · exact absurd h3 (h x h1 y)
        · exact absurd g (h4 q hs (by omega))
    · exact absurd g (h1 q hs (by omega))
  have f0 : ∀ s r, (∀ p, s ≤ p → p < 2 ^ n → ¬ tv_g aL aR aO cH cF n c (-1) p) → tv_nx (tv_g aL aR aO cH cF n c (-1)) s r → r = -3000 := by
    intro s r h hr
    rcases hr with ⟨x, e, h1, h2, h3, h4⟩ | ⟨e, _⟩
    · exact absurd h3 (h x h1 h3.1.1)
    · exact e
  by_cases h0 : v1 < 0
  · have a0 : ¬ 0 ≤ v1 := Int32.not_le.mpr h0
    have a1 : v1 ≤ 0 := Int32.le_of_lt h0
    refine tx_count hn (br_t a1 ⟨2 ^ n + 1, tx_pattern15 (s := 0) hn hc rp (fun q hs hq g h => ?_) (fun h => ?_) (2 ^ n) 0 (2 ^ n + 1) (by omega) (by omega) (Nat.le_refl 0) (fun p _ hp => absurd hp (by omega))⟩)
    · exact ty_nextn hn hc av cs kk a0 (fun r f' b' kr hr => ⟨f1 0 q r hs g h hr, tv_mk (tv_Rk R' kr)⟩)
    · exact ty_nextn hn hc av cs kk a0 (fun r f' b' kr hr => ⟨f0 0 r h hr, tv_mk (tv_Rk R' kr)⟩)
  · obtain ⟨s, hs31, rfl⟩ := nI_of h0
    have Y1 : ∀ q, s ≤ q → q < 2 ^ n → tv_g aL aR aO cH cF n c (-1) q → (∀ p, s ≤ p → p < q → ¬ tv_g aL aR aO cH cF n c (-1) p) → wpY_next (fun r_1 u => match u with | (a1, a2, a3, a4, a5, a6, a7, a8, a9, a10, a11, a12, a13) => r_1 = nI q ∧ i_Rel (k + 4) (nI n, nI c, fh, ff, nI d, nI l, aL, aR, aO, cH, cF, lA, lC, rl, bd) (a1, a2, a3, a4, a5, a6, a7, a8, a9, a10, a11, a12, a13)) (nI n, nI c, nI l, kn, aL, aR, aO, li, sz, lA, lC, fe, mo) (nI s) (-1) :=
      fun q hs hq g h => ty_next hn hc av cs kk hs31 (fun r f' b' kr hr => ⟨f1 s q r hs g h hr, tv_mk (tv_Rk R' kr)⟩)
    have Y0 : (∀ p, s ≤ p → p < 2 ^ n → ¬ tv_g aL aR aO cH cF n c (-1) p) → wpY_next (fun r_1 u => match u with | (a1, a2, a3, a4, a5, a6, a7, a8, a9, a10, a11, a12, a13) => r_1 = -3000 ∧ i_Rel (k + 4) (nI n, nI c, fh, ff, nI d, nI l, aL, aR, aO, cH, cF, lA, lC, rl, bd) (a1, a2, a3, a4, a5, a6, a7, a8, a9, a10, a11, a12, a13)) (nI n, nI c, nI l, kn, aL, aR, aO, li, sz, lA, lC, fe, mo) (nI s) (-1) :=
      fun h => ty_next hn hc av cs kk hs31 (fun r f' b' kr hr => ⟨f0 s r h hr, tv_mk (tv_Rk R' kr)⟩)
    refine tx_count hn ?_
    by_cases z : s = 0
    · subst z
      exact br_t (nI_le (b := 0) (Nat.le_refl 0) (by omega)) ⟨2 ^ n + 1, tx_pattern15 (s := 0) hn hc rp Y1 Y0 (2 ^ n) 0 (2 ^ n + 1) (by omega) (by omega) (Nat.le_refl 0) (fun p _ hp => absurd hp (by omega))⟩
    · refine br_f (nI_nle (by omega) hs31) ?_
      by_cases y : s ≤ 2 ^ n
      · exact ⟨2 ^ n - s + 1, tx_pattern15 (s := s) hn hc rp Y1 Y0 (2 ^ n - s) s (2 ^ n - s + 1) (by omega) (by omega) (Nat.le_refl s) (fun p h1 hp => absurd hp (by omega))⟩
      · refine ⟨1, ?_⟩
        rw [wX_pattern_15]
        exact br_t (nI_le (by omega) hs31) (Y0 (fun p h1 h2 => absurd h2 (by omega)))
theorem i_vc_patterns {k : Nat} {u : SX} {v : SY} (I : i_Rel k u v) (hk : k + 4 ≤ 2048) : wpX_patterns (fun r => wpY_patterns (fun r' v' => r' = r ∧ i_Rel (k + 4) u v') v) u := by
  obtain ⟨n, c, d, l, fh, ff, kn, aL, aR, aO, cH, cF, lA, lC, rl, bd, li, sz, fe, mo, rfl, rfl, R⟩ := I
  have R' := R
  obtain ⟨⟨hn, hc, hd, hl⟩, av, lv, cs, ⟨es, cl⟩, rp, kk⟩ := R
  unfold wpX_patterns wpY_patterns
  dsimp only
  refine tx_count hn ⟨2 ^ n + 1, tx_patterns9 hn hc rp ?_ (2 ^ n) 0 (2 ^ n + 1) (by omega) (by omega)⟩
  exact ty_countGood hn hc av cs kk (fun f' b' kr => ⟨congrArg nI (tv_cn256 hn (-1)), tv_mk (tv_Rk R' kr)⟩)
theorem i_vc_undecided {k : Nat} {u : SX} {v : SY} (I : i_Rel k u v) (hk : k + 4 ≤ 2048) : wpX_undecided (fun r => wpY_undecided (fun r' v' => r' = r ∧ i_Rel (k + 4) u v') v) u := by
  obtain ⟨n, c, d, l, fh, ff, kn, aL, aR, aO, cH, cF, lA, lC, rl, bd, li, sz, fe, mo, rfl, rfl, R⟩ := I
  have R' := R
  obtain ⟨⟨hn, hc, hd, hl⟩, av, lv, cs, ⟨es, cl⟩, rp, kk⟩ := R
  unfold wpX_undecided wpY_undecided
  dsimp only
  refine tx_count hn ⟨2 ^ n + 1, tx_und12 hn hc rp ?_ (2 ^ n) 0 (2 ^ n + 1) (by omega) (by omega)⟩
  refine ty_next (s := 0) hn hc av cs kk (by omega) (fun r f' b' kr hr => ⟨257, ?_⟩)
  refine ty_und11 hn hc av cs (fun f b kr => ?_) 257 0 r f' b' (by omega) (by omega) kr hr
  refine ⟨?_, tv_mk (tv_Rk R' kr)⟩
  rw [tv_fo256 hn]
theorem i_vc_spare {k : Nat} {u : SX} {v : SY} (I : i_Rel k u v) (hk : k + 4 ≤ 2048) : wpX_spare (fun r => wpY_spare (fun r' v' => r' = r ∧ i_Rel (k + 4) u v') v) u := by
  obtain ⟨n, c, d, l, fh, ff, kn, aL, aR, aO, cH, cF, lA, lC, rl, bd, li, sz, fe, mo, rfl, rfl, R⟩ := I
  have R' := R
  obtain ⟨⟨hn, hc, hd, hl⟩, av, lv, cs, ⟨es, cl⟩, rp, kk⟩ := R
  unfold wpX_spare wpY_spare
  dsimp only
  refine ⟨c + 1, tx_spare4 hn hc rp ?_ c 0 (c + 1) (by omega) (by omega)⟩
  refine ty_countGood hn hc av cs kk (fun f' b' kr => ⟨c + 1, ?_⟩)
  refine ty_spare10 hn hc av cs (tv_cn_b _ 256) (fun f b kr => ?_) c 0 (c + 1) f' b' (by omega) (by omega) kr
  exact ⟨congrArg nI (tv_fo_congr c (fun k hk => (tv_sp hn hc hk).symm)), tv_mk (tv_Rk R' kr)⟩
theorem i_vc_least {k : Nat} {u : SX} {v : SY} (I : i_Rel k u v) (hk : k + 4 ≤ 2048) (v1 : Int32) (v2 : Int32) : wpX_least (fun r u' => wpY_least (fun r' v' => r' = r ∧ i_Rel (k + 4) u' v') v v1 v2) u v1 v2 := by
  obtain ⟨n, c, d, l, fh, ff, kn, aL, aR, aO, cH, cF, lA, lC, rl, bd, li, sz, fe, mo, rfl, rfl, R⟩ := I
  have R' := R
  obtain ⟨⟨hn, hc, hd, hl⟩, av, lv, cs, ⟨es, cl⟩, rp, kk⟩ := R
  have va := tv_av_va av
  have h8 := tv_p8 hn
  unfold wpX_least wpY_least
  dsimp only
  rcases tv_tm v1 (show 7 < 2 ^ 31 by omega) with h | ⟨a, ha, rfl⟩
  · exact tx_term0 h (br_t rfl (ty_term0 h (br_t rfl ⟨rfl, tv_mk R'⟩)))
  · refine tx_term1 ha (br_f (by decide) ?_)
    rcases tv_tm v2 (show 7 < 2 ^ 31 by omega) with h | ⟨b, hb, rfl⟩
    · exact tx_term0 h (br_t rfl (ty_term1 ha (br_f (by decide) (ty_term0 h (br_t rfl ⟨rfl, tv_mk R'⟩)))))
    · refine tx_term1 hb (br_f (by decide) ?_)
      by_cases e : nI a = nI b
      · exact br_t e (ty_term1 ha (br_f (by decide) (ty_term1 hb (br_f (by decide) (br_t e ⟨rfl, tv_mk R'⟩)))))
      · have x1 : (-1000000000 : Int32).toInt = -1000000000 := by decide +kernel
        have x2 : (-3000 : Int32).toInt = -3000 := by decide +kernel
        have x3 : (500000 : Int32).toInt = 500000 := by decide +kernel
        have eqI : ∀ x y : Int32, x = y ↔ x.toInt = y.toInt := fun x y => ⟨fun z => by rw [z], fun z => Int32.toInt_inj.mp z⟩
        refine br_f e (tx_count hn ⟨2 ^ n + 1, tx_least35 hn hc av rp ha hb (fun g b1 mg => ?_) (2 ^ n) 0 (2 ^ n + 1) (-1000000000) bd (by omega) (by omega) (by rw [x1]; exact tv_mx_0 _ (fun v ⟨q, hq, _⟩ => absurd hq (by omega)))⟩)
        have XY : ∀ g' : Int32, tv_mx (tv_wy aL aR aO cH cF n c b a 256) (-3000) g'.toInt → (g.toInt = -1000000000 ∧ g'.toInt = -3000) ∨ (g.toInt = 1000000000 ∧ 500000 < g'.toInt ∧ g'.toInt ≤ 1000000) ∨ (g.toInt = g'.toInt ∧ -2688 ≤ g.toInt ∧ g.toInt ≤ 2688) := by
          intro g' mg'
          refine tv_mx_XY mg mg' ?_ ?_
          · rintro v ⟨q, hq, gq, vq⟩
            obtain ⟨w, hw, ew⟩ := (tv_vxy va hb ha).1 v vq
            exact ⟨w, ⟨q, by omega, gq, hw⟩, ew⟩
          · rintro w ⟨q, hq, gq, vq⟩
            obtain ⟨v, hv, ev⟩ := (tv_vxy va hb ha).2 w vq
            exact ⟨v, ⟨q, gq.1.1, gq, hv⟩, ev⟩
        refine br_c (fun c1 => ?_) (fun c1 => br_c (fun c2 => ?_) (fun c2 => ?_))
        · rw [eqI, x1] at c1
          refine ty_term1 ha (br_f (by decide) (ty_term1 hb (br_f (by decide) (br_f e (ty_next (s := 0) hn hc av cs kk (by omega) (fun r f' b' kr hr => ⟨257, ty_least37 hn hc av cs ha hb (fun g' f2 b2 mg' kr2 => ?_) 257 0 r (-3000) f' b' (by omega) (by omega) kr hr (by rw [x2]; exact tv_mx_0 _ (fun v ⟨q, hq, _⟩ => absurd hq (by omega)))⟩))))))
          have z := XY g' mg'
          exact br_t ((eqI _ _).mpr (by rw [x2]; omega)) ⟨rfl, tv_mk (tv_Rk R' kr2)⟩
        · rw [eqI, tv_TI] at c2
          refine ty_term1 ha (br_f (by decide) (ty_term1 hb (br_f (by decide) (br_f e (ty_next (s := 0) hn hc av cs kk (by omega) (fun r f' b' kr hr => ⟨257, ty_least37 hn hc av cs ha hb (fun g' f2 b2 mg' kr2 => ?_) 257 0 r (-3000) f' b' (by omega) (by omega) kr hr (by rw [x2]; exact tv_mx_0 _ (fun v ⟨q, hq, _⟩ => absurd hq (by omega)))⟩))))))
          have z := XY g' mg'
          exact br_f (fun y => by rw [eqI, x2] at y; omega) (br_f (fun y => by rw [tv_eI, x3] at y; omega) ⟨rfl, tv_mk (tv_Rk R' kr2)⟩)
        · rw [eqI, x1] at c1
          rw [eqI, tv_TI] at c2
          refine ty_term1 ha (br_f (by decide) (ty_term1 hb (br_f (by decide) (br_f e (ty_next (s := 0) hn hc av cs kk (by omega) (fun r f' b' kr hr => ⟨257, ty_least37 hn hc av cs ha hb (fun g' f2 b2 mg' kr2 => ?_) 257 0 r (-3000) f' b' (by omega) (by omega) kr hr (by rw [x2]; exact tv_mx_0 _ (fun v ⟨q, hq, _⟩ => absurd hq (by omega)))⟩))))))
          have z := XY g' mg'
          have eg : g' = g := (eqI _ _).mpr (by omega)
          exact br_f (fun y => by rw [eqI, x2] at y; omega) (br_t (by rw [tv_eI, x3]; omega) ⟨by rw [eg], tv_mk (tv_Rk R' kr2)⟩)
