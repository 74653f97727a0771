theorem tv_i3 (z : Nat) : nI z + 3 = nI (z + 3) := nI_add z 3
theorem tv_MI : (1000000 : Int32).toInt = 1000000 := by decide +kernel
section
variable {fa fc fl kn : Int32} {aL aR aO li sz lA lC fe mo : Nat → Int32}
theorem ty_limit {post : SY → Prop} {A : tv_M} {t u : Nat} {v : Int32} (ht : t < 7) (hu : u < 7) (h : tv_is mo A) (K : ∀ b', tv_is b' (tv_ti A t u v.toInt) → post (fa, fc, fl, kn, aL, aR, aO, li, sz, lA, lC, fe, b')) : wpY_limit post (fa, fc, fl, kn, aL, aR, aO, li, sz, lA, lC, fe, mo) (nI t) (nI u) v := by
  unfold wpY_limit
  dsimp only
  rw [tv_7, nI_clamp (show 7 * t + u < 2 ^ 31 by omega)]
  have w : vp_in (nI (7 * t + u)) 49 := vp_in_nI (by omega) (by omega)
  have e := h t u ht hu
  refine ⟨w, fun c => ⟨w, w, nm_e (K _ ?_)⟩, fun c => ⟨w, nm_e (K _ ?_)⟩⟩
  · rw [tv_eI, e] at c
    refine tv_is_upd ht hu h ?_ ?_
    · unfold tv_ti; rw [if_neg (fun q => by have := q.2.2; omega)]; exact e
    · intro i j hi hj z
      unfold tv_ti
      rw [if_neg (fun q => z ⟨q.1, q.2.1⟩)]
  · rw [tv_eI, e] at c
    refine tv_is_upd ht hu h ?_ ?_
    · unfold tv_ti; rw [if_pos ⟨rfl, rfl, by omega⟩]
    · intro i j hi hj z
      unfold tv_ti
      rw [if_neg (fun q => z ⟨q.1, q.2.1⟩)]
theorem ty_rank {post : Int32 → Prop} {r x : Nat} (hr : r < 27) (hx : x < 3) (K : post (nI (tv_rk r x))) : wpY_rank post (fa, fc, fl, kn, aL, aR, aO, li, sz, lA, lC, fe, mo) (nI r) (nI x) := by
  unfold wpY_rank
  dsimp only
  have r1 : nI r - nI r / 3 * 3 = nI (r % 3) := tv_r3 (by omega)
  have r2 : nI r / 3 = nI (r / 3) := tv_d3 (by omega)
  have r3 : nI (r / 3) - nI (r / 3) / 3 * 3 = nI (r / 3 % 3) := tv_r3 (by omega)
  have r4 : nI r / 9 = nI (r / 9) := tv_d9 (by omega)
  rw [r1, r2, r3, r4]
  have n3 : ¬ (3 : Int32) = 0 := by decide
  have n9 : ¬ (9 : Int32) = 0 := by decide
  have e0 : nI x = 0 ↔ x = 0 := nI_eq (a := x) (b := 0) (by omega) (by omega)
  have e1 : nI x = 1 ↔ x = 1 := nI_eq (a := x) (b := 1) (by omega) (by omega)
  unfold tv_rk at K
  by_cases c0 : x = 0
  · rw [if_pos c0] at K
    exact br_t (e0.mpr c0) ⟨n3, K⟩
  · rw [if_neg c0] at K
    by_cases c1 : x = 1
    · rw [if_pos c1] at K
      exact br_f (fun z => c0 (e0.mp z)) (br_t (e1.mpr c1) ⟨n3, n3, K⟩)
    · rw [if_neg c1] at K
      exact br_f (fun z => c0 (e0.mp z)) (br_f (fun z => c1 (e1.mp z)) ⟨n9, K⟩)
theorem ty_sh87 {post : Int32 → SY → Prop} (K1 : (∀ t, t < 7 → ¬ (mo (7 * t + t)).toInt < 0) → post 1 (fa, fc, fl, kn, aL, aR, aO, li, sz, lA, lC, fe, mo)) (K0 : (∃ t, t < 7 ∧ (mo (7 * t + t)).toInt < 0) → post 0 (fa, fc, fl, kn, aL, aR, aO, li, sz, lA, lC, fe, mo)) :
    ∀ d t m : Nat, t + d = 7 → d < m → (∀ q, q < t → ¬ (mo (7 * q + q)).toInt < 0) → wY_shorten_87 post 7 fa fc fl kn aL aR aO li sz lA lC fe mo m (nI t) := by
  intro d
  induction d with
  | zero =>
    intro t m hi hm h
    obtain ⟨m, rfl⟩ := tv_q hm
    have e : t = 7 := by omega
    subst e
    rw [wY_shorten_87]
    exact br_t (nI_le (Nat.le_refl _) (by omega)) (K1 h)
  | succ d ih =>
    intro t m hi hm h
    obtain ⟨m, rfl⟩ := tv_q hm
    rw [wY_shorten_87]
    dsimp only
    rw [tv_8, show 8 * t = 7 * t + t by omega, nI_clamp (show 7 * t + t < 2 ^ 31 by omega)]
    refine br_f (nI_ge (b := 7) (by omega) (by decide)) ⟨vp_in_nI (by omega) (by omega), ?_, ?_⟩
    · intro c
      rw [tv_eI, tv_z0] at c
      refine nm_r (nI_1 t) (ih (t + 1) m (by omega) (by omega) ?_)
      intro q hq
      by_cases z : q = t
      · subst z; omega
      · exact h q (by omega)
    · intro c
      rw [tv_eI, tv_z0] at c
      exact K0 ⟨t, by omega, by omega⟩
theorem ty_sh9 {post : Int32 → SY → Prop} {J2 : Int32 → (Nat → Int32) → (Nat → Int32) → (Nat → Int32) → (Nat → Int32) → (Nat → Int32) → (Nat → Int32) → (Nat → Int32) → (Nat → Int32) → (Nat → Int32) → Prop} {S S' : tv_M} {w : Nat} (hE : tv_EM 21 S S') (hw : w < 7) (K : ∀ b', tv_jv S S' w 49 b' → J2 (nI (w + 1)) aL aR aO li sz lA lC fe b') :
    ∀ (d i m : Nat) (b : Nat → Int32), i + d = 49 → d < m → tv_jv S S' w i b → wY_shorten_9 post J2 7 (nI w) fa fc fl kn m (nI i) aL aR aO li sz lA lC fe b := by
  intro d
  induction d with
  | zero =>
    intro i m b hi hm h
    obtain ⟨m, rfl⟩ := tv_q hm
    have e : i = 49 := by omega
    subst e
    rw [wY_shorten_9]
    exact br_t (nI_le (Nat.le_refl _) (by omega)) (nm_r (nI_1 w) (K b h))
  | succ d ih =>
    intro i m b hi hm h
    obtain ⟨m, rfl⟩ := tv_q hm
    obtain ⟨t, u, ht, hu, rfl⟩ : ∃ t u, t < 7 ∧ u < 7 ∧ i = 7 * t + u := ⟨i / 7, i % 7, by omega, by omega, by omega⟩
    rw [wY_shorten_9]
    dsimp only
    rw [tv_r7 (show 7 * t + u < 2 ^ 31 by omega), show (7 * t + u) % 7 = u by omega, pk_sub (show u ≤ 7 * t + u by omega), nI_add, tv_7, show 7 * t + u - u + w = 7 * t + w by omega, nI_clamp (show 7 * t + w < 2 ^ 31 by omega), nI_clamp (show 7 * w + u < 2 ^ 31 by omega), nI_clamp (show 7 * t + u < 2 ^ 31 by omega)]
    have n7 : ¬ (7 : Int32) = 0 := by decide
    have w1 : vp_in (nI (7 * t + w)) 49 := vp_in_nI (by omega) (by omega)
    have w2 : vp_in (nI (7 * w + u)) 49 := vp_in_nI (by omega) (by omega)
    have w3 : vp_in (nI (7 * t + u)) 49 := vp_in_nI (by omega) (by omega)
    have st := tv_jv_step hE hw ht hu h
    exact br_f (nI_ge (b := 49) (by omega) (by decide)) ⟨n7, w1, n7, w2, nm_e ⟨w3, br_c (fun c => ⟨w3, w3, nm_e (nm_r (nI_1 _) (ih (7 * t + u + 1) m _ (by omega) (by omega) (st.2 (Int32.not_lt.mpr c))))⟩) (fun c => ⟨w3, nm_e (nm_r (nI_1 _) (ih (7 * t + u + 1) m _ (by omega) (by omega) (st.1 (tv_nle c))))⟩)⟩⟩
theorem ty_sh2 {post : Int32 → SY → Prop} {S S' : tv_M} (hE : tv_EM 21 S S') (hd : ∀ i, i < 7 → S i i ≤ 0) (K1 : tv_Good S → ∀ b', tv_is b' (tv_yw S' 7) → post 1 (fa, fc, fl, kn, aL, aR, aO, li, sz, lA, lC, fe, b')) (K0 : ¬ tv_Good S → ∀ b', post 0 (fa, fc, fl, kn, aL, aR, aO, li, sz, lA, lC, fe, b')) :
    ∀ (d w m : Nat) (b : Nat → Int32), w + d = 7 → d < m → tv_jc S S' w b → wY_shorten_2 post 7 fa fc fl kn m (nI w) aL aR aO li sz lA lC fe b := by
  intro d
  induction d with
  | zero =>
    intro w m b hi hm h
    obtain ⟨m, rfl⟩ := tv_q hm
    have e : w = 7 := by omega
    subst e
    rw [wY_shorten_2]
    have q := tv_jc_last hE hd h
    exact br_t (nI_le (Nat.le_refl _) (by omega)) ⟨8, ty_sh87 (fun z => K1 (q.1 z).1 b (q.1 z).2) (fun z => K0 (q.2 z) b) 7 0 8 (by omega) (by omega) (fun q hq => absurd hq (by omega))⟩
  | succ d ih =>
    intro w m b hi hm h
    obtain ⟨m, rfl⟩ := tv_q hm
    rw [wY_shorten_2]
    have hw : w < 7 := by omega
    exact br_f (nI_ge (b := 7) (by omega) (by decide)) ⟨50, ty_sh9 hE hw (fun b' hb => ih (w + 1) m b' (by omega) (by omega) (tv_jv_end hb)) 49 0 50 b (by omega) (by omega) (tv_jv_start hE hd hw h)⟩
theorem ty_shorten {post : Int32 → SY → Prop} {S S' : tv_M} (hE : tv_EM 21 S S') (hd : ∀ i, i < 7 → S i i ≤ 0) (h : tv_is mo S') (K1 : tv_Good S → ∀ b', tv_is b' (tv_yw S' 7) → post 1 (fa, fc, fl, kn, aL, aR, aO, li, sz, lA, lC, fe, b')) (K0 : ¬ tv_Good S → ∀ b', post 0 (fa, fc, fl, kn, aL, aR, aO, li, sz, lA, lC, fe, b')) : wpY_shorten post (fa, fc, fl, kn, aL, aR, aO, li, sz, lA, lC, fe, mo) 7 := by
  unfold wpY_shorten
  exact ⟨8, ty_sh2 hE hd K1 K0 7 0 8 mo (by omega) (by omega) (Or.inl h)⟩
theorem ty_fm171 {post : Int32 → SY → Prop} {J : Int32 → Int32 → Int32 → Int32 → Int32 → (Nat → Int32) → (Nat → Int32) → (Nat → Int32) → (Nat → Int32) → (Nat → Int32) → (Nat → Int32) → (Nat → Int32) → (Nat → Int32) → (Nat → Int32) → Prop} {A : tv_M} {q one two : Nat} {x2 : Int32} (hq : q < 9) (h1 : one < 3) (h2 : two < 3) (h : tv_is mo A) (K : ∀ b', tv_is b' (tv_tl A (if one = two then [(q / 3 + 3, q % 3 + 3, (0 : Int))] else [])) → J (nI (q + 1)) fa fc fl kn aL aR aO li sz lA lC fe b') : wY_findMost_171 post J x2 (nI q) (nI (q / 3)) (nI (q % 3)) (nI one) (nI two) fa fc fl kn aL aR aO li sz lA lC fe mo := by
  unfold wY_findMost_171
  rw [tv_i3, tv_i3]
  have e : nI one = nI two ↔ one = two := nI_eq (by omega) (by omega)
  by_cases c : one = two
  · refine br_t (e.mpr c) (ty_limit (by omega) (by omega) h (fun b' hb => nm_r (nI_1 q) (K b' ?_)))
    rw [if_pos c]; rw [tv_z0] at hb; exact hb
  · refine br_f (fun z => c (e.mp z)) (nm_r (nI_1 q) (K mo ?_))
    rw [if_neg c]; exact h
theorem ty_fm110 {post : Int32 → SY → Prop} {n p r : Nat} (hr : r < 27) (va : tv_va (tv_L aL) (tv_L aR) (tv_O aO) n) (K1 : tv_Good (tv_SY 1000000000 (tv_L aL) (tv_L aR) (tv_O aO) n p r) → ∀ b', tv_is b' (tv_yw (tv_SY 1000000 (tv_L aL) (tv_L aR) (tv_O aO) n p r) 7) → post 1 (fa, fc, fl, kn, aL, aR, aO, li, sz, lA, lC, fe, b')) (K0 : ¬ tv_Good (tv_SY 1000000000 (tv_L aL) (tv_L aR) (tv_O aO) n p r) → ∀ b', post 0 (fa, fc, fl, kn, aL, aR, aO, li, sz, lA, lC, fe, b')) :
    ∀ (d q m : Nat) (b : Nat → Int32), q + d = 9 → d < m → tv_is b (tv_tl (tv_at 1000000 (tv_L aL) (tv_L aR) (tv_O aO) p n) (tv_cy r q)) → wY_findMost_110 post (nI r) m (nI q) fa fc fl kn aL aR aO li sz lA lC fe b := by
  intro d
  induction d with
  | zero =>
    intro q m b hi hm h
    obtain ⟨m, rfl⟩ := tv_q hm
    have e : q = 9 := by omega
    subst e
    rw [wY_findMost_110]
    exact br_t (nI_le (Nat.le_refl _) (by omega)) (ty_shorten (S := tv_SY 1000000000 (tv_L aL) (tv_L aR) (tv_O aO) n p r) (S' := tv_SY 1000000 (tv_L aL) (tv_L aR) (tv_O aO) n p r) (tv_SY_E va hr) (fun i _ => tv_SY_d va r i) h (fun g b' hb => ⟨rfl, K1 g b' hb⟩) (fun g b' => ⟨rfl, K0 g b'⟩))
  | succ d ih =>
    intro q m b hi hm h
    obtain ⟨m, rfl⟩ := tv_q hm
    rw [wY_findMost_110]
    dsimp only
    rw [tv_r3 (show q < 2 ^ 31 by omega), tv_d3 (show q < 2 ^ 31 by omega)]
    have n3 : ¬ (3 : Int32) = 0 := by decide
    have k1 := tv_rk3 r hr (q / 3) (by omega)
    have k2 := tv_rk3 r hr (q % 3) (by omega)
    have go : ∀ (b1 : Nat → Int32) (l : List (Nat × Nat × Int)), l = (if tv_rk r (q / 3) ≤ tv_rk r (q % 3) then [(q / 3, q % 3, if tv_rk r (q / 3) < tv_rk r (q % 3) then (-1 : Int) else 0)] else []) → tv_is b1 (tv_tl (tv_tl (tv_at 1000000 (tv_L aL) (tv_L aR) (tv_O aO) p n) (tv_cy r q)) l) → wY_findMost_171 post (wY_findMost_110 post (nI r) m) (nI r) (nI q) (nI (q / 3)) (nI (q % 3)) (nI (tv_rk r (q / 3))) (nI (tv_rk r (q % 3))) fa fc fl kn aL aR aO li sz lA lC fe b1 := by
      intro b1 l el hb
      refine ty_fm171 (by omega) k1 k2 hb (fun b' hb' => ih (q + 1) m b' (by omega) (by omega) ?_)
      show tv_is b' (tv_tl _ (tv_cy r q ++ tv_cy1 r q))
      unfold tv_cy1
      rw [tv_tl_app, tv_tl_app, ← el]
      exact hb'
    refine br_f (nI_ge (b := 9) (by omega) (by decide)) ⟨n3, nm_e ⟨n3, nm_e (ty_rank hr (by omega) (ty_rank hr (by omega) (pk_lt (tv_rk r (q % 3)) (tv_rk r (q / 3)) (fun c => ?_) (fun c => pk_le (tv_rk r (q % 3)) (tv_rk r (q / 3)) (fun c2 => ?_) (fun c2 => ?_)))))⟩⟩
    · exact go b [] (by rw [if_neg (by omega)]) h
    · unfold wY_findMost_168
      refine ty_limit (by omega) (by omega) h (fun b' hb => go b' [(q / 3, q % 3, 0)] (by rw [if_pos (by omega), if_neg (by omega)]) ?_)
      rw [tv_z0] at hb; exact hb
    · unfold wY_findMost_168
      refine ty_limit (by omega) (by omega) h (fun b' hb => go b' [(q / 3, q % 3, -1)] (by rw [if_pos (by omega), if_pos (by omega)]) ?_)
      rw [tv_m1] at hb; exact hb
theorem ty_fm35 {post : Int32 → SY → Prop} {n p r : Nat} (hr : r < 27) (hn : n ≤ 8) (hp : p < 2147483648) (av : tv_av aL aR aO n) (K1 : tv_Good (tv_SY 1000000000 (tv_L aL) (tv_L aR) (tv_O aO) n p r) → ∀ b', tv_is b' (tv_yw (tv_SY 1000000 (tv_L aL) (tv_L aR) (tv_O aO) n p r) 7) → post 1 (nI n, fc, fl, kn, aL, aR, aO, li, sz, lA, lC, fe, b')) (K0 : ¬ tv_Good (tv_SY 1000000000 (tv_L aL) (tv_L aR) (tv_O aO) n p r) → ∀ b', post 0 (nI n, fc, fl, kn, aL, aR, aO, li, sz, lA, lC, fe, b')) :
    ∀ (d i m : Nat) (b : Nat → Int32), i + d = n → d < m → tv_is b (tv_at 1000000 (tv_L aL) (tv_L aR) (tv_O aO) p i) → wY_findMost_35 post (nI p) (nI r) m (nI i) (nI n) fc fl kn aL aR aO li sz lA lC fe b := by
  intro d
  induction d with
  | zero =>
    intro i m b hi hm h
    obtain ⟨m, rfl⟩ := tv_q hm
    have e : i = n := by omega
    subst e
    rw [wY_findMost_35]
    exact br_t (nI_le (Nat.le_refl _) (by omega)) ⟨10, ty_fm110 hr (tv_av_va av) K1 K0 9 0 10 b (by omega) (by omega) h⟩
  | succ d ih =>
    intro i m b hi hm h
    obtain ⟨m, rfl⟩ := tv_q hm
    obtain ⟨ta, tb, h1, h2, h3, e1, e2, e3, e4⟩ := av i (by omega)
    rw [wY_findMost_35]
    dsimp only
    have w : vp_in (nI i) 8 := vp_in_nI (by omega) (by omega)
    have ec : (nI i).toNatClampNeg = i := nI_clamp (by omega)
    have eL : tv_L aL i = ta := by show (aL i).toNatClampNeg = ta; rw [e1]; exact nI_clamp (by omega)
    have eR : tv_L aR i = tb := by show (aR i).toNatClampNeg = tb; rw [e2]; exact nI_clamp (by omega)
    rw [ec, e1, e2, tv_bit hp (by omega)]
    refine br_f (nI_ge (by omega) (by omega)) ?_
    by_cases c : p / 2 ^ i % 2 = 1
    · refine br_t (by rw [c]; rfl) ⟨w, w, w, ty_limit h1 h2 h (fun b' hb => nm_r (nI_1 i) (ih (i + 1) m b' (by omega) (by omega) ?_))⟩
      show tv_is b' (if p / 2 ^ i % 2 = 1 then _ else _)
      rw [if_pos c, eL, eR]; exact hb
    · have c0 : p / 2 ^ i % 2 = 0 := by
        have := Nat.mod_lt (p / 2 ^ i) (show 0 < 2 by decide)
        omega
      refine br_f (by rw [c0]; decide) ⟨w, w, w, ty_limit h2 h1 h (fun b' hb => nm_r (nI_1 i) (ih (i + 1) m b' (by omega) (by omega) ?_))⟩
      show tv_is b' (if p / 2 ^ i % 2 = 1 then _ else _)
      rw [tv_off e3 e4] at hb
      rw [if_neg c, eL, eR]; exact hb
theorem ty_fm2 {post : Int32 → SY → Prop} {n p r : Nat} (hr : r < 27) (hn : n ≤ 8) (hp : p < 2147483648) (av : tv_av aL aR aO n) (K1 : tv_Good (tv_SY 1000000000 (tv_L aL) (tv_L aR) (tv_O aO) n p r) → ∀ b', tv_is b' (tv_yw (tv_SY 1000000 (tv_L aL) (tv_L aR) (tv_O aO) n p r) 7) → post 1 (nI n, fc, fl, kn, aL, aR, aO, li, sz, lA, lC, fe, b')) (K0 : ¬ tv_Good (tv_SY 1000000000 (tv_L aL) (tv_L aR) (tv_O aO) n p r) → ∀ b', post 0 (nI n, fc, fl, kn, aL, aR, aO, li, sz, lA, lC, fe, b')) :
    ∀ (d k m : Nat) (b : Nat → Int32), k + d = 49 → d < m → (∀ q, q < k → b q = if q % 8 = 0 then 0 else 1000000) → wY_findMost_2 post (nI p) (nI r) (nI n) fc fl kn m (nI k) aL aR aO li sz lA lC fe b := by
  intro d
  induction d with
  | zero =>
    intro k m b hi hm h
    obtain ⟨m, rfl⟩ := tv_q hm
    have e : k = 49 := by omega
    subst e
    rw [wY_findMost_2]
    refine br_t (nI_le (Nat.le_refl _) (by omega)) ⟨n + 1, ty_fm35 hr hn hp av K1 K0 n 0 (n + 1) b (by omega) (by omega) ?_⟩
    intro i j h1 h2
    rw [h _ (by omega)]
    show _ = (if i = j then (0 : Int) else 1000000)
    by_cases z : i = j
    · rw [if_pos z, if_pos (by omega)]; exact tv_z0
    · rw [if_neg z, if_neg (by omega)]; exact tv_MI
  | succ d ih =>
    intro k m b hi hm h
    obtain ⟨m, rfl⟩ := tv_q hm
    rw [wY_findMost_2]
    dsimp only
    rw [tv_r8 (show k < 2 ^ 31 by omega), nI_clamp (show k < 2 ^ 31 by omega)]
    have n8 : ¬ (8 : Int32) = 0 := by decide
    have w : vp_in (nI k) 49 := vp_in_nI (by omega) (by omega)
    have e : nI (k % 8) = 0 ↔ k % 8 = 0 := nI_eq (a := k % 8) (b := 0) (by omega) (by omega)
    have up : ∀ v : Int32, v = (if k % 8 = 0 then 0 else 1000000) → ∀ q, q < k + 1 → upd b k v q = if q % 8 = 0 then 0 else 1000000 := by
      intro v hv q hq
      by_cases z : q = k
      · subst z; rw [pk_us]; exact hv
      · rw [pk_un z]; exact h q (by omega)
    refine br_f (nI_ge (b := 49) (by omega) (by decide)) ⟨n8, ?_⟩
    by_cases c : k % 8 = 0
    · exact br_t (e.mpr c) ⟨w, nm_e (nm_r (nI_1 k) (ih (k + 1) m _ (by omega) (by omega) (up 0 (if_pos c).symm)))⟩
    · exact br_f (fun z => c (e.mp z)) ⟨w, nm_e (nm_r (nI_1 k) (ih (k + 1) m _ (by omega) (by omega) (up 1000000 (if_neg c).symm)))⟩
theorem ty_findMost {post : Int32 → SY → Prop} {n p r : Nat} (hr : r < 27) (hn : n ≤ 8) (hp : p < 2147483648) (av : tv_av aL aR aO n) (K1 : tv_Good (tv_SY 1000000000 (tv_L aL) (tv_L aR) (tv_O aO) n p r) → ∀ b', tv_is b' (tv_yw (tv_SY 1000000 (tv_L aL) (tv_L aR) (tv_O aO) n p r) 7) → post 1 (nI n, fc, fl, kn, aL, aR, aO, li, sz, lA, lC, fe, b')) (K0 : ¬ tv_Good (tv_SY 1000000000 (tv_L aL) (tv_L aR) (tv_O aO) n p r) → ∀ b', post 0 (nI n, fc, fl, kn, aL, aR, aO, li, sz, lA, lC, fe, b')) : wpY_findMost post (nI n, fc, fl, kn, aL, aR, aO, li, sz, lA, lC, fe, mo) (nI p) (nI r) := by
  unfold wpY_findMost
  exact ⟨50, ty_fm2 hr hn hp av K1 K0 49 0 50 mo (by omega) (by omega) (fun q hq => absurd hq (by omega))⟩
theorem ty_isOrder {post : Int32 → Prop} {r : Nat} (hr : r < 27) (K1 : tv_io r = true → post 1) (K0 : ¬ tv_io r = true → post 0) : wpY_isOrder post (fa, fc, fl, kn, aL, aR, aO, li, sz, lA, lC, fe, mo) (nI r) := by
  unfold wpY_isOrder
  dsimp only
  have e := tv_iot r hr
  have k0 := tv_rk3 r hr 0 (by omega)
  have k1 := tv_rk3 r hr 1 (by omega)
  have k2 := tv_rk3 r hr 2 (by omega)
  refine ty_rank (x := 0) hr (by omega) (ty_rank (x := 1) hr (by omega) (ty_rank (x := 2) hr (by omega) ?_))
  rw [tv_pow (show tv_rk r 0 < 31 by omega), tv_pow (show tv_rk r 1 < 31 by omega), tv_pow (show tv_rk r 2 < 31 by omega)]
  exact nm_e (br_c (fun c => K1 (e.mp (Or.inl c))) (fun c => br_c (fun c2 => K1 (e.mp (Or.inr (Or.inl c2)))) (fun c2 => br_c (fun c3 => K1 (e.mp (Or.inr (Or.inr c3)))) (fun c3 => K0 (fun z => by
    rcases e.mpr z with q | q | q
    · exact c q
    · exact c2 q
    · exact c3 q)))))
theorem ty_feas2 {post : Int32 → SY → Prop} {n p : Nat} (hn : n ≤ 8) (hp : p < 2147483648) (av : tv_av aL aR aO n) (K1 : tv_Fe (tv_L aL) (tv_L aR) (tv_O aO) n p → ∀ b', post 1 (nI n, fc, fl, kn, aL, aR, aO, li, sz, lA, lC, fe, b')) (K0 : ¬ tv_Fe (tv_L aL) (tv_L aR) (tv_O aO) n p → ∀ b', post 0 (nI n, fc, fl, kn, aL, aR, aO, li, sz, lA, lC, fe, b')) :
    ∀ (d o m : Nat) (b : Nat → Int32), o + d = 27 → d < m → (∀ q, q < o → tv_io q = true → ¬ tv_Good (tv_SY 1000000000 (tv_L aL) (tv_L aR) (tv_O aO) n p q)) → wY_isFeasible_2 post (nI p) m (nI o) (nI n) fc fl kn aL aR aO li sz lA lC fe b := by
  have va := tv_av_va av
  intro d
  induction d with
  | zero =>
    intro o m b hi hm h
    obtain ⟨m, rfl⟩ := tv_q hm
    have e : o = 27 := by omega
    subst e
    rw [wY_isFeasible_2]
    refine br_t (nI_le (Nat.le_refl _) (by omega)) (K0 (fun z => ?_) b)
    obtain ⟨r, hr, hi, g⟩ := (tv_Fe_Y va).mp z
    exact h r hr hi g
  | succ d ih =>
    intro o m b hi hm h
    obtain ⟨m, rfl⟩ := tv_q hm
    rw [wY_isFeasible_2]
    have ho : o < 27 := by omega
    have nx : ∀ b', (tv_io o = true → ¬ tv_Good (tv_SY 1000000000 (tv_L aL) (tv_L aR) (tv_O aO) n p o)) → ∀ y, y = nI o + 1 → wY_isFeasible_2 post (nI p) m y (nI n) fc fl kn aL aR aO li sz lA lC fe b' := fun b' g => nm_r (nI_1 o) (ih (o + 1) m b' (by omega) (by omega) (lt_s h g))
    exact br_f (nI_ge (b := 27) (by omega) (by decide)) (ty_isOrder ho (fun io => br_f (by decide) (ty_findMost ho hn hp av (fun g b' _ => br_f (by decide) (K1 ((tv_Fe_Y va).mpr ⟨o, ho, io, g⟩) b')) (fun g b' => br_t rfl (nx b' (fun _ => g))))) (fun io => br_t rfl (nx b (fun z => absurd z io))))
theorem ty_feas {post : Int32 → SY → Prop} {n p : Nat} (hn : n ≤ 8) (hp : p < 2147483648) (av : tv_av aL aR aO n) (K1 : tv_Fe (tv_L aL) (tv_L aR) (tv_O aO) n p → ∀ b', post 1 (nI n, fc, fl, kn, aL, aR, aO, li, sz, lA, lC, fe, b')) (K0 : ¬ tv_Fe (tv_L aL) (tv_L aR) (tv_O aO) n p → ∀ b', post 0 (nI n, fc, fl, kn, aL, aR, aO, li, sz, lA, lC, fe, b')) : wpY_isFeasible post (nI n, fc, fl, kn, aL, aR, aO, li, sz, lA, lC, fe, mo) (nI p) := by
  unfold wpY_isFeasible
  exact ⟨28, ty_feas2 hn hp av K1 K0 27 0 28 mo (by omega) (by omega) (fun q hq => absurd hq (by omega))⟩
end
