section
variable {fa fc fl kn : Int32} {aL aR aO li sz lA lC fe mo : Nat → Int32} {cH cF : Nat → Int32}
theorem ty_least44 {post : Int32 → SY → Prop} {J : Int32 → Int32 → Int32 → Int32 → Int32 → Int32 → (Nat → Int32) → (Nat → Int32) → (Nat → Int32) → (Nat → Int32) → (Nat → Int32) → (Nat → Int32) → (Nat → Int32) → (Nat → Int32) → (Nat → Int32) → Prop} {n c t u q : Nat} (hn : n ≤ 8) (hc : c ≤ 16) (av : tv_av aL aR aO n) (cs : tv_cs cH cF li sz c) (ht : t < 7) (hu : u < 7) (hq : q < 256) (gq : tv_g aL aR aO cH cF n c (-1) q) (kr : tv_kr aL aR aO fe n)
    (K : ∀ g r' f' b', tv_mx (tv_wy aL aR aO cH cF n c u t (q + 1)) (-3000) g.toInt → tv_kr aL aR aO f' n → tv_nx (tv_g aL aR aO cH cF n c (-1)) (q + 1) r' → J r' g (nI n) (nI c) fl 1 aL aR aO li sz lA lC f' b') :
    ∀ (d o m : Nat) (g : Int32) (b : Nat → Int32), o + d = 27 → d < m → tv_mx (fun v => tv_wy aL aR aO cH cF n c u t q v ∨ tv_vy (tv_L aL) (tv_L aR) (tv_O aO) n q u t o v) (-3000) g.toInt → wY_least_44 post J (nI t) (nI u) (nI q) m g (nI o) (nI n) (nI c) fl 1 aL aR aO li sz lA lC fe b := by
  have va := tv_av_va av
  intro d
  induction d with
  | zero =>
    intro o m g b hi hm h
    obtain ⟨m, rfl⟩ := tv_q hm
    have e : o = 27 := by omega
    subst e
    rw [wY_least_44]
    dsimp only
    rw [nI_1 q]
    refine br_t (nI_le (Nat.le_refl _) (by omega)) (ty_next hn hc av cs (fun _ => kr) (by omega) (fun r' f' b' kr' hr' => K g r' f' b' (tv_mx_c h ?_) kr' hr'))
    intro v
    constructor
    · rintro ⟨x, hx, gx, vx⟩
      by_cases y : x = q
      · subst y; exact Or.inr vx
      · exact Or.inl ⟨x, by omega, gx, vx⟩
    · rintro (⟨x, hx, gx, vx⟩ | vx)
      · exact ⟨x, by omega, gx, vx⟩
      · exact ⟨q, by omega, gq, vx⟩
  | succ d ih =>
    intro o m g b hi hm h
    obtain ⟨m, rfl⟩ := tv_q hm
    have ho : o < 27 := by omega
    rw [wY_least_44]
    dsimp only
    rw [tv_7]
    have w1 : vp_in (nI (7 * u + t)) 49 := vp_in_nI (by omega) (by omega)
    have nx : ∀ b', (tv_io o = true → ¬ tv_Good (tv_SY 1000000000 (tv_L aL) (tv_L aR) (tv_O aO) n q o)) → ∀ y, y = nI o + 1 → wY_least_44 post J (nI t) (nI u) (nI q) m g y (nI n) (nI c) fl 1 aL aR aO li sz lA lC fe b' := by
      intro b' gn
      refine nm_r (nI_1 o) (ih (o + 1) m g b' (by omega) (by omega) (tv_mx_c h ?_))
      intro v
      constructor
      · rintro (z | ⟨x, hx, ix, gx, vx⟩)
        · exact Or.inl z
        · by_cases y : x = o
          · subst y; exact absurd gx (gn ix)
          · exact Or.inr ⟨x, by omega, ix, gx, vx⟩
      · rintro (z | ⟨x, hx, ix, gx, vx⟩)
        · exact Or.inl z
        · exact Or.inr ⟨x, by omega, ix, gx, vx⟩
    refine br_f (nI_ge (b := 27) (by omega) (by decide)) (ty_isOrder ho (fun io => br_f (by decide) (ty_findMost ho hn (by omega) av (fun gd b' hb => br_f (by decide) ⟨w1, ?_⟩) (fun gd b' => br_t rfl (nx b' (fun _ => gd))))) (fun io => br_t rfl (nx b (fun z => absurd z io))))
    rw [nI_clamp (show 7 * u + t < 2 ^ 31 by omega)]
    have e := hb u t hu ht
    have lo := tv_vy_low (p := q) va (Nat.le_refl 27) hu ht ⟨o, ho, io, gd, rfl⟩
    have un := tv_mx_un (P' := fun v => tv_wy aL aR aO cH cF n c u t q v ∨ tv_vy (tv_L aL) (tv_L aR) (tv_O aO) n q u t (o + 1) v) (fun v hv => by
        rcases hv with ⟨x, hx, gx, vx⟩ | vx
        · exact tv_vy_low va (Nat.le_refl 27) hu ht vx
        · exact tv_vy_low va (by omega) hu ht vx) (fun v (hv : v = tv_yw (tv_SY 1000000 (tv_L aL) (tv_L aR) (tv_O aO) n q o) 7 u t) => by omega) h (tv_mx_1 (tv_yw (tv_SY 1000000 (tv_L aL) (tv_L aR) (tv_O aO) n q o) 7 u t) (-3000)) (by
      intro v
      constructor
      · rintro (z | ⟨x, hx, ix, gx, vx⟩)
        · exact Or.inl (Or.inl z)
        · by_cases y : x = o
          · subst y; exact Or.inr vx
          · exact Or.inl (Or.inr ⟨x, by omega, ix, gx, vx⟩)
      · rintro ((z | ⟨x, hx, ix, gx, vx⟩) | vx)
        · exact Or.inl z
        · exact Or.inr ⟨x, by omega, ix, gx, vx⟩
        · exact Or.inr ⟨o, by omega, io, gd, vx⟩)
    refine br_c (fun c1 => ?_) (fun c1 => ?_)
    · rw [tv_eI, e] at c1
      exact nm_r (nI_1 o) (ih (o + 1) m g b' (by omega) (by omega) (un.2 (by omega)))
    · rw [tv_eI, e] at c1
      exact ⟨w1, nm_e (nm_r (nI_1 o) (ih (o + 1) m _ b' (by omega) (by omega) (by rw [e]; exact un.1 (by omega))))⟩
theorem ty_least37 {post : Int32 → SY → Prop} {n c t u : Nat} (hn : n ≤ 8) (hc : c ≤ 16) (av : tv_av aL aR aO n) (cs : tv_cs cH cF li sz c) (ht : t < 7) (hu : u < 7)
    (K : ∀ g f' b', tv_mx (tv_wy aL aR aO cH cF n c u t 256) (-3000) g.toInt → tv_kr aL aR aO f' n → ((g = (-3000) → post (-3000) (nI n, nI c, fl, 1, aL, aR, aO, li, sz, lA, lC, f', b')) ∧ (¬ g = (-3000) → ((g ≤ 500000 → post (-g) (nI n, nI c, fl, 1, aL, aR, aO, li, sz, lA, lC, f', b')) ∧ (¬ g ≤ 500000 → post (-4000) (nI n, nI c, fl, 1, aL, aR, aO, li, sz, lA, lC, f', b')))))) :
    ∀ (m s : Nat) (r g : Int32) (f b : Nat → Int32), s ≤ 256 → 256 - s < m → tv_kr aL aR aO f n → tv_nx (tv_g aL aR aO cH cF n c (-1)) s r → tv_mx (tv_wy aL aR aO cH cF n c u t s) (-3000) g.toInt → wY_least_37 post (nI t) (nI u) m r g (nI n) (nI c) fl 1 aL aR aO li sz lA lC f b := by
  intro m
  induction m with
  | zero => intro s r g f b hs hm; omega
  | succ m ih =>
    intro s r g f b hs hm kr hr h
    rw [wY_least_37]
    rcases hr with ⟨q, rfl, hsq, hq, gq, hg⟩ | ⟨rfl, hg⟩
    · refine br_f (nI_pos (by omega)) ⟨28, ty_least44 hn hc av cs ht hu hq gq kr (fun g' r' f' b' h' kr' hr' => ih (q + 1) r' g' f' b' (by omega) (by omega) kr' hr' h') 27 0 28 g b (by omega) (by omega) (tv_mx_c h ?_)⟩
      intro v
      constructor
      · rintro (⟨x, hx, gx, vx⟩ | ⟨x, hx, _⟩)
        · by_cases y : x < s
          · exact ⟨x, y, gx, vx⟩
          · exact absurd gx (hg x (by omega) hx)
        · exact absurd hx (by omega)
      · rintro ⟨x, hx, gx, vx⟩
        exact Or.inl ⟨x, by omega, gx, vx⟩
    · refine br_t tv_3k (K g f b (tv_mx_c h ?_) kr)
      intro v
      constructor
      · rintro ⟨x, hx, gx, vx⟩
        by_cases y : x < s
        · exact ⟨x, y, gx, vx⟩
        · exact absurd gx (hg x (by omega) hx)
      · rintro ⟨x, hx, gx, vx⟩
        exact ⟨x, by omega, gx, vx⟩
theorem ty_count9 {post : Int32 → SY → Prop} {n c : Nat} {but : Int32} (hn : n ≤ 8) (hc : c ≤ 16) (av : tv_av aL aR aO n) (cs : tv_cs cH cF li sz c)
    (K : ∀ f' b', tv_kr aL aR aO f' n → post (nI (tv_cn (tv_g aL aR aO cH cF n c but) 256)) (nI n, nI c, fl, 1, aL, aR, aO, li, sz, lA, lC, f', b')) :
    ∀ (m s : Nat) (r : Int32) (f b : Nat → Int32), s ≤ 256 → 256 - s < m → tv_kr aL aR aO f n → tv_nx (tv_g aL aR aO cH cF n c but) s r → wY_countGood_9 post but m (nI (tv_cn (tv_g aL aR aO cH cF n c but) s)) r (nI n) (nI c) fl 1 aL aR aO li sz lA lC f b := by
  intro m
  induction m with
  | zero => intro s r f b hs hm; omega
  | succ m ih =>
    intro s r f b hs hm kr hr
    rw [wY_countGood_9]
    rcases hr with ⟨q, rfl, hsq, hq, gq, hg⟩ | ⟨rfl, hg⟩
    · dsimp only
      rw [nI_1 q]
      refine br_f (nI_pos (by omega)) (nm_r (nI_1 _) (ty_next hn hc av cs (fun _ => kr) (by omega) (fun r' f' b' kr' hr' => ?_)))
      have k := ih (q + 1) r' f' b' (by omega) (by omega) kr' hr'
      have e : tv_cn (tv_g aL aR aO cH cF n c but) q = tv_cn (tv_g aL aR aO cH cF n c but) s := tv_fo_gap hsq hg
      rw [tv_cn_t gq, e] at k
      exact k
    · have e : tv_cn (tv_g aL aR aO cH cF n c but) 256 = tv_cn (tv_g aL aR aO cH cF n c but) s := tv_fo_gap hs hg
      have k := K f b kr
      rw [e] at k
      exact br_t tv_3k k
theorem ty_countGood {post : Int32 → SY → Prop} {n c : Nat} {but : Int32} (hn : n ≤ 8) (hc : c ≤ 16) (av : tv_av aL aR aO n) (cs : tv_cs cH cF li sz c) (hk : tv_kn aL aR aO fe kn n)
    (K : ∀ f' b', tv_kr aL aR aO f' n → post (nI (tv_cn (tv_g aL aR aO cH cF n c but) 256)) (nI n, nI c, fl, 1, aL, aR, aO, li, sz, lA, lC, f', b')) : wpY_countGood post (nI n, nI c, fl, kn, aL, aR, aO, li, sz, lA, lC, fe, mo) but := by
  unfold wpY_countGood
  exact ty_next (s := 0) hn hc av cs hk (by omega) (fun r f' b' kr hr => ⟨257, ty_count9 hn hc av cs K 257 0 r f' b' (by omega) (by omega) kr hr⟩)
theorem ty_und43 {post : Int32 → SY → Prop} {n : Nat} {x z : Int32} (hn : n ≤ 8) (K : post (tv_us (x &&& z) n) (nI n, fc, fl, kn, aL, aR, aO, li, sz, lA, lC, fe, mo)) : ∀ d i m : Nat, i + d = n → d < m → wY_undecided_43 post x z (nI n) fc fl kn aL aR aO li sz lA lC fe mo m (tv_us (x &&& z) i) (nI i) := by
  intro d
  induction d with
  | zero =>
    intro i m hi hm
    obtain ⟨m, rfl⟩ := tv_q hm
    have e : i = n := by omega
    subst e
    rw [wY_undecided_43]
    exact br_t (nI_le (Nat.le_refl _) (by omega)) K
  | succ d ih =>
    intro i m hi hm
    obtain ⟨m, rfl⟩ := tv_q hm
    rw [wY_undecided_43]
    exact br_f (nI_ge (by omega) (by omega)) (nm_e (nm_r (nI_1 i) (ih (i + 1) m (by omega) (by omega))))
theorem ty_und11 {post : Int32 → SY → Prop} {n c : Nat} (hn : n ≤ 8) (hc : c ≤ 16) (av : tv_av aL aR aO n) (cs : tv_cs cH cF li sz c)
    (K : ∀ f' b', tv_kr aL aR aO f' n → post (tv_us ((tv_fo (tv_g aL aR aO cH cF n c (-1)) tv_un (0, 0) 256).1 &&& (tv_fo (tv_g aL aR aO cH cF n c (-1)) tv_un (0, 0) 256).2) n) (nI n, nI c, fl, 1, aL, aR, aO, li, sz, lA, lC, f', b')) :
    ∀ (m s : Nat) (r : Int32) (f b : Nat → Int32), s ≤ 256 → 256 - s < m → tv_kr aL aR aO f n → tv_nx (tv_g aL aR aO cH cF n c (-1)) s r → wY_undecided_11 post m (tv_fo (tv_g aL aR aO cH cF n c (-1)) tv_un (0, 0) s).1 (tv_fo (tv_g aL aR aO cH cF n c (-1)) tv_un (0, 0) s).2 r (nI n) (nI c) fl 1 aL aR aO li sz lA lC f b := by
  intro m
  induction m with
  | zero => intro s r f b hs hm; omega
  | succ m ih =>
    intro s r f b hs hm kr hr
    rw [wY_undecided_11]
    rcases hr with ⟨q, rfl, hsq, hq, gq, hg⟩ | ⟨rfl, hg⟩
    · dsimp only
      rw [nI_1 q]
      refine br_f (nI_pos (by omega)) (nm_e (nm_e (ty_next hn hc av cs (fun _ => kr) (by omega) (fun r' f' b' kr' hr' => ?_))))
      have k := ih (q + 1) r' f' b' (by omega) (by omega) kr' hr'
      have e : tv_fo (tv_g aL aR aO cH cF n c (-1)) tv_un (0, 0) q = tv_fo (tv_g aL aR aO cH cF n c (-1)) tv_un (0, 0) s := tv_fo_gap hsq hg
      rw [tv_fo_t gq, e] at k
      exact k
    · have e : tv_fo (tv_g aL aR aO cH cF n c (-1)) tv_un (0, 0) 256 = tv_fo (tv_g aL aR aO cH cF n c (-1)) tv_un (0, 0) s := tv_fo_gap hs hg
      have k := K f b kr
      rw [e] at k
      exact br_t tv_3k ⟨n + 1, ty_und43 hn k n 0 (n + 1) (by omega) (by omega)⟩
theorem ty_spare10 {post : Int32 → SY → Prop} {n c a : Nat} (hn : n ≤ 8) (hc : c ≤ 16) (av : tv_av aL aR aO n) (cs : tv_cs cH cF li sz c) (ha : a ≤ 256)
    (K : ∀ f' b', tv_kr aL aR aO f' n → post (nI (tv_cn (fun k => tv_cn (tv_g aL aR aO cH cF n c (nI k)) 256 = a) c)) (nI n, nI c, fl, 1, aL, aR, aO, li, sz, lA, lC, f', b')) :
    ∀ (d k m : Nat) (f b : Nat → Int32), k + d = c → d < m → tv_kr aL aR aO f n → wY_spare_10 post (nI a) m (nI (tv_cn (fun k => tv_cn (tv_g aL aR aO cH cF n c (nI k)) 256 = a) k)) (nI k) (nI n) (nI c) fl 1 aL aR aO li sz lA lC f b := by
  intro d
  induction d with
  | zero =>
    intro k m f b hi hm kr
    obtain ⟨m, rfl⟩ := tv_q hm
    have e : k = c := by omega
    subst e
    rw [wY_spare_10]
    exact br_t (nI_le (Nat.le_refl _) (by omega)) (K f b kr)
  | succ d ih =>
    intro k m f b hi hm kr
    obtain ⟨m, rfl⟩ := tv_q hm
    rw [wY_spare_10]
    refine br_f (nI_ge (by omega) (by omega)) (ty_countGood hn hc av cs (fun _ => kr) (fun f' b' kr' => ?_))
    have q := ih (k + 1) m f' b' (by omega) (by omega) kr'
    have bnd := tv_cn_b (tv_g aL aR aO cH cF n c (nI k)) 256
    refine pk_eq (tv_cn (tv_g aL aR aO cH cF n c (nI k)) 256) a (fun z => ?_) (fun z => ?_) rfl rfl (by omega) (by omega)
    · rw [tv_cn_t (G := fun k => tv_cn (tv_g aL aR aO cH cF n c (nI k)) 256 = a) (m := k) z] at q
      exact nm_r (nI_1 _) (nm_r (nI_1 k) q)
    · rw [tv_cn_f (G := fun k => tv_cn (tv_g aL aR aO cH cF n c (nI k)) 256 = a) (m := k) z] at q
      exact nm_r (nI_1 k) q
end
