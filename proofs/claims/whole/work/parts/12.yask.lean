/-- the reference's table holds the real patterns -/
def tv_kr (aL aR aO fe : Nat → Int32) (n : Nat) : Prop := ∀ p, p < 256 → fe p = tv_i (tv_F aL aR aO n p)
/-- what next answers -/
def tv_nx (G : Nat → Prop) (s : Nat) (r : Int32) : Prop := (∃ q, r = nI q ∧ s ≤ q ∧ q < 256 ∧ G q ∧ ∀ p, s ≤ p → p < q → ¬ G p) ∨ (r = -3000 ∧ ∀ p, s ≤ p → p < 256 → ¬ G p)
/-- some rank order lets t and u differ -/
def tv_DY (L R : Nat → Nat) (O : Nat → Int) (n p t u m : Nat) : Prop := ∃ r, r < m ∧ tv_io r = true ∧ tv_Good (tv_SY 1000000000 L R O n p r) ∧ (¬ tv_yw (tv_SY 1000000 L R O n p r) 7 t u = 0 ∨ ¬ tv_yw (tv_SY 1000000 L R O n p r) 7 u t = 0)
def tv_vy (L R : Nat → Nat) (O : Nat → Int) (n p t u m : Nat) (v : Int) : Prop := ∃ r, r < m ∧ tv_io r = true ∧ tv_Good (tv_SY 1000000000 L R O n p r) ∧ v = tv_yw (tv_SY 1000000 L R O n p r) 7 t u
def tv_wy (aL aR aO cH cF : Nat → Int32) (n c t u m : Nat) (v : Int) : Prop := ∃ q, q < m ∧ tv_g aL aR aO cH cF n c (-1) q ∧ tv_vy (tv_L aL) (tv_L aR) (tv_O aO) n q t u 27 v
theorem tv_SY_E7 {L R : Nat → Nat} {O : Nat → Int} {n p r : Nat} (h : tv_va L R O n) (hr : r < 27) : tv_EM 2688 (tv_fw (tv_SY 1000000000 L R O n p r) 7) (tv_yw (tv_SY 1000000 L R O n p r) 7) := by
  have e : tv_bd 7 = 2688 := by decide +kernel
  rw [← e]
  exact tv_EM_fw (tv_SY_E h hr) 7 (Nat.le_refl 7)
theorem tv_DXY {L R : Nat → Nat} {O : Nat → Int} {n p t u : Nat} (h : tv_va L R O n) (ht : t < 7) (hu : u < 7) : tv_DX L R O n p t u ↔ tv_DY L R O n p t u 27 := by
  constructor
  · rintro ⟨o, ho, g, z⟩
    obtain ⟨r, hr, hi, g', e⟩ := tv_toY h ho g
    rw [e t u ht hu, e u t hu ht] at z
    exact ⟨r, hr, hi, g', (tv_diff ht hu (tv_SY_B h hr) g' (tv_SY_E7 h hr)).mpr z⟩
  · rintro ⟨r, hr, hi, g, z⟩
    obtain ⟨o, ho, g', e⟩ := tv_toX h hr hi g
    refine ⟨o, ho, g', ?_⟩
    rw [e t u ht hu, e u t hu ht]
    exact (tv_diff ht hu (tv_SY_B h hr) g (tv_SY_E7 h hr)).mp z
theorem tv_vxy {L R : Nat → Nat} {O : Nat → Int} {n p t u : Nat} (h : tv_va L R O n) (ht : t < 7) (hu : u < 7) : (∀ v, tv_vx L R O n p t u 27 v → ∃ w, tv_vy L R O n p t u 27 w ∧ tv_E 2688 v w) ∧ (∀ w, tv_vy L R O n p t u 27 w → ∃ v, tv_vx L R O n p t u 27 v ∧ tv_E 2688 v w) := by
  constructor
  · rintro v ⟨o, ho, g, rfl⟩
    obtain ⟨r, hr, hi, g', e⟩ := tv_toY h ho g
    exact ⟨_, ⟨r, hr, hi, g', rfl⟩, by rw [e t u ht hu]; exact tv_SY_E7 h hr t u ht hu⟩
  · rintro w ⟨r, hr, hi, g, rfl⟩
    obtain ⟨o, ho, g', e⟩ := tv_toX h hr hi g
    exact ⟨_, ⟨o, ho, g', rfl⟩, by rw [e t u ht hu]; exact tv_SY_E7 h hr t u ht hu⟩
theorem tv_vy_low {L R : Nat → Nat} {O : Nat → Int} {n p t u m : Nat} {v : Int} (h : tv_va L R O n) (hm : m ≤ 27) (ht : t < 7) (hu : u < 7) (hv : tv_vy L R O n p t u m v) : -3000 < v := by
  obtain ⟨r, hr, hi, g, rfl⟩ := hv
  have e := tv_SY_E7 (p := p) h (show r < 27 by omega) t u ht hu
  unfold tv_E at e
  omega
theorem tv_3k : (-3000 : Int32) < 0 := by decide
section
variable {fa fc fl kn : Int32} {aL aR aO li sz lA lC fe mo : Nat → Int32} {cH cF : Nat → Int32}
theorem ty_ff2 {post : SY → Prop} {n : Nat} (hn : n ≤ 8) (av : tv_av aL aR aO n) (K : ∀ f' b', tv_kr aL aR aO f' n → post (nI n, fc, fl, 1, aL, aR, aO, li, sz, lA, lC, f', b')) :
    ∀ (d i m : Nat) (f b : Nat → Int32), i + d = 256 → d < m → (∀ q, q < i → f q = tv_i (tv_F aL aR aO n q)) → wY_findFeasible_2 post m (nI i) (nI n) fc fl 0 aL aR aO li sz lA lC f b := by
  have h8 := tv_p8 hn
  intro d
  induction d with
  | zero =>
    intro i m f b hi hm h
    obtain ⟨m, rfl⟩ := tv_q hm
    have e : i = 256 := by omega
    subst e
    rw [wY_findFeasible_2]
    exact br_t (nI_le (Nat.le_refl _) (by omega)) (K f b h)
  | succ d ih =>
    intro i m f b hi hm h
    obtain ⟨m, rfl⟩ := tv_q hm
    rw [wY_findFeasible_2]
    dsimp only
    rw [tv_pow (show n < 31 by omega), nI_clamp (show i < 2 ^ 31 by omega)]
    have w : vp_in (nI i) 256 := vp_in_nI (by omega) (by omega)
    have up : ∀ v : Int32, v = tv_i (tv_F aL aR aO n i) → ∀ q, q < i + 1 → upd f i v q = tv_i (tv_F aL aR aO n q) := by
      intro v hv q hq
      by_cases z : q = i
      · subst z; rw [pk_us]; exact hv
      · rw [pk_un z]; exact h q (by omega)
    refine br_f (nI_ge (b := 256) (by omega) (by decide)) (br_t rfl (pk_le (2 ^ n) i (fun c => ?_) (fun c => ?_)))
    · exact ⟨w, nm_r (congrArg _ tv_nb0) (nm_r (nI_1 i) (ih (i + 1) m _ b (by omega) (by omega) (up 0 (tv_i_f (fun z => by have := z.1; omega)).symm)))⟩
    · exact ty_feas hn (by omega) av (fun g b' => br_f (by decide) ⟨w, nm_r (congrArg _ tv_nb1) (nm_r (nI_1 i) (ih (i + 1) m _ b' (by omega) (by omega) (up 1 (tv_i_t ⟨c, g⟩).symm)))⟩) (fun g b' => br_t rfl ⟨w, nm_r (congrArg _ tv_nb0) (nm_r (nI_1 i) (ih (i + 1) m _ b' (by omega) (by omega) (up 0 (tv_i_f (fun z => g z.2)).symm)))⟩)
theorem ty_ff {post : SY → Prop} {n : Nat} (hn : n ≤ 8) (av : tv_av aL aR aO n) (hk : tv_kn aL aR aO fe kn n) (K : ∀ f' b', tv_kr aL aR aO f' n → post (nI n, fc, fl, 1, aL, aR, aO, li, sz, lA, lC, f', b')) : wpY_findFeasible post (nI n, fc, fl, kn, aL, aR, aO, li, sz, lA, lC, fe, mo) := by
  unfold wpY_findFeasible
  by_cases c : kn = 0
  · subst c
    exact ⟨257, ty_ff2 hn av K 256 0 257 fe mo (by omega) (by omega) (fun q hq => absurd hq (by omega))⟩
  · refine ⟨1, ?_⟩
    rw [wY_findFeasible_2]
    exact br_f (by decide) (br_f c (K fe mo (hk c)))
theorem ty_meets2 {post : Int32 → Prop} {k s p : Nat} (hk : k < 16) (hp : p < 256) (hs : s ≤ 4) (es : sz k = nI s) (hl : tv_li li (4 * k) s) (K1 : tv_ym li (4 * k) s p → post 1) (K0 : ¬ tv_ym li (4 * k) s p → post 0) :
    ∀ d i m : Nat, i + d = s → d < m → (∀ q, q < i → ¬ tv_lb p (li (4 * k + q)).toNatClampNeg) → wY_meets_2 post (nI p) (nI k) fa fc fl kn aL aR aO li sz lA lC fe mo m (nI i) := by
  intro d
  induction d with
  | zero =>
    intro i m hi hm h
    obtain ⟨m, rfl⟩ := tv_q hm
    have e : i = s := by omega
    subst e
    rw [wY_meets_2]
    dsimp only
    rw [nI_clamp (show k < 2 ^ 31 by omega), es]
    exact ⟨vp_in_nI (by omega) (by omega), br_t (nI_le (Nat.le_refl _) (by omega)) (K0 (fun ⟨q, hq, z⟩ => h q hq z))⟩
  | succ d ih =>
    intro i m hi hm h
    obtain ⟨m, rfl⟩ := tv_q hm
    obtain ⟨j, hj, ej⟩ := hl i (by omega)
    rw [wY_meets_2]
    dsimp only
    rw [tv_4, nI_clamp (show k < 2 ^ 31 by omega), nI_clamp (show 4 * k + i < 2 ^ 31 by omega), es, ej]
    have n2 : ¬ (2 : Int32) = 0 := by decide
    refine ⟨vp_in_nI (by omega) (by omega), br_f (nI_ge (by omega) (by omega)) ⟨vp_in_nI (by omega) (by omega), nm_e ⟨n2, n2, ?_⟩⟩⟩
    rw [tv_r2 (show j < 2 ^ 31 by omega), tv_d2 (show j < 2 ^ 31 by omega), tv_bit (by omega) (by omega)]
    have ec : (li (4 * k + i)).toNatClampNeg = j := by rw [ej]; exact nI_clamp (by omega)
    refine pk_eq (p / 2 ^ (j / 2) % 2) (j % 2) (fun c => ?_) (fun c => ?_) rfl rfl (Nat.lt_trans (Nat.mod_lt _ (by decide)) (by decide)) (by omega)
    · exact nm_r (nI_1 i) (ih (i + 1) m (by omega) (by omega) (lt_s h (by rw [ec]; exact fun z => z c)))
    · exact K1 ⟨i, by omega, by rw [ec]; exact c⟩
theorem ty_meets {post : Int32 → Prop} {k s p : Nat} (hk : k < 16) (hp : p < 256) (hs : s ≤ 4) (es : sz k = nI s) (hl : tv_li li (4 * k) s) (K1 : tv_ym li (4 * k) s p → post 1) (K0 : ¬ tv_ym li (4 * k) s p → post 0) : wpY_meets post (fa, fc, fl, kn, aL, aR, aO, li, sz, lA, lC, fe, mo) (nI p) (nI k) := by
  unfold wpY_meets
  exact ⟨s + 1, ty_meets2 hk hp hs es hl K1 K0 s 0 (s + 1) (by omega) (by omega) (fun q hq => absurd hq (by omega))⟩
theorem ty_good2 {post : Int32 → Prop} {n c p : Nat} {but : Int32} (hc : c ≤ 16) (hp : p < 256) (cs : tv_cs cH cF li sz c) (kr : tv_kr aL aR aO fe n) (K1 : tv_g aL aR aO cH cF n c but p → post 1) (K0 : ¬ tv_g aL aR aO cH cF n c but p → post 0) :
    ∀ d k m : Nat, k + d = c → d < m → (∀ j, j < k → ¬ nI j = but → tv_xm (cH j) (cF j) p) → wY_isGood_2 post (nI p) but fa (nI c) fl kn aL aR aO li sz lA lC fe mo m (nI k) := by
  intro d
  induction d with
  | zero =>
    intro k m hi hm h
    obtain ⟨m, rfl⟩ := tv_q hm
    have e : k = c := by omega
    subst e
    rw [wY_isGood_2]
    dsimp only
    rw [nI_clamp (show p < 2 ^ 31 by omega), kr p hp]
    refine br_t (nI_le (Nat.le_refl _) (by omega)) ⟨vp_in_nI (by omega) (by omega), tv_i_n _, ?_⟩
    by_cases f : tv_F aL aR aO n p
    · rw [tv_i_t f]; exact K1 ⟨f, h⟩
    · rw [tv_i_f f]; exact K0 (fun z => f z.1)
  | succ d ih =>
    intro k m hi hm h
    obtain ⟨m, rfl⟩ := tv_q hm
    obtain ⟨s, hs, es, hl, hx⟩ := cs k (by omega)
    rw [wY_isGood_2]
    exact br_f (nI_ge (by omega) (by omega)) (br_c (fun e => nm_r (nI_1 k) (ih (k + 1) m (by omega) (by omega) (lt_s h (fun z => absurd e z)))) (fun e => ty_meets (by omega) hp hs es hl (fun g => br_f (by decide) (nm_r (nI_1 k) (ih (k + 1) m (by omega) (by omega) (lt_s h (fun _ => (hx p hp).mpr g))))) (fun g => br_t rfl (K0 (fun z => g ((hx p hp).mp (z.2 k (by omega) e)))))))
theorem ty_good {post : Int32 → Prop} {n c p : Nat} {but : Int32} (hc : c ≤ 16) (hp : p < 256) (cs : tv_cs cH cF li sz c) (kr : tv_kr aL aR aO fe n) (K1 : tv_g aL aR aO cH cF n c but p → post 1) (K0 : ¬ tv_g aL aR aO cH cF n c but p → post 0) : wpY_isGood post (fa, nI c, fl, kn, aL, aR, aO, li, sz, lA, lC, fe, mo) (nI p) but := by
  unfold wpY_isGood
  exact ⟨c + 1, ty_good2 hc hp cs kr K1 K0 c 0 (c + 1) (by omega) (by omega) (fun j hj => absurd hj (by omega))⟩
theorem ty_next17 {post : Int32 → SY → Prop} {n c s : Nat} {but : Int32} (hc : c ≤ 16) (cs : tv_cs cH cF li sz c) (kr : tv_kr aL aR aO fe n) (K : ∀ r, tv_nx (tv_g aL aR aO cH cF n c but) s r → post r (fa, nI c, fl, kn, aL, aR, aO, li, sz, lA, lC, fe, mo)) :
    ∀ d i m : Nat, i + d = 256 → d < m → s ≤ i → (∀ p, s ≤ p → p < i → ¬ tv_g aL aR aO cH cF n c but p) → wY_next_17 post but fa (nI c) fl kn aL aR aO li sz lA lC fe mo m (nI i) := by
  intro d
  induction d with
  | zero =>
    intro i m hi hm hs h
    obtain ⟨m, rfl⟩ := tv_q hm
    have e : i = 256 := by omega
    subst e
    rw [wY_next_17]
    exact br_t (nI_le (Nat.le_refl _) (by omega)) (K _ (Or.inr ⟨rfl, h⟩))
  | succ d ih =>
    intro i m hi hm hs h
    obtain ⟨m, rfl⟩ := tv_q hm
    rw [wY_next_17]
    refine br_f (nI_ge (b := 256) (by omega) (by decide)) (ty_good hc (by omega) cs kr (fun g => br_f (by decide) (K _ (Or.inl ⟨i, rfl, hs, by omega, g, h⟩))) (fun g => br_t rfl (nm_r (nI_1 i) (ih (i + 1) m (by omega) (by omega) (by omega) ?_))))
    intro p h1 h2
    by_cases z : p = i
    · subst z; exact g
    · exact h p h1 (by omega)
theorem ty_next {post : Int32 → SY → Prop} {n c s : Nat} {but : Int32} (hn : n ≤ 8) (hc : c ≤ 16) (av : tv_av aL aR aO n) (cs : tv_cs cH cF li sz c) (hk : tv_kn aL aR aO fe kn n) (hs : s < 2 ^ 31) (K : ∀ r f' b', tv_kr aL aR aO f' n → tv_nx (tv_g aL aR aO cH cF n c but) s r → post r (nI n, nI c, fl, 1, aL, aR, aO, li, sz, lA, lC, f', b')) : wpY_next post (nI n, nI c, fl, kn, aL, aR, aO, li, sz, lA, lC, fe, mo) (nI s) but := by
  unfold wpY_next
  dsimp only
  refine ty_ff hn av hk (fun f' b' kr => br_t (nI_pos' hs) ?_)
  by_cases c1 : s ≤ 256
  · exact ⟨257 - s, ty_next17 hc cs kr (fun r hr => K r f' b' kr hr) (256 - s) s (257 - s) (by omega) (by omega) (Nat.le_refl s) (fun p h1 h2 => absurd h1 (by omega))⟩
  · refine ⟨1, ?_⟩
    rw [wY_next_17]
    exact br_t (nI_le (a := 256) (by omega) hs) (K _ f' b' kr (Or.inr ⟨rfl, fun p h1 h2 => absurd h1 (by omega)⟩))
theorem ty_nextn {post : Int32 → SY → Prop} {n c : Nat} {but x : Int32} (hn : n ≤ 8) (hc : c ≤ 16) (av : tv_av aL aR aO n) (cs : tv_cs cH cF li sz c) (hk : tv_kn aL aR aO fe kn n) (hx : ¬ 0 ≤ x) (K : ∀ r f' b', tv_kr aL aR aO f' n → tv_nx (tv_g aL aR aO cH cF n c but) 0 r → post r (nI n, nI c, fl, 1, aL, aR, aO, li, sz, lA, lC, f', b')) : wpY_next post (nI n, nI c, fl, kn, aL, aR, aO, li, sz, lA, lC, fe, mo) x but := by
  unfold wpY_next
  dsimp only
  exact ty_ff hn av hk (fun f' b' kr => br_f hx ⟨257, ty_next17 hc cs kr (fun r hr => K r f' b' kr hr) 256 0 257 (by omega) (by omega) (Nat.le_refl 0) (fun p h1 h2 => absurd h2 (by omega))⟩)
theorem ty_implied17 {post : Int32 → SY → Prop} {n c j : Nat} (hn : n ≤ 8) (hc : c ≤ 16) (av : tv_av aL aR aO n) (cs : tv_cs cH cF li sz c) (hj : j < 16) (K1 : (∀ p, p < 256 → tv_g aL aR aO cH cF n c (-1) p → tv_lb p j) → ∀ f' b', tv_kr aL aR aO f' n → post 1 (nI n, nI c, fl, 1, aL, aR, aO, li, sz, lA, lC, f', b')) (K0 : (∃ p, p < 256 ∧ tv_g aL aR aO cH cF n c (-1) p ∧ ¬ tv_lb p j) → ∀ f' b', tv_kr aL aR aO f' n → post 0 (nI n, nI c, fl, 1, aL, aR, aO, li, sz, lA, lC, f', b')) :
    ∀ (m s : Nat) (r : Int32) (f b : Nat → Int32), 256 - s < m → tv_kr aL aR aO f n → tv_nx (tv_g aL aR aO cH cF n c (-1)) s r → (∀ p, p < s → tv_g aL aR aO cH cF n c (-1) p → tv_lb p j) → wY_implied_17 post (nI j) m r (nI n) (nI c) fl 1 aL aR aO li sz lA lC f b := by
  intro m
  induction m with
  | zero => intro s r f b hm; omega
  | succ m ih =>
    intro s r f b hm kr hr h
    rw [wY_implied_17]
    dsimp only
    have n2 : ¬ (2 : Int32) = 0 := by decide
    rcases hr with ⟨q, rfl, hs, hq, g, hg⟩ | ⟨rfl, hg⟩
    · rw [tv_r2 (show j < 2 ^ 31 by omega), tv_d2 (show j < 2 ^ 31 by omega), tv_bit (by omega) (by omega), nI_1]
      refine br_f (nI_pos (by omega)) ⟨n2, n2, pk_eq (q / 2 ^ (j / 2) % 2) (j % 2) (fun z => ?_) (fun z => ?_) rfl rfl (Nat.lt_trans (Nat.mod_lt _ (by decide)) (by decide)) (by omega)⟩
      · exact K0 ⟨q, hq, g, fun y => y z⟩ f b kr
      · refine ty_next hn hc av cs (fun _ => kr) (by omega) (fun r' f' b' kr' hr' => ih (q + 1) r' f' b' (by omega) kr' hr' ?_)
        intro p hp gp
        by_cases y : p = q
        · subst y; exact z
        · by_cases y2 : p < s
          · exact h p y2 gp
          · exact absurd gp (hg p (by omega) (by omega))
    · refine br_t tv_3k (K1 (fun p hp gp => ?_) f b kr)
      by_cases y2 : p < s
      · exact h p y2 gp
      · exact absurd gp (hg p (by omega) hp)
theorem ty_differ14 {post : Int32 → SY → Prop} {J : Int32 → Int32 → Int32 → Int32 → Int32 → (Nat → Int32) → (Nat → Int32) → (Nat → Int32) → (Nat → Int32) → (Nat → Int32) → (Nat → Int32) → (Nat → Int32) → (Nat → Int32) → (Nat → Int32) → Prop} {n c t u q : Nat} (hn : n ≤ 8) (hc : c ≤ 16) (av : tv_av aL aR aO n) (cs : tv_cs cH cF li sz c) (ht : t < 7) (hu : u < 7) (hq : q < 256) (kr : tv_kr aL aR aO fe n)
    (K1 : tv_DY (tv_L aL) (tv_L aR) (tv_O aO) n q t u 27 → ∀ b', post 1 (nI n, nI c, fl, 1, aL, aR, aO, li, sz, lA, lC, fe, b')) (K0 : ¬ tv_DY (tv_L aL) (tv_L aR) (tv_O aO) n q t u 27 → ∀ r' f' b', tv_kr aL aR aO f' n → tv_nx (tv_g aL aR aO cH cF n c (-1)) (q + 1) r' → J r' (nI n) (nI c) fl 1 aL aR aO li sz lA lC f' b') :
    ∀ (d o m : Nat) (b : Nat → Int32), o + d = 27 → d < m → ¬ tv_DY (tv_L aL) (tv_L aR) (tv_O aO) n q t u o → wY_canDiffer_14 post J (nI t) (nI u) (nI q) m (nI o) (nI n) (nI c) fl 1 aL aR aO li sz lA lC fe b := by
  intro d
  induction d with
  | zero =>
    intro o m b hi hm h
    obtain ⟨m, rfl⟩ := tv_q hm
    have e : o = 27 := by omega
    subst e
    rw [wY_canDiffer_14]
    dsimp only
    rw [nI_1 q]
    exact br_t (nI_le (Nat.le_refl _) (by omega)) (ty_next hn hc av cs (fun _ => kr) (by omega) (fun r' f' b' kr' hr' => K0 h r' f' b' kr' hr'))
  | succ d ih =>
    intro o m b hi hm h
    obtain ⟨m, rfl⟩ := tv_q hm
    have ho : o < 27 := by omega
    rw [wY_canDiffer_14]
    dsimp only
    rw [tv_7, tv_7]
    have w1 : vp_in (nI (7 * t + u)) 49 := vp_in_nI (by omega) (by omega)
    have w2 : vp_in (nI (7 * u + t)) 49 := vp_in_nI (by omega) (by omega)
    have nx : ∀ b', (tv_io o = true → tv_Good (tv_SY 1000000000 (tv_L aL) (tv_L aR) (tv_O aO) n q o) → ¬ (¬ tv_yw (tv_SY 1000000 (tv_L aL) (tv_L aR) (tv_O aO) n q o) 7 t u = 0 ∨ ¬ tv_yw (tv_SY 1000000 (tv_L aL) (tv_L aR) (tv_O aO) n q o) 7 u t = 0)) → ∀ y, y = nI o + 1 → wY_canDiffer_14 post J (nI t) (nI u) (nI q) m y (nI n) (nI c) fl 1 aL aR aO li sz lA lC fe b' := by
      intro b' g
      refine nm_r (nI_1 o) (ih (o + 1) m b' (by omega) (by omega) ?_)
      rintro ⟨x, hx, ix, gx, dx⟩
      by_cases y : x = o
      · subst y; exact g ix gx dx
      · exact h ⟨x, by omega, ix, gx, dx⟩
    refine br_f (nI_ge (b := 27) (by omega) (by decide)) (ty_isOrder ho (fun io => br_f (by decide) (ty_findMost ho hn (by omega) av (fun g b' hb => br_f (by decide) ⟨w1, ?_⟩) (fun g b' => br_t rfl (nx b' (fun _ z => absurd z g))))) (fun io => br_t rfl (nx b (fun z => absurd z io))))
    rw [nI_clamp (show 7 * t + u < 2 ^ 31 by omega), nI_clamp (show 7 * u + t < 2 ^ 31 by omega)]
    have e1 := hb t u ht hu
    have e2 := hb u t hu ht
    have z0 : ∀ x : Int32, x = 0 ↔ x.toInt = 0 := fun x => ⟨fun z => by rw [z]; exact tv_z0, fun z => Int32.toInt_inj.mp (z.trans tv_z0.symm)⟩
    refine br_c (fun c1 => ⟨w2, br_c (fun c2 => nx b' (fun _ _ z => ?_)) (fun c2 => ?_)⟩) (fun c1 => ?_)
    · rw [z0, e1] at c1
      rw [z0, e2] at c2
      rcases z with z | z
      · exact z c1
      · exact z c2
    · rw [z0, e2] at c2
      exact K1 ⟨o, ho, io, g, Or.inr c2⟩ b'
    · rw [z0, e1] at c1
      exact K1 ⟨o, ho, io, g, Or.inl c1⟩ b'
theorem ty_differ7 {post : Int32 → SY → Prop} {n c t u : Nat} (hn : n ≤ 8) (hc : c ≤ 16) (av : tv_av aL aR aO n) (cs : tv_cs cH cF li sz c) (ht : t < 7) (hu : u < 7)
    (K1 : (∃ p, p < 256 ∧ tv_g aL aR aO cH cF n c (-1) p ∧ tv_DY (tv_L aL) (tv_L aR) (tv_O aO) n p t u 27) → ∀ f' b', tv_kr aL aR aO f' n → post 1 (nI n, nI c, fl, 1, aL, aR, aO, li, sz, lA, lC, f', b')) (K0 : (∀ p, p < 256 → tv_g aL aR aO cH cF n c (-1) p → ¬ tv_DY (tv_L aL) (tv_L aR) (tv_O aO) n p t u 27) → ∀ f' b', tv_kr aL aR aO f' n → post 0 (nI n, nI c, fl, 1, aL, aR, aO, li, sz, lA, lC, f', b')) :
    ∀ (m s : Nat) (r : Int32) (f b : Nat → Int32), 256 - s < m → tv_kr aL aR aO f n → tv_nx (tv_g aL aR aO cH cF n c (-1)) s r → (∀ p, p < s → tv_g aL aR aO cH cF n c (-1) p → ¬ tv_DY (tv_L aL) (tv_L aR) (tv_O aO) n p t u 27) → wY_canDiffer_7 post (nI t) (nI u) m r (nI n) (nI c) fl 1 aL aR aO li sz lA lC f b := by
  intro m
  induction m with
  | zero => intro s r f b hm; omega
  | succ m ih =>
    intro s r f b hm kr hr h
    rw [wY_canDiffer_7]
    rcases hr with ⟨q, rfl, hs, hq, g, hg⟩ | ⟨rfl, hg⟩
    · refine br_f (nI_pos (by omega)) ⟨28, ty_differ14 hn hc av cs ht hu hq kr (fun z b' => K1 ⟨q, hq, g, z⟩ f b' kr) (fun z r' f' b' kr' hr' => ih (q + 1) r' f' b' (by omega) kr' hr' ?_) 27 0 28 b (by omega) (by omega) (fun ⟨x, hx, _⟩ => absurd hx (by omega))⟩
      intro p hp gp
      by_cases y : p = q
      · subst y; exact z
      · by_cases y2 : p < s
        · exact h p y2 gp
        · exact absurd gp (hg p (by omega) (by omega))
    · refine br_t tv_3k (K0 (fun p hp gp => ?_) f b kr)
      by_cases y2 : p < s
      · exact h p y2 gp
      · exact absurd gp (hg p (by omega) hp)
theorem ty_differ {post : Int32 → SY → Prop} {n c t u : Nat} (hn : n ≤ 8) (hc : c ≤ 16) (av : tv_av aL aR aO n) (cs : tv_cs cH cF li sz c) (hk : tv_kn aL aR aO fe kn n) (ht : t < 7) (hu : u < 7)
    (K1 : (∃ p, p < 256 ∧ tv_g aL aR aO cH cF n c (-1) p ∧ tv_DY (tv_L aL) (tv_L aR) (tv_O aO) n p t u 27) → ∀ f' b', tv_kr aL aR aO f' n → post 1 (nI n, nI c, fl, 1, aL, aR, aO, li, sz, lA, lC, f', b')) (K0 : (∀ p, p < 256 → tv_g aL aR aO cH cF n c (-1) p → ¬ tv_DY (tv_L aL) (tv_L aR) (tv_O aO) n p t u 27) → ∀ f' b', tv_kr aL aR aO f' n → post 0 (nI n, nI c, fl, 1, aL, aR, aO, li, sz, lA, lC, f', b')) : wpY_canDiffer post (nI n, nI c, fl, kn, aL, aR, aO, li, sz, lA, lC, fe, mo) (nI t) (nI u) := by
  unfold wpY_canDiffer
  exact ty_next (s := 0) hn hc av cs hk (by omega) (fun r f' b' kr hr => ⟨257, ty_differ7 hn hc av cs ht hu K1 K0 257 0 r f' b' (by omega) kr hr (fun p hp => absurd hp (by omega))⟩)
end
