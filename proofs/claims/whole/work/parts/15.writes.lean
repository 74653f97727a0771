theorem i_vc_atoms {k : Nat} {u : SX} {v : SY} (I : i_Rel k u v) (hk : k + 4 ≤ 2048) : wpX_atoms (fun r => wpY_atoms (fun r' => r' = r ∧ i_Rel (k + 4) u v) v) u := by
  obtain ⟨n, c, d, l, fh, ff, kn, aL, aR, aO, cH, cF, lA, lC, rl, bd, li, sz, fe, mo, rfl, rfl, R⟩ := I
  exact ⟨rfl, tv_mk R⟩
theorem i_vc_clauses {k : Nat} {u : SX} {v : SY} (I : i_Rel k u v) (hk : k + 4 ≤ 2048) : wpX_clauses (fun r => wpY_clauses (fun r' => r' = r ∧ i_Rel (k + 4) u v) v) u := by
  obtain ⟨n, c, d, l, fh, ff, kn, aL, aR, aO, cH, cF, lA, lC, rl, bd, li, sz, fe, mo, rfl, rfl, R⟩ := I
  exact ⟨rfl, tv_mk R⟩
theorem i_vc_scrap {k : Nat} {u : SX} {v : SY} (I : i_Rel k u v) (hk : k + 4 ≤ 2048) : wpX_scrap (fun u' => wpY_scrap (fun v' => i_Rel (k + 4) u' v') v) u := by
  obtain ⟨n, c, d, l, fh, ff, kn, aL, aR, aO, cH, cF, lA, lC, rl, bd, li, sz, fe, mo, rfl, rfl, R⟩ := I
  obtain ⟨⟨hn, hc, hd, hl⟩, av, lv, cs, ⟨es, cl⟩, rp, kk⟩ := R
  unfold wpX_scrap wpX_emptyDraft wpY_scrap
  dsimp only
  exact nm_e (tv_mk (d := 0) ⟨⟨hn, hc, by omega, hl⟩, av, lv, tv_cs_congr cs (fun k hk => ⟨rfl, rfl, pk_un (by omega)⟩) (fun q hq => rfl), ⟨pk_us, tv_cl_0 _ _⟩, rp, kk⟩)
theorem i_vc_open {k : Nat} {u : SX} {v : SY} (I : i_Rel k u v) (hk : k + 4 ≤ 2048) : wpX_open (fun r u' => wpY_open (fun r' v' => r' = r ∧ i_Rel (k + 4) u' v') v) u := by
  obtain ⟨n, c, d, l, fh, ff, kn, aL, aR, aO, cH, cF, lA, lC, rl, bd, li, sz, fe, mo, rfl, rfl, R⟩ := I
  have R' := R
  obtain ⟨⟨hn, hc, hd, hl⟩, av, lv, cs, ⟨es, cl⟩, rp, kk⟩ := R
  unfold wpX_open wpY_open
  dsimp only
  rw [nI_clamp (show l < 2 ^ 31 by omega)]
  by_cases h : l = 4
  · subst h
    exact br_f (nI_nlt (a := 4) (b := 4) (by omega) (by omega)) (br_t rfl ⟨rfl, tv_mk R'⟩)
  · have w : vp_in (nI l) 4 := vp_in_nI (by omega) (by omega)
    have e : ¬ nI l = 4 := fun z => h ((nI_eq (a := l) (b := 4) (by omega) (by omega)).mp z)
    refine br_t (nI_lt (b := 4) (by omega) (by omega)) ⟨w, nm_e ⟨w, nm_e (nm_r (nI_1 l) (br_f e ⟨w, nm_e ⟨w, nm_e (nm_r (nI_1 l) ⟨rfl, tv_mk ?_⟩)⟩⟩))⟩⟩
    exact ⟨⟨hn, hc, hd, by omega⟩, av, tv_lv_push lv, cs, ⟨es, cl⟩, rp, kk⟩
theorem i_vc_close {k : Nat} {u : SX} {v : SY} (I : i_Rel k u v) (hk : k + 4 ≤ 2048) : wpX_close (fun r u' => wpY_close (fun r' v' => r' = r ∧ i_Rel (k + 4) u' v') v) u := by
  obtain ⟨n, c, d, l, fh, ff, kn, aL, aR, aO, cH, cF, lA, lC, rl, bd, li, sz, fe, mo, rfl, rfl, R⟩ := I
  have R' := R
  obtain ⟨⟨hn, hc, hd, hl⟩, av, lv, cs, ⟨es, cl⟩, rp, kk⟩ := R
  unfold wpX_close wpX_emptyDraft wpY_close
  dsimp only
  cases l with
  | zero => exact br_f (by decide) (br_t rfl ⟨rfl, tv_mk R'⟩)
  | succ l =>
    obtain ⟨a, b, ha, hb, e1, e2, lv'⟩ := lv
    have w : vp_in (nI l) 4 := vp_in_nI (by omega) (by omega)
    have ec : (nI l).toNatClampNeg = l := nI_clamp (by omega)
    have e : ¬ nI (l + 1) = 0 := nI_ne0 (by omega) (by omega)
    refine br_t (nI_lt (a := 0) (by omega) (by omega)) (nm_r (nI_pred l) ⟨w, nm_r (e' := nI a) (by rw [ec, e1]) ⟨w, nm_r (e' := nI b) (by rw [ec, e2]) (br_f e (nm_r (nI_pred l) ⟨w, nm_r (e' := nI a) (by rw [ec, e1]) ⟨w, nm_r (e' := nI b) (by rw [ec, e2]) (nm_e ⟨rfl, tv_mk (d := 0) ?_⟩)⟩⟩))⟩⟩)
    exact ⟨⟨by omega, by omega, by omega, by omega⟩, tv_av_le av ha, lv', tv_cs_congr (tv_cs_le cs hb) (fun k hk => ⟨rfl, rfl, pk_un (by omega)⟩) (fun q hq => rfl), ⟨pk_us, tv_cl_0 _ _⟩, fun m hm => rp m (by omega), fun z => absurd rfl z⟩
theorem i_vc_literal {k : Nat} {u : SX} {v : SY} (I : i_Rel k u v) (hk : k + 4 ≤ 2048) (v1 : Int32) : wpX_literal (fun r u' => wpY_literal (fun r' v' => r' = r ∧ i_Rel (k + 4) u' v') v v1) u v1 := by
  obtain ⟨n, c, d, l, fh, ff, kn, aL, aR, aO, cH, cF, lA, lC, rl, bd, li, sz, fe, mo, rfl, rfl, R⟩ := I
  have R' := R
  obtain ⟨⟨hn, hc, hd, hl⟩, av, lv, cs, ⟨es, cl⟩, rp, kk⟩ := R
  unfold wpX_literal wpY_literal
  dsimp only
  rw [es, tv_64, nI_clamp (show 64 + d < 2 ^ 31 by omega)]
  rcases tv_tm v1 (show 2 * n < 2 ^ 31 by omega) with h | ⟨j, hj, rfl⟩
  · exact tx_lit0 h (br_t rfl (ty_lit0 hn h (br_t rfl ⟨rfl, tv_mk R'⟩)))
  · by_cases h : d = 4
    · subst h
      exact tx_lit1 hn hj (br_f (by decide) (br_f (nI_nlt (a := 4) (b := 4) (by omega) (by omega)) (ty_lit1 hn hj (br_f (by decide) (br_t rfl ⟨rfl, tv_mk R'⟩)))))
    · have e : ¬ nI d = 4 := fun z => h ((nI_eq (a := d) (b := 4) (by omega) (by omega)).mp z)
      refine tx_lit1 hn hj (br_f (by decide) (br_t (nI_lt (b := 4) (by omega) (by omega)) (tx_held (by omega) (nm_e (tx_fail (by omega) (nm_e (nm_r (nI_1 d) (ty_lit1 hn hj (br_f (by decide) (br_f e ⟨vp_in_nI (by omega) (by omega), nm_e (nm_r (congrArg _ (nI_1 d)) ⟨pk_us, tv_mk (d := d + 1) ?_⟩)⟩))))))))))
      exact ⟨⟨hn, hc, by omega, hl⟩, av, lv, tv_cs_congr cs (fun k hk => ⟨rfl, rfl, pk_un (by omega)⟩) (fun q hq => pk_un (by omega)), ⟨pk_us, tv_cl_add cl (by omega)⟩, rp, kk⟩
theorem i_vc_clause {k : Nat} {u : SX} {v : SY} (I : i_Rel k u v) (hk : k + 4 ≤ 2048) : wpX_clause (fun r u' => wpY_clause (fun r' v' => r' = r ∧ i_Rel (k + 4) u' v') v) u := by
  obtain ⟨n, c, d, l, fh, ff, kn, aL, aR, aO, cH, cF, lA, lC, rl, bd, li, sz, fe, mo, rfl, rfl, R⟩ := I
  have R' := R
  obtain ⟨⟨hn, hc, hd, hl⟩, av, lv, cs, ⟨es, cl⟩, rp, kk⟩ := R
  unfold wpX_clause wpX_addClause wpX_emptyDraft wpY_clause
  dsimp only
  rw [nI_clamp (show c < 2 ^ 31 by omega)]
  by_cases h : c = 16
  · subst h
    exact br_f (nI_nlt (a := 16) (b := 16) (by omega) (by omega)) (br_t rfl ⟨rfl, tv_mk R'⟩)
  · have w : vp_in (nI c) 16 := vp_in_nI (by omega) (by omega)
    have e : ¬ nI c = 16 := fun z => h ((nI_eq (a := c) (b := 16) (by omega) (by omega)).mp z)
    refine br_t (nI_lt (b := 16) (by omega) (by omega)) ⟨w, nm_e ⟨w, nm_e (nm_r (nI_1 c) (br_f e ⟨5, ty_clause15 (by omega) (fun l' h1 h2 => ⟨rfl, tv_mk (d := 0) ?_⟩) 4 0 5 li (by omega) (by omega) (fun q hq => absurd hq (by omega)) (fun q _ => rfl)⟩))⟩⟩
    have cs' : tv_cs (upd cH c fh) (upd cF c ff) l' (upd (upd sz c (sz 16)) 16 0) c := tv_cs_congr cs (fun k hk => ⟨pk_un (by omega), pk_un (by omega), (pk_un (by omega)).trans (pk_un (by omega))⟩) (fun q hq => h2 q (Or.inl hq))
    refine ⟨⟨hn, by omega, by omega, hl⟩, av, tv_lv_up lv (Nat.le_refl n) (by omega), tv_cs_add (s := d) cs' hd ?_ ?_, ⟨pk_us, tv_cl_0 _ _⟩, rp, kk⟩
    · rw [pk_un (by omega), pk_us, es]
    · rw [pk_us, pk_us]
      exact tv_cl_congr (fun i hi => h1 i (by omega)) cl
theorem i_vc_fact {k : Nat} {u : SX} {v : SY} (I : i_Rel k u v) (hk : k + 4 ≤ 2048) (v1 : Int32) : wpX_fact (fun r u' => wpY_fact (fun r' v' => r' = r ∧ i_Rel (k + 4) u' v') v v1) u v1 := by
  obtain ⟨n, c, d, l, fh, ff, kn, aL, aR, aO, cH, cF, lA, lC, rl, bd, li, sz, fe, mo, rfl, rfl, R⟩ := I
  have R' := R
  obtain ⟨⟨hn, hc, hd, hl⟩, av, lv, cs, ⟨es, cl⟩, rp, kk⟩ := R
  unfold wpX_fact wpX_addClause wpY_fact
  dsimp only
  rw [tv_40, nI_clamp (show c < 2 ^ 31 by omega), nI_clamp (show 4 * c < 2 ^ 31 by omega)]
  rcases tv_tm v1 (show 2 * n < 2 ^ 31 by omega) with h | ⟨j, hj, rfl⟩
  · exact tx_lit0 h (br_t rfl (ty_lit0 hn h (br_t rfl ⟨rfl, tv_mk R'⟩)))
  · by_cases h : c = 16
    · subst h
      exact tx_lit1 hn hj (br_f (by decide) (br_f (nI_nlt (a := 16) (b := 16) (by omega) (by omega)) (ty_lit1 hn hj (br_f (by decide) (br_t rfl ⟨rfl, tv_mk R'⟩)))))
    · have w : vp_in (nI c) 16 := vp_in_nI (by omega) (by omega)
      have e : ¬ nI c = 16 := fun z => h ((nI_eq (a := c) (b := 16) (by omega) (by omega)).mp z)
      refine tx_lit1 hn hj (br_f (by decide) (br_t (nI_lt (b := 16) (by omega) (by omega)) (tx_held (by omega) (tx_fail (by omega) ⟨w, nm_e ⟨w, nm_e (nm_r (nI_1 c) (ty_lit1 hn hj (br_f (by decide) (br_f e ⟨vp_in_nI (by omega) (by omega), nm_e ⟨vp_in_nI (by omega) (by omega), nm_e (nm_r (nI_1 c) ⟨nI_pred c, tv_mk ?_⟩)⟩⟩))))⟩⟩))))
      have cs' : tv_cs (upd cH c (tv_he j)) (upd cF c (tv_fa j)) (upd li (4 * c) (nI j)) (upd sz c 1) c := tv_cs_congr cs (fun k hk => ⟨pk_un (by omega), pk_un (by omega), pk_un (by omega)⟩) (fun q hq => pk_un (by omega))
      refine ⟨⟨hn, by omega, hd, hl⟩, av, tv_lv_up lv (Nat.le_refl n) (by omega), tv_cs_add (s := 1) cs' (by omega) pk_us ?_, ⟨(pk_un (by omega)).trans es, tv_cl_congr (fun i hi => pk_un (by omega)) cl⟩, rp, kk⟩
      rw [pk_us, pk_us]
      exact tv_cl_1 (by omega)
theorem i_vc_atom {k : Nat} {u : SX} {v : SY} (I : i_Rel k u v) (hk : k + 4 ≤ 2048) (v1 : Int32) (v2 : Int32) (v3 : Int32) : wpX_atom (fun r u' => wpY_atom (fun r' v' => r' = r ∧ i_Rel (k + 4) u' v') v v1 v2 v3) u v1 v2 v3 := by
  obtain ⟨n, c, d, l, fh, ff, kn, aL, aR, aO, cH, cF, lA, lC, rl, bd, li, sz, fe, mo, rfl, rfl, R⟩ := I
  have R' := R
  obtain ⟨⟨hn, hc, hd, hl⟩, av, lv, cs, ⟨es, cl⟩, rp, kk⟩ := R
  unfold wpX_atom wpY_atom
  dsimp only
  rw [nI_clamp (show n < 2 ^ 31 by omega)]
  rcases tv_tm v1 (show 7 < 2 ^ 31 by omega) with h | ⟨a, ha, rfl⟩
  · exact tx_term0 h (br_t rfl (ty_term0 h (br_t rfl ⟨rfl, tv_mk R'⟩)))
  · refine tx_term1 ha (br_f (by decide) ?_)
    rcases tv_tm v2 (show 7 < 2 ^ 31 by omega) with h | ⟨b, hb, rfl⟩
    · exact tx_term0 h (br_t rfl (ty_term1 ha (br_f (by decide) (ty_term0 h (br_t rfl ⟨rfl, tv_mk R'⟩)))))
    · refine tx_term1 hb (br_f (by decide) ?_)
      by_cases e : nI a = nI b
      · exact br_t e (ty_term1 ha (br_f (by decide) (ty_term1 hb (br_f (by decide) (br_t e ⟨rfl, tv_mk R'⟩)))))
      · refine br_f e ?_
        by_cases f : v3 < -20
        · exact br_t f (ty_term1 ha (br_f (by decide) (ty_term1 hb (br_f (by decide) (br_f e (br_t f ⟨rfl, tv_mk R'⟩))))))
        · refine br_f f ?_
          by_cases g : v3 ≤ 20
          · refine br_t g ?_
            by_cases h : n = 8
            · subst h
              exact br_f (nI_nlt (a := 8) (b := 8) (by omega) (by omega)) (ty_term1 ha (br_f (by decide) (ty_term1 hb (br_f (by decide) (br_f e (br_f f (br_t g (br_t rfl ⟨rfl, tv_mk R'⟩))))))))
            · have w : vp_in (nI n) 8 := vp_in_nI (by omega) (by omega)
              have e8 : ¬ nI n = 8 := fun z => h ((nI_eq (a := n) (b := 8) (by omega) (by omega)).mp z)
              have f' := f
              have g' := g
              rw [tv_lI, show (-20 : Int32).toInt = -20 by decide] at f'
              rw [tv_eI, show (20 : Int32).toInt = 20 by decide] at g'
              have av' : tv_av (upd aL n (nI a)) (upd aR n (nI b)) (upd aO n v3) (n + 1) := by
                intro i hi
                by_cases z : i = n
                · subst z
                  exact ⟨a, b, ha, hb, fun y => e (by rw [y]), pk_us, pk_us, by rw [pk_us]; omega, by rw [pk_us]; omega⟩
                · rw [pk_un z, pk_un z, pk_un z]; exact av i (by omega)
              have rp' : tv_rp (upd aL n (nI a)) (upd aR n (nI b)) (upd aO n v3) rl n := tv_rp_congr rp (fun i hi => ⟨pk_un (by omega), pk_un (by omega), pk_un (by omega)⟩)
              refine br_t (nI_lt (b := 8) (by omega) (by omega)) ⟨w, nm_e ⟨w, nm_e ⟨w, nm_e (nm_r (nI_1 n) (tx_findReal (by omega) av' rp' (fun r' b' rq => ty_term1 ha (br_f (by decide) (ty_term1 hb (br_f (by decide) (br_f e (br_f f (br_t g (br_f e8 ⟨w, nm_e ⟨w, nm_e ⟨w, nm_e (nm_r (nI_1 n) ⟨nI_pred n, tv_mk ?_⟩)⟩⟩⟩))))))))))⟩⟩⟩
              exact ⟨⟨by omega, hc, hd, hl⟩, av', tv_lv_up lv (by omega) (Nat.le_refl c), cs, ⟨es, cl⟩, rq, fun z => absurd rfl z⟩
          · exact br_f g (ty_term1 ha (br_f (by decide) (ty_term1 hb (br_f (by decide) (br_f e (br_f f (br_f g ⟨rfl, tv_mk R'⟩)))))))
