theorem tv_lI {a b : Int32} : a < b ↔ a.toInt < b.toInt := Int32.lt_iff_toInt_lt
theorem tv_eI {a b : Int32} : a ≤ b ↔ a.toInt ≤ b.toInt := Int32.le_iff_toInt_le
theorem tv_TI : (1000000000 : Int32).toInt = 1000000000 := by decide +kernel
section
variable {S S' : tv_M} {w t u : Nat} {b : Nat → Int32} {f : Int32}
/-- between two phases; within a phase (cells below c are done); within a row of it -/
def tv_ic (S : tv_M) (w : Nat) (b : Nat → Int32) : Prop := tv_is b (tv_fw S w) ∨ (tv_neg b ∧ ¬ tv_Good S)
def tv_iv (S : tv_M) (w c : Nat) (b : Nat → Int32) : Prop := (tv_fw S w w w = 0 ∧ tv_is b (tv_mix (tv_fw S w) (tv_ph w (tv_fw S w)) c)) ∨ (tv_neg b ∧ ¬ tv_Good S)
def tv_ir (S : tv_M) (w t u : Nat) (f : Int32) (b : Nat → Int32) : Prop := (tv_fw S w w w = 0 ∧ tv_is b (tv_mix (tv_fw S w) (tv_ph w (tv_fw S w)) (7 * t + u)) ∧ f.toInt = tv_fw S w t w) ∨ (tv_neg b ∧ ¬ tv_Good S)
theorem tv_fw_d (hd : ∀ i, i < 7 → S i i ≤ 0) {i : Nat} (hi : i < 7) (k : Nat) : tv_fw S k i i ≤ 0 := Int.le_trans (tv_fw_le S (Nat.zero_le k) i i) (hd i hi)
theorem tv_fw_bad (hw : w < 7) (h : tv_fw S w w w < 0) : ¬ tv_Good S := by
  intro g
  have a := g w hw
  have b := tv_fw_le S (Nat.le_of_lt hw) w w
  omega
theorem tv_iv_start (hd : ∀ i, i < 7 → S i i ≤ 0) (hw : w < 7) (h : tv_ic S w b) : tv_iv S w 0 b := by
  rcases h with h | h
  · have a := tv_fw_d hd hw w
    by_cases e : tv_fw S w w w = 0
    · exact Or.inl ⟨e, tv_mix_0 h⟩
    · have e2 : tv_fw S w w w < 0 := by omega
      exact Or.inr ⟨⟨w, hw, by rw [h w w hw hw]; exact e2⟩, tv_fw_bad hw e2⟩
  · exact Or.inr h
theorem tv_iv_end (h : tv_iv S w 49 b) : tv_ic S (w + 1) b := by
  rcases h with h | h
  · exact Or.inl (tv_mix_49 h.2)
  · exact Or.inr h
theorem tv_ir_start (hw : w < 7) (ht : t < 7) (h : tv_iv S w (7 * t) b) : tv_ir S w t 0 (b (7 * t + w)) b := by
  rcases h with ⟨h1, h2⟩ | h
  · refine Or.inl ⟨h1, h2, ?_⟩
    rw [h2 t w ht hw]
    exact tv_mix_eq (tv_ph_col h1 t)
  · exact Or.inr h
theorem tv_ir_end (h : tv_ir S w t 7 f b) : tv_iv S w (7 * (t + 1)) b := by
  rcases h with ⟨h1, h2, _⟩ | h
  · exact Or.inl ⟨h1, h2⟩
  · exact Or.inr h
theorem tv_ir_skip (ht : t < 7) (hu : u ≤ 7) (hf : ¬ f.toInt < 1000000000) (h : tv_ir S w t u f b) : tv_ir S w t 7 f b := by
  rcases h with ⟨h1, h2, h3⟩ | h
  · refine Or.inl ⟨h1, ?_, h3⟩
    have hT : tv_T = 1000000000 := rfl
    have q : ∀ j, tv_ph w (tv_fw S w) t j = tv_fw S w t j := by
      intro j
      rcases tv_ph_cases w (tv_fw S w) t j with q | ⟨q, _, _⟩
      · exact q
      · omega
    intro i j hi hj
    rw [h2 i j hi hj]
    unfold tv_mix
    by_cases c1 : 7 * i + j < 7 * t + u
    · rw [if_pos c1]
      by_cases c2 : 7 * i + j < 7 * t + 7
      · rw [if_pos c2]
      · exact absurd c1 (by omega)
    · rw [if_neg c1]
      by_cases c2 : 7 * i + j < 7 * t + 7
      · rw [if_pos c2]
        have e : i = t := by omega
        subst e
        exact (q j).symm
      · rw [if_neg c2]
  · exact Or.inr h
theorem tv_ir_vals (hB : tv_B 21 S) (hw : w < 7) (ht : t < 7) (hu : u < 7) (h1 : tv_fw S w w w = 0) (h2 : tv_is b (tv_mix (tv_fw S w) (tv_ph w (tv_fw S w)) (7 * t + u))) :
    (b (7 * w + u)).toInt = tv_fw S w w u ∧ (b (7 * t + u)).toInt = tv_fw S w t u ∧ (tv_fw S w w u = 1000000000 ∨ (-1344 ≤ tv_fw S w w u ∧ tv_fw S w w u ≤ 1344)) ∧ (tv_fw S w t w = 1000000000 ∨ (-1344 ≤ tv_fw S w t w ∧ tv_fw S w t w ≤ 1344)) := by
  have B := tv_fw_B hB (Nat.le_of_lt hw)
  have bd := tv_bd_le6 hw
  have hT : tv_T = 1000000000 := rfl
  refine ⟨?_, ?_, ?_, ?_⟩
  · rw [h2 w u hw hu]; exact tv_mix_eq (tv_ph_row h1 u)
  · rw [h2 t u ht hu]; unfold tv_mix; rw [if_neg (by omega)]
  · have := B w u hw hu; omega
  · have := B t w ht hw; omega
theorem tv_ir_store (hB : tv_B 21 S) (hw : w < 7) (ht : t < 7) (hu : u < 7) (h : tv_ir S w t u f b) (hf : f < 1000000000) (hs : b (7 * w + u) < 1000000000) (hl : f + b (7 * w + u) < b (7 * t + u)) : tv_ir S w t (u + 1) f (upd b (7 * t + u) (f + b (7 * w + u))) := by
  rw [tv_lI, tv_TI] at hf hs
  rw [tv_lI] at hl
  rcases h with ⟨h1, h2, h3⟩ | h
  · obtain ⟨e1, e2, e3, e4⟩ := tv_ir_vals hB hw ht hu h1 h2
    have e : (f + b (7 * w + u)).toInt = tv_fw S w t w + tv_fw S w w u := by
      rw [tv_addI (by omega) (by omega), e1, h3]
    refine Or.inl ⟨h1, tv_mix_S ht hu h2 ?_, h3⟩
    rw [e] at hl ⊢
    have hT : tv_T = 1000000000 := rfl
    unfold tv_ph
    rw [if_pos ⟨by omega, by omega, by omega⟩]
  · exact Or.inr ⟨tv_neg_upd h.1 (by omega), h.2⟩
theorem tv_ir_keep (hB : tv_B 21 S) (hw : w < 7) (ht : t < 7) (hu : u < 7) (h : tv_ir S w t u f b) (hn : ¬ (f < 1000000000 ∧ b (7 * w + u) < 1000000000 ∧ f + b (7 * w + u) < b (7 * t + u))) : tv_ir S w t (u + 1) f b := by
  rw [tv_lI, tv_lI, tv_lI, tv_TI] at hn
  rcases h with ⟨h1, h2, h3⟩ | h
  · obtain ⟨e1, e2, e3, e4⟩ := tv_ir_vals hB hw ht hu h1 h2
    refine Or.inl ⟨h1, tv_mix_N ht hu h2 ?_, h3⟩
    have hT : tv_T = 1000000000 := rfl
    rcases tv_ph_cases w (tv_fw S w) t u with q | ⟨q1, q2, q3⟩
    · exact q
    · have e : (f + b (7 * w + u)).toInt = tv_fw S w t w + tv_fw S w w u := by
        rw [tv_addI (by omega) (by omega), e1, h3]
      have := tv_ph_le w (tv_fw S w) t u
      rw [e] at hn
      omega
  · exact Or.inr h
/-- the reference's cells -/
def tv_jc (S S' : tv_M) (w : Nat) (b : Nat → Int32) : Prop := tv_is b (tv_yw S' w) ∨ (tv_neg b ∧ ¬ tv_Good S)
def tv_jv (S S' : tv_M) (w c : Nat) (b : Nat → Int32) : Prop := (tv_yw S' w w w = 0 ∧ tv_is b (tv_mix (tv_yw S' w) (tv_yp w (tv_yw S' w)) c)) ∨ (tv_neg b ∧ ¬ tv_Good S)
theorem tv_jv_start (hE : tv_EM 21 S S') (hd : ∀ i, i < 7 → S i i ≤ 0) (hw : w < 7) (h : tv_jc S S' w b) : tv_jv S S' w 0 b := by
  rcases h with h | h
  · have a := tv_fw_d hd hw w
    have e0 := tv_EM_fw hE w (Nat.le_of_lt hw) w w hw hw
    have e1 : tv_yw S' w w w = tv_fw S w w w := by unfold tv_E at e0; omega
    by_cases e : tv_fw S w w w = 0
    · exact Or.inl ⟨e1.trans e, tv_mix_0 h⟩
    · have e2 : tv_fw S w w w < 0 := by omega
      exact Or.inr ⟨⟨w, hw, by rw [h w w hw hw, e1]; exact e2⟩, tv_fw_bad hw e2⟩
  · exact Or.inr h
theorem tv_jv_end (h : tv_jv S S' w 49 b) : tv_jc S S' (w + 1) b := by
  rcases h with h | h
  · exact Or.inl (tv_mix_49 h.2)
  · exact Or.inr h
theorem tv_jv_step (hE : tv_EM 21 S S') (hw : w < 7) (ht : t < 7) (hu : u < 7) (h : tv_jv S S' w (7 * t + u) b) :
    (b (7 * t + w) + b (7 * w + u) < b (7 * t + u) → tv_jv S S' w (7 * t + u + 1) (upd b (7 * t + u) (b (7 * t + w) + b (7 * w + u)))) ∧ (¬ b (7 * t + w) + b (7 * w + u) < b (7 * t + u) → tv_jv S S' w (7 * t + u + 1) (upd b (7 * t + u) (b (7 * t + u)))) := by
  rw [tv_lI]
  rcases h with ⟨h1, h2⟩ | h
  · have e1 : (b (7 * t + w)).toInt = tv_yw S' w t w := by rw [h2 t w ht hw]; exact tv_mix_eq (tv_yp_col h1 t)
    have e2 : (b (7 * w + u)).toInt = tv_yw S' w w u := by rw [h2 w u hw hu]; exact tv_mix_eq (tv_yp_row h1 u)
    have e3 : (b (7 * t + u)).toInt = tv_yw S' w t u := by rw [h2 t u ht hu]; unfold tv_mix; rw [if_neg (by omega)]
    have E := tv_EM_fw hE w (Nat.le_of_lt hw)
    have bd := tv_bd_le6 hw
    have bp := tv_bd_pos w
    have a1 := E t w ht hw
    have a2 := E w u hw hu
    unfold tv_E at a1 a2
    have e : (b (7 * t + w) + b (7 * w + u)).toInt = tv_yw S' w t w + tv_yw S' w w u := by
      rw [tv_addI (by omega) (by omega), e1, e2]
    rw [e, e3]
    constructor
    · intro z
      refine Or.inl ⟨h1, tv_mix_S ht hu h2 ?_⟩
      rw [e]; unfold tv_yp; rw [if_pos z]
    · intro z
      refine Or.inl ⟨h1, tv_mix_S ht hu h2 ?_⟩
      rw [e3]; unfold tv_yp; rw [if_neg z]
  · exact ⟨fun z => Or.inr ⟨tv_neg_upd h.1 (by omega), h.2⟩, fun z => Or.inr ⟨tv_neg_upd h.1 (Int.le_refl _), h.2⟩⟩
/-- the last look at the diagonal -/
theorem tv_ic_last (h : tv_ic S 7 b) : ((∀ t, t < 7 → ¬ (b (7 * t + t)).toInt < 0) → tv_Good S ∧ tv_is b (tv_fw S 7)) ∧ ((∃ t, t < 7 ∧ (b (7 * t + t)).toInt < 0) → ¬ tv_Good S) := by
  rcases h with h | h
  · constructor
    · intro z
      refine ⟨fun t ht => ?_, h⟩
      have := z t ht
      rw [h t t ht ht] at this
      omega
    · rintro ⟨t, ht, z⟩ g
      have := g t ht
      rw [h t t ht ht] at z
      omega
  · constructor
    · intro z
      obtain ⟨t, ht, q⟩ := h.1
      exact absurd q (z t ht)
    · intro _; exact h.2
theorem tv_jc_last (hE : tv_EM 21 S S') (hd : ∀ i, i < 7 → S i i ≤ 0) (h : tv_jc S S' 7 b) : ((∀ t, t < 7 → ¬ (b (7 * t + t)).toInt < 0) → tv_Good S ∧ tv_is b (tv_yw S' 7)) ∧ ((∃ t, t < 7 ∧ (b (7 * t + t)).toInt < 0) → ¬ tv_Good S) := by
  have q : ∀ t, t < 7 → tv_yw S' 7 t t = tv_fw S 7 t t := by
    intro t ht
    have a := tv_fw_d hd ht 7
    have e0 := tv_EM_fw hE 7 (Nat.le_refl 7) t t ht ht
    unfold tv_E at e0
    omega
  rcases h with h | h
  · constructor
    · intro z
      refine ⟨fun t ht => ?_, h⟩
      have := z t ht
      rw [h t t ht ht, q t ht] at this
      omega
    · rintro ⟨t, ht, z⟩ g
      have := g t ht
      rw [h t t ht ht, q t ht] at z
      omega
  · constructor
    · intro z
      obtain ⟨t, ht, q⟩ := h.1
      exact absurd q (z t ht)
    · intro _; exact h.2
end
