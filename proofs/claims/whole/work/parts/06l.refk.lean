theorem sp_nth_u (σ : ss_S) (t f i v : Nat) (h : f ≠ 8) : ∀ d k n, sp_nth (ss_u σ f i v) t d k n = sp_nth σ t d k n := by
  intro d
  induction d with
  | zero => exact fun _ _ => rfl
  | succ d ih =>
    intro k n
    unfold sp_nth
    rw [ss_uf _ _ _ _ (Ne.symm h), ih, ih]
theorem sp_next_u (σ : ss_S) (t f i v : Nat) (h : f ≠ 7 ∧ f ≠ 8 ∧ f ≠ 14) : sp_next (ss_u σ f i v) t = sp_next σ t := by
  unfold sp_next
  rw [sp_nth_u _ _ _ _ _ h.2.1, ss_uf _ _ _ _ (Ne.symm h.1), ss_uf _ _ _ _ (Ne.symm h.2.2)]
section PCF
variable {b : Nat} {σ : ss_S}
theorem sp_passA_f (σ : ss_S) (t g j : Nat) (h : g ≠ 14 ∧ g ≠ 15) : sp_passA σ t g j = σ g j := by
  unfold sp_passA
  split
  · rw [ss_uf _ _ _ _ h.1, ss_uf _ _ _ _ h.2, ss_uf _ _ _ _ h.2]
  · rw [ss_uf _ _ _ _ h.2]
theorem sp_pass_f (σ : ss_S) (t g j : Nat) (h : g ≠ 14 ∧ g ≠ 15 ∧ g ≠ 16 ∧ g ≠ 20) : sp_pass σ t g j = σ g j := by
  obtain ⟨h1, h2, h3, h4⟩ := h
  unfold sp_pass
  have e : ∀ τ, sp_passB τ t g j = τ g j := by
    intro τ
    unfold sp_passB
    split
    · rfl
    · split
      · rw [ss_uf _ _ _ _ h2, ss_uf _ _ _ _ h3]
      · split
        · exact sp_passA_f _ _ _ _ ⟨h1, h2⟩
        · cases sp_next τ t with
          | none => rfl
          | some k =>
            show sp_passA (ss_u τ 15 t (τ 10 k + 1)) t g j = _
            rw [sp_passA_f _ _ _ _ ⟨h1, h2⟩, ss_uf _ _ _ _ h2]
  rw [e, ss_uf _ _ _ _ h4]
theorem sp_go_f (σ : ss_S) (c t g j : Nat) (h : g ≠ 14 ∧ g ≠ 15 ∧ g ≠ 16 ∧ g ≠ 20 ∧ g ≠ 38 ∧ g ≠ 44) : sp_go σ c t g j = σ g j := by
  obtain ⟨h1, h2, h3, h4, h5, h6⟩ := h
  unfold sp_go sp_put
  split
  · split
    · rw [ss_uf _ _ _ _ h6]
    · rw [sp_pass_f _ _ _ _ ⟨h1, h2, h3, h4⟩, ss_uf _ _ _ _ h6]
  · rw [ss_uf _ _ _ _ h5, ss_uf _ _ _ _ h6]
theorem sp_pc_f (σ : ss_S) (g j : Nat) (h : g ≠ 11 ∧ g ≠ 14 ∧ g ≠ 15 ∧ g ≠ 16 ∧ g ≠ 19 ∧ g ≠ 20 ∧ g ≠ 38 ∧ g ≠ 44) : ∀ c, (sp_pc σ c).1 g j = σ g j := by
  intro c
  induction c with
  | zero => rfl
  | succ c ih =>
    show sp_go (sp_choose (sp_pc σ c).1 c) c _ g j = _
    rw [sp_go_f _ _ _ _ _ (by omega), sp_choose_f _ _ _ _ (by omega), ih]
theorem sp_Bd.passA (h : sp_Bd b σ) (hb : 1 ≤ b) (t : Nat) : sp_Bd (b + 1) (sp_passA σ t) := by
  have h1 := h.mono (Nat.le_succ b)
  have b1 := h 15 t
  have b2 := h 14 t
  unfold sp_passA
  split
  · exact ((h1.u 15 t (by omega)).u 15 t (by omega)).u 14 t (by omega)
  · exact h1.u 15 t (by omega)
theorem sp_Bd.pass (h : sp_Bd b σ) (hb : 2 ^ 24 ≤ b) (hV : sp_V σ) (t : Nat) : sp_Bd (b + 2) (sp_pass σ t) := by
  have b0 := h 20 t
  have h1 : sp_Bd (b + 1) (ss_u σ 20 t (σ 20 t + 1)) := (h.mono (Nat.le_succ b)).u 20 t (by omega)
  have hV1 : sp_V (ss_u σ 20 t (σ 20 t + 1)) := hV
  unfold sp_pass
  generalize ss_u σ 20 t (σ 20 t + 1) = τ at h1 hV1 ⊢
  unfold sp_passB
  split
  · exact h1.mono (by omega)
  · split
    · exact ((h1.u 16 t (by omega)).u 15 t (by omega)).mono (by omega)
    · split
      · exact h1.passA (by omega) t
      · split
        · exact h1.mono (by omega)
        · rename_i k hk
          obtain ⟨-, -, -, -, -, -, w10⟩ := hV1.2.2.2.2.2.1 k (sp_next_lt hk).1
          exact (h1.u 15 t (by omega)).passA (by omega) t
theorem sp_ci_le (hV : sp_V σ) (c : Nat) : sp_ci σ c ≤ 500 := by
  have h1 := sp_hand_le σ (σ 35 0)
  have h2 := hV.2.2.2.2.1
  unfold sp_ci sp_atHand
  split <;> omega
theorem sp_who_lt (hV : sp_V σ) (c : Nat) {t : Nat} (ht : t < 101) : sp_who σ c t < 1100 := by
  have h1 := sp_hand_le σ (σ 35 0)
  unfold sp_who
  split
  · omega
  · rename_i q
    unfold sp_ci sp_atHand at q ⊢
    split at q
    · rename_i hc
      rw [if_pos hc]
      have := hV.2.2.2.2.2.2.2.1 (sp_hand σ (σ 35 0) - 1) (by omega)
      omega
    · exact absurd rfl q
theorem sp_V.keep {τ : ss_S} (h : sp_V σ) (e : ∀ g j, g = 0 ∨ g = 1 ∨ g = 7 ∨ g = 8 ∨ g = 9 ∨ g = 10 ∨ g = 17 ∨ g = 32 ∨ g = 33 ∨ g = 35 ∨ g = 36 ∨ g = 43 → τ g j = σ g j) : sp_V τ := by
  unfold sp_V at h ⊢
  rw [e 1 0 (by decide), e 0 0 (by decide), e 7 0 (by decide), e 32 0 (by decide), e 35 0 (by decide), e 43 0 (by decide)]
  refine ⟨h.1, h.2.1, h.2.2.1, h.2.2.2.1, h.2.2.2.2.1, fun k hk => ?_, fun k hk => ?_, fun k hk => ?_, fun i => ?_, h.2.2.2.2.2.2.2.2.2⟩
  · rw [e 8 k (by decide), e 9 k (by decide), e 10 k (by decide)]
    exact h.2.2.2.2.2.1 k hk
  · rw [e 33 k (by decide)]
    exact h.2.2.2.2.2.2.1 k hk
  · rw [e 36 k (by decide)]
    exact h.2.2.2.2.2.2.2.1 k hk
  · rw [e 17 i (by decide)]
    exact h.2.2.2.2.2.2.2.2.1 i
theorem sp_V.pc (h : sp_V σ) (c : Nat) : sp_V (sp_pc σ c).1 := h.keep fun g j hg => sp_pc_f σ g j (by omega) c
theorem sp_Bd.put (h : sp_Bd b σ) (hb : 2 ^ 24 ≤ b) (hV : sp_V σ) (c : Nat) {t : Nat} (ht : t < 101) : sp_Bd b (sp_put σ c t) := by
  have := sp_who_lt hV c ht
  exact h.u 44 _ (by omega)
theorem sp_Bd.go (h : sp_Bd b σ) (hb : 2 ^ 24 ≤ b) (hV : sp_V σ) (c : Nat) {t : Nat} (ht : t < 101) : sp_Bd (b + 2) (sp_go σ c t) := by
  have h1 := h.put hb hV c ht
  have hV1 : sp_V (sp_put σ c t) := hV
  have b1 := h 38 (sp_ci σ c - 1)
  unfold sp_go
  split
  · split
    · exact h1.mono (by omega)
    · exact h1.pass hb hV1 t
  · exact (h1.u 38 _ (by omega)).mono (by omega)
theorem sp_Bd.pc (h : sp_Bd b σ) (hb : 2 ^ 24 ≤ b) (hV : sp_V σ) : ∀ c, sp_Bd (b + 2 * c) (sp_pc σ c).1 := by
  intro c
  induction c with
  | zero => exact h
  | succ c ih =>
    have hVc := (hV.pc c)
    exact ((ih.choose (by omega) c).go (by omega) (hVc.choose c) c (sp_chosen_le hVc.1 c)).mono (by omega)
theorem sp_pc_le (σ : ss_S) : ∀ c, (sp_pc σ c).2 ≤ c := by
  intro c
  induction c with
  | zero => exact Nat.le_refl 0
  | succ c ih =>
    show (if _ then _ else _) ≤ _
    split
    · exact Nat.le_succ_of_le ih
    · exact Nat.succ_le_succ ih
end PCF
section RK
variable {G : mj_G} {m : Nat} {A : Nat → Nat} {σ : ss_S} {μ μ0 : mj_MM} {b C : Nat} {Ex : Option Value → mj_MM → Prop} {N S : Nat} {P : Nat → ss_S → Prop}
/-- one core's microsecond, from its choice on -/
theorem rl_core (h : sp_Bd b σ) (hb : 2 ^ 24 ≤ b) (hb2 : b + 100 ≤ 2 ^ 31) (hV : sp_V σ) (hnow : σ 43 0 < 50000) (c t sw : Nat) (hc : c < 8) (ht : t < 101) (hsw : sw < 100) (hok : sp_ci σ c = 0 → t ≠ 0 → sp_pok (sp_put σ c t) t)
    (he : ∀ μ', rf_Q m A (sp_go σ c t) μ0 μ' → mj_nc μ' = mj_nc μ0 → mj_ns μ' = mj_ns μ0 → mj_J G mY_M_microsecond Ex N S 125 [(0, va_rf (some m)), (2, .int (nI (if sp_who σ c t = sp_before (sp_put σ c t) c then sw else sw + 1))), (3, .int (nI (c + 1)))] [] μ')
    (hQ : rf_Q m A σ μ0 μ) (e1 : mj_nc μ = mj_nc μ0) (e2 : mj_ns μ = mj_ns μ0) :
    mj_J G mY_M_microsecond Ex N S 140 [(0, va_rf (some m)), (2, .int (nI sw)), (3, .int (nI c)), (4, .int (nI t))] [] μ := by
  have hB := h.B (by omega)
  have hci := sp_ci_le hV c
  have hwl := sp_who_lt hV c ht
  have hidx : 50000 * c + σ 43 0 < 400000 := by omega
  have s154 : ∀ μ', rf_Q m A σ μ0 μ' → mj_nc μ' = mj_nc μ0 → mj_ns μ' = mj_ns μ0 → mj_J G mY_M_microsecond Ex N S 154 [(0, va_rf (some m)), (2, .int (nI sw)), (3, .int (nI c)), (4, .int (nI t)), (5, .int (nI (sp_ci σ c) - 1))] [] μ' := by
    intro μ1 hP r1 r2
    have s177 : mj_J G mY_M_microsecond Ex N S 177 [(0, va_rf (some m)), (2, .int (nI sw)), (3, .int (nI c)), (4, .int (nI t)), (5, .int (nI (sp_ci σ c) - 1)), (6, .int (nI (sp_who σ c t)))] [] μ1 := by
      refine bk_M_microsecond_177 ?_
      have ei : (50000 : Int32) * nI c + (lN (σ 43 0)).toInt32 = nI (50000 * c + σ 43 0) := by
        rw [show (50000 : Int32) = nI 50000 from rfl, pk_mul, lN_i, nI_add]
      have hP2 := hP.pI 44 (50000 * c + σ 43 0) (sp_who σ c t) (by decide) hidx
      simp (disch := first | decide | assumption | omega) only [hP.t, hP.r, hP.a0, hP.a1, hP.a2, hP.a3, hP.si, hP.sl, hP.l15, hP.i1, hP.v1, hP.l1, hP.i5, hP.v5, hP.l5, hP.i3, hP.v3, hP.l3, hP.i2, hP.v2, hP.l2, hP.i4, hP.v4, hP.l4, Option.some.injEq, exists_eq_left', nI_clamp, nI_1, mj_vin, true_and, eq_self, ei, mj_short]
      refine ⟨hP.v 44 (by decide) hidx, ?_, ?_⟩
      · show Value.int ((nI (sp_who σ c t)).toInt16.toInt32) = _
        rw [mj_short _ hwl]
      have s227 : mj_J G mY_M_microsecond Ex N S 227 [(0, va_rf (some m)), (2, .int (nI sw)), (3, .int (nI c)), (4, .int (nI t)), (5, .int (nI (sp_ci σ c) - 1)), (6, .int (nI (sp_who σ c t))), (7, .int (nI (sp_before (sp_put σ c t) c)))] [] (mj_pI μ1 (A 44) (50000 * c + σ 43 0) (nI (sp_who σ c t))) := by
        have hbp := (h.put hb hV c ht).B (by omega)
        have b7 : sp_before (sp_put σ c t) c < 2 ^ 31 := by
          unfold sp_before
          split
          · decide
          · exact hbp _ _
        have s242 : ∀ w, w = (if sp_who σ c t = sp_before (sp_put σ c t) c then sw else sw + 1) → mj_J G mY_M_microsecond Ex N S 242 [(0, va_rf (some m)), (2, .int (nI w)), (3, .int (nI c)), (4, .int (nI t)), (5, .int (nI (sp_ci σ c) - 1))] [] (mj_pI μ1 (A 44) (50000 * c + σ 43 0) (nI (sp_who σ c t))) := by
          intro w hw
          subst hw
          have s272 : ∀ μ', rf_Q m A (sp_go σ c t) μ0 μ' → mj_nc μ' = mj_nc μ0 → mj_ns μ' = mj_ns μ0 → mj_J G mY_M_microsecond Ex N S 272 [(0, va_rf (some m)), (2, .int (nI (if sp_who σ c t = sp_before (sp_put σ c t) c then sw else sw + 1))), (3, .int (nI c))] [] μ' := by
            intro μ' hP u1 u2
            refine bk_M_microsecond_272 ?_
            rw [nI_1]
            exact he μ' hP u1 u2
          refine bk_M_microsecond_242 ?_
          rw [mj_m1neg (show sp_ci σ c < 2 ^ 31 by omega)]
          simp (disch := first | decide | assumption | omega) only [hP2.t, hP2.r, hP2.a0, hP2.a1, hP2.a2, hP2.a3, hP2.si, hP2.sl, hP2.l15, hP2.i1, hP2.v1, hP2.l1, hP2.i5, hP2.v5, hP2.l5, hP2.i3, hP2.v3, hP2.l3, hP2.i2, hP2.v2, hP2.l2, hP2.i4, hP2.v4, hP2.l4, Option.some.injEq, exists_eq_left', nI_clamp, nI_1, mj_vin, true_and, eq_self, mj_le0]
          refine ⟨fun q => ⟨fun q2 => ?_, fun q2 => ?_⟩, fun q => ?_⟩
          · refine s272 _ ?_ r1 r2
            unfold sp_go
            rw [if_pos q, if_pos q2]
            exact hP2
          · refine ⟨_, rc_pass hP2.1 (h.put hb hV c ht) hb (by omega) hV t ht (by rw [sp_next_u _ _ _ _ _ (by decide)]; exact hok q q2), fun μ3 hP3 u1 u2 => s272 μ3 ?_ (u1.trans r1) (u2.trans r2)⟩
            unfold sp_go
            rw [if_pos q, if_neg q2]
            exact hP2.trans hP3
          · obtain ⟨i, hi⟩ : ∃ i, sp_ci σ c = i + 1 := ⟨sp_ci σ c - 1, by omega⟩
            have hr : 0 < σ 38 i := by
              have h0 : sp_ci σ c = sp_atHand σ := by
                unfold sp_ci at q ⊢
                split at q
                · rename_i hc0
                  rw [if_pos hc0]
                · exact absurd rfl q
              have := sp_hand_rest σ (σ 35 0) (by rw [h0] at q; exact q)
              rw [show sp_hand σ (σ 35 0) = i + 1 from h0.symm.trans hi] at this
              exact this
            have b38 := h 38 i
            rw [hi, nI_pred]
            have hi5 : i < 500 := by omega
            have ee : lN (σ 38 i) - 1 = lN (σ 38 i - 1) := by
              rw [show (1 : Int64) = lN 1 from rfl, lN_sub (by omega)]
            have eg : ss_u σ 44 (50000 * c + σ 43 0) (sp_who σ c t) 38 i = σ 38 i := rfl
            simp (disch := first | decide | assumption | omega) only [hP2.t, hP2.r, hP2.a0, hP2.a1, hP2.a2, hP2.a3, hP2.si, hP2.sl, hP2.l15, hP2.i1, hP2.v1, hP2.l1, hP2.i5, hP2.v5, hP2.l5, hP2.i3, hP2.v3, hP2.l3, hP2.i2, hP2.v2, hP2.l2, hP2.i4, hP2.v4, hP2.l4, Option.some.injEq, exists_eq_left', nI_clamp, nI_1, mj_vin, true_and, eq_self, eg, ee]
            refine bk_M_microsecond_258 (s272 _ ?_ r1 r2)
            have hP3 := hP2.pL 38 i (σ 38 i - 1) (by decide) hi5
            unfold sp_go
            rw [if_neg q, hi]
            exact hP3
        refine bk_M_microsecond_227 ?_
        rw [mj_zz (by omega) b7, nI_1]
        exact ⟨fun q => s242 sw (by rw [if_pos q]), fun q => s242 (sw + 1) (by rw [if_neg q])⟩
      refine bk_M_microsecond_195 ?_
      have b43 := h 43 0
      have e43 : mj_l (mj_pI μ1 (A 44) (50000 * c + σ 43 0) (nI (sp_who σ c t))) m 43 = lN (σ 43 0) := hP2.sl 43 rfl
      rw [e43, mj_LE0 (by omega)]
      have hbf : ∀ z, sp_before (sp_put σ c t) c = z → nI (sp_before (sp_put σ c t) c) = nI z := fun z hz => by rw [hz]
      refine ⟨hP2.t, fun q => ?_, fun q => ⟨_, hP2.r 44 (by decide), hP2.a3 44 (by decide), ?_⟩⟩
      · have : sp_before (sp_put σ c t) c = 0 := by
          unfold sp_before
          rw [if_pos (show sp_put σ c t 43 0 = 0 from q)]
        rw [this] at s227
        exact s227
      · have ej : (50000 : Int32) * nI c + (lN (σ 43 0)).toInt32 - 1 = nI (50000 * c + σ 43 0 - 1) := by
          rw [ei]
          obtain ⟨z, hz⟩ : ∃ z, 50000 * c + σ 43 0 = z + 1 := ⟨50000 * c + σ 43 0 - 1, by omega⟩
          rw [hz, nI_pred]
          rfl
        rw [ej]
        have hj : 50000 * c + σ 43 0 - 1 < 400000 := by omega
        refine ⟨hP2.v 44 (by decide) hj, ?_⟩
        rw [nI_clamp (by omega), hP2.i 44 (by decide) hj]
        have : sp_before (sp_put σ c t) c = ss_u σ 44 (50000 * c + σ 43 0) (sp_who σ c t) 44 (50000 * c + σ 43 0 - 1) := by
          unfold sp_before
          rw [if_neg (show ¬ sp_put σ c t 43 0 = 0 from q)]
          rfl
        rw [this] at s227
        exact s227
    refine bk_M_microsecond_154 ?_
    rw [mj_m1neg (show sp_ci σ c < 2 ^ 31 by omega)]
    refine ⟨fun q => ?_, fun q => ?_⟩
    · have : sp_who σ c t = t := by
        unfold sp_who
        rw [if_pos q]
      rw [this] at s177
      exact s177
    · have : sp_who σ c t = 1000 + σ 36 (sp_ci σ c - 1) := by
        unfold sp_who
        rw [if_neg q]
      rw [this] at s177
      obtain ⟨i, hi⟩ : ∃ i, sp_ci σ c = i + 1 := ⟨sp_ci σ c - 1, by omega⟩
      rw [hi] at s177 ⊢
      rw [nI_pred] at s177 ⊢
      have hi5 : i < 500 := by omega
      simp (disch := first | decide | assumption | omega) only [hP.t, hP.r, hP.a0, hP.a1, hP.a2, hP.a3, hP.si, hP.sl, hP.l15, hP.i1, hP.v1, hP.l1, hP.i5, hP.v5, hP.l5, hP.i3, hP.v3, hP.l3, hP.i2, hP.v2, hP.l2, hP.i4, hP.v4, hP.l4, Option.some.injEq, exists_eq_left', nI_clamp, nI_1, mj_vin, true_and, eq_self]
      rw [show (1000 : Int32) + nI (σ 36 i) = nI (1000 + σ 36 i) from by rw [show (1000 : Int32) = nI 1000 from rfl, nI_add]]
      exact s177
  refine bk_M_microsecond_140 ?_
  rw [mj_z0 (by omega)]
  refine ⟨fun q => ?_, fun q => ⟨hQ.t, _, rc_atHand hQ.1 hB hV.2.2.2.2.1, fun x μ2 hP r1 r2 => ?_⟩⟩
  · have g := s154 μ hQ e1 e2
    have : sp_ci σ c = 0 := by
      unfold sp_ci
      rw [if_neg q]
    rw [this, show nI 0 - 1 = -1 from by decide] at g
    exact g
  · obtain ⟨hx, hP⟩ := hP
    subst hx
    refine bk_M_microsecond_148 ?_
    have g := s154 μ2 (hQ.trans hP) (r1.trans e1) (r2.trans e2)
    have : sp_ci σ c = sp_atHand σ := by
      unfold sp_ci
      rw [if_pos q]
    rw [this] at g
    exact g
theorem rl_pc (h : sp_Bd b σ) (hb : 2 ^ 24 ≤ b) (hb2 : b + 200 ≤ 2 ^ 31) (hV : sp_V σ) (hnow : σ 43 0 < 50000) (hok : ∀ c, c < σ 0 0 → sp_ci (sp_choose (sp_pc σ c).1 c) c = 0 → sp_chosen (sp_pc σ c).1 c ≠ 0 → sp_pok (sp_put (sp_choose (sp_pc σ c).1 c) c (sp_chosen (sp_pc σ c).1 c)) (sp_chosen (sp_pc σ c).1 c))
    (he : ∀ μ', rf_Q m A (ss_u (sp_pc σ (σ 0 0)).1 43 0 ((sp_pc σ (σ 0 0)).1 43 0 + 1)) μ0 μ' → mj_nc μ' = mj_nc μ0 → mj_ns μ' = mj_ns μ0 → Ex (some (.int (nI (sp_pc σ (σ 0 0)).2))) μ') :
    ∀ d c μ, c + d = σ 0 0 → rf_Q m A (sp_pc σ c).1 μ0 μ → mj_nc μ = mj_nc μ0 → mj_ns μ = mj_ns μ0 → mj_J G mY_M_microsecond Ex N S 125 [(0, va_rf (some m)), (2, .int (nI (sp_pc σ c).2)), (3, .int (nI c))] [] μ := by
  have hC := hV.2.1.2
  intro d
  induction d with
  | zero =>
    intro c μ hc hQ e1 e2
    have : c = σ 0 0 := by omega
    subst this
    have e0 : (sp_pc σ (σ 0 0)).1 0 0 = σ 0 0 := sp_pc_f σ 0 0 (by decide) _
    refine bk_M_microsecond_125 ?_
    simp (disch := first | decide | assumption | omega) only [hQ.t, hQ.r, hQ.a0, hQ.a1, hQ.a2, hQ.a3, hQ.si, hQ.sl, hQ.l15, hQ.i1, hQ.v1, hQ.l1, hQ.i5, hQ.v5, hQ.l5, hQ.i3, hQ.v3, hQ.l3, hQ.i2, hQ.v2, hQ.l2, hQ.i4, hQ.v4, hQ.l4, Option.some.injEq, exists_eq_left', nI_clamp, nI_1, mj_vin, true_and, eq_self, e0, mj_le, lN_1]
    exact ⟨fun _ => he _ (hQ.sL 43 _ rfl) e1 e2, fun q => absurd (by omega) q⟩
  | succ d ih =>
    intro c μ hc hQ e1 e2
    have e0 : (sp_pc σ c).1 0 0 = σ 0 0 := sp_pc_f σ 0 0 (by decide) _
    have e43 : (sp_pc σ c).1 43 0 = σ 43 0 := sp_pc_f σ 43 0 (by decide) _
    have hbd := h.pc hb hV c
    have hVc := hV.pc c
    refine bk_M_microsecond_125 ?_
    simp (disch := first | decide | assumption | omega) only [hQ.t, hQ.r, hQ.a0, hQ.a1, hQ.a2, hQ.a3, hQ.si, hQ.sl, hQ.l15, hQ.i1, hQ.v1, hQ.l1, hQ.i5, hQ.v5, hQ.l5, hQ.i3, hQ.v3, hQ.l3, hQ.i2, hQ.v2, hQ.l2, hQ.i4, hQ.v4, hQ.l4, Option.some.injEq, exists_eq_left', nI_clamp, nI_1, mj_vin, true_and, eq_self, e0, mj_le]
    refine ⟨fun q => absurd q (by omega), fun _ => ⟨_, rc_choose hQ.1 hbd (by omega) hVc.1 c (by omega), fun x μ2 hP r1 r2 => ?_⟩⟩
    obtain ⟨hx, hP⟩ := hP
    subst hx
    refine bk_M_microsecond_138 ?_
    have hcl := sp_chosen_le hVc.1 c
    have hpl := sp_pc_le σ c
    refine rl_core (hbd.choose (by omega) c) (by omega) (by omega) (hVc.choose c) (by rw [sp_choose_f _ _ _ _ (by decide), e43]; exact hnow) c _ _ (by omega) hcl (by omega) (fun q q2 => hok c (by omega) q q2) (fun μ' hP2 u1 u2 => ih (c + 1) μ' (by omega) hP2 u1 u2) (hQ.trans hP) (r1.trans e1) (r2.trans e2)
theorem rc_micro (hR : rf_R m A σ μ) (h : sp_Bd b σ) (hb : 2 ^ 24 ≤ b) (hb2 : b + 600 ≤ 2 ^ 31) (hV : sp_V σ) (hF : sp_Fam (σ 0 0) P) (hp : ∃ n, n < 2000 ∧ P n (sp_al σ (σ 32 0))) (hnow : σ 43 0 < 50000) (hn9 : sp_mid σ 43 0 = σ 43 0)
    (hm : ∃ b', sp_Bd b' (sp_mid σ) ∧ 2 ^ 24 ≤ b' ∧ b' + 200 ≤ 2 ^ 31 ∧ sp_V (sp_mid σ) ∧ sp_mid σ 0 0 = σ 0 0)
    (hok : ∀ c, c < σ 0 0 → sp_ci (sp_choose (sp_pc (sp_mid σ) c).1 c) c = 0 → sp_chosen (sp_pc (sp_mid σ) c).1 c ≠ 0 → sp_pok (sp_put (sp_choose (sp_pc (sp_mid σ) c).1 c) c (sp_chosen (sp_pc (sp_mid σ) c).1 c)) (sp_chosen (sp_pc (sp_mid σ) c).1 c)) :
    rc_I G my_M_microsecond mY_M_microsecond m A μ [] (nI (sp_micro σ).2) (sp_micro σ).1 := by
  have hQ := hR.self
  have hC := hV.2.1.2
  refine mj_of (by decide) rfl (by decide) (Nat.le_of_ble_eq_true rfl) rfl ⟨Nat.le_refl _, Nat.le_refl _⟩ ?_
  refine bk_M_microsecond_0 ?_
  refine rl_al (μ0 := μ) h (by omega) hb2 hV (fun μ1 hP e1 e2 => ?_) (σ 32 0) 0 μ (by omega) hQ rfl rfl
  obtain ⟨n, hn, hpn⟩ := hp
  obtain ⟨n1, hn1, hp1⟩ := hF.rounds (F := 2000) 2000 n _ hpn hn hn
  obtain ⟨h0, b1, hb1, hb11, hb12, hV1⟩ := hF.1 _ _ hp1
  refine rl_rounds hF hC 2000 2000 n _ μ1 hpn hn hn hP e1 e2 (fun μ2 hP2 r1 r2 => ?_)
  have s121 : ∀ μ', rf_Q m A (sp_mid σ) μ μ' → mj_nc μ' = mj_nc μ → mj_ns μ' = mj_ns μ → mj_J G mY_M_microsecond (fun v μ' => mj_XI (fun x μ' => x = nI (sp_micro σ).2 ∧ rf_Q m A (sp_micro σ).1 μ μ') v μ' ∧ mj_nc μ' = mj_nc μ ∧ mj_ns μ' = mj_ns μ) (mj_nc μ) (mj_ns μ) 121 [(0, va_rf (some m))] [] μ' := by
    intro μ' hP u1 u2
    obtain ⟨b', q1, q2, q3, q4, q5⟩ := hm
    refine bk_M_microsecond_121 (bk_M_microsecond_123 ?_)
    refine rl_pc (μ0 := μ) q1 q2 q3 q4 (by rw [hn9]; exact hnow) (by rw [q5]; exact hok) (fun μ3 hP3 w1 w2 => ⟨⟨_, rfl, ?_, ?_⟩, w1, w2⟩) (sp_mid σ 0 0) 0 μ' (by omega) hP u1 u2
    · unfold sp_micro
      rw [q5]
    · unfold sp_micro
      rw [q5] at hP3
      exact hP3
  have hmid : sp_mid σ = sp_nine (sp_rounds 2000 (σ 0 0) 2000 (sp_al σ (σ 32 0))) := rfl
  generalize sp_rounds 2000 (σ 0 0) 2000 (sp_al σ (σ 32 0)) = τ at hP2 h0 hb1 hV1 hmid
  have hB1 := hb1.B (by omega)
  have c1 := hB1 29 0
  have c2 := hB1 31 0
  have c3 := hb1 30 0
  have c4 := hb1 43 0
  unfold sp_nine at hmid
  refine bk_M_microsecond_42 ⟨fun _ => ?_, fun q => absurd rfl q⟩
  simp (disch := first | decide | assumption | omega) only [hP2.t, hP2.r, hP2.a0, hP2.a1, hP2.a2, hP2.a3, hP2.si, hP2.sl, hP2.l15, hP2.i1, hP2.v1, hP2.l1, hP2.i5, hP2.v5, hP2.l5, hP2.i3, hP2.v3, hP2.l3, hP2.i2, hP2.v2, hP2.l2, hP2.i4, hP2.v4, hP2.l4, Option.some.injEq, exists_eq_left', nI_clamp, nI_1, mj_vin, true_and, eq_self, mj_le0, mj_z0, mj_LT]
  refine ⟨fun q => ?_, fun q => ⟨fun q2 => ?_, fun q2 => ⟨fun q3 => ?_, fun q3 => ⟨_, rc_tell hP2.1 hB1 9 (τ 29 0), fun μ3 hP3 u1 u2 => ?_⟩⟩⟩⟩
  · rw [if_neg (fun z => z.1 q)] at hmid
    exact s121 μ2 (by rw [hmid]; exact hP2) r1 r2
  · rw [if_neg (fun z => q2 z.2.1)] at hmid
    exact s121 μ2 (by rw [hmid]; exact hP2) r1 r2
  · rw [if_neg (fun z => by omega)] at hmid
    exact s121 μ2 (by rw [hmid]; exact hP2) r1 r2
  · rw [if_pos ⟨q, q2, by omega⟩] at hmid
    have hP3 := hP2.trans hP3
    exact bk_M_microsecond_116 ⟨hP3.t, s121 _ (by rw [hmid]; exact hP3.sI 31 1 rfl) (u1.trans r1) (u2.trans r2)⟩
end RK
