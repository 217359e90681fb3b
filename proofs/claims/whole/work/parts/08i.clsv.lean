theorem BL_tb {σ τ : ss_S} (h44 : ∀ i, τ 44 i = σ 44 i) (h43 : τ 43 0 = σ 43 0) (h0 : τ 0 0 = σ 0 0) (h39 : σ 39 0 ≤ τ 39 0) : BL τ = BL σ + tb σ τ := by
  have e44 : τ 44 = σ 44 := funext h44
  have := bm_le h39
  unfold BL tb
  rw [e44, h43, h0]
  omega
theorem sp_dn_stp (σ : ss_S) (k : Nat) : σ 39 0 ≤ (sp_step σ k).1 39 0 := by
  unfold sp_step
  split
  · exact Nat.le_refl _
  · have hc := sp_choose_f σ k 39 0 (by decide)
    generalize sp_choose σ k = τ at hc ⊢
    generalize sp_chosen σ k = t
    have hd := sp_dn_39 τ t
    unfold sp_step1
    unfold sp_dn at hd
    split
    · exact Nat.le_of_eq hc.symm
    · cases hn : sp_next τ t with
      | none =>
        rw [hn] at hd
        have hd' : τ 39 0 ≤ sp_ends τ t 39 0 := hd
        generalize sp_ends τ t = υ at hd' ⊢
        show σ 39 0 ≤ υ 39 0
        omega
      | some q =>
        rw [hn] at hd
        have hd' : τ 39 0 ≤ sp_act τ t (τ 9 q) (τ 10 q) 39 0 := hd
        show σ 39 0 ≤ (if τ 9 q = 0 then (τ, 0) else (sp_act τ t (τ 9 q) (τ 10 q), 1)).1 39 0
        generalize sp_act τ t (τ 9 q) (τ 10 q) = υ at hd' ⊢
        split
        · show σ 39 0 ≤ τ 39 0
          omega
        · show σ 39 0 ≤ υ 39 0
          omega
theorem sp_ins_39 (k : Nat) : ∀ n σ s, σ 39 0 ≤ (sp_ins k n σ s).1 39 0 := by
  intro n
  induction n with
  | zero => exact fun σ s => Nat.le_refl _
  | succ n ih =>
    intro σ s
    unfold sp_ins
    split
    · exact sp_dn_stp σ k
    · exact Nat.le_trans (sp_dn_stp σ k) (ih _ _)
theorem sp_row_39 (F : Nat) (σ : ss_S) : ∀ k, σ 39 0 ≤ (sp_row F σ k).1 39 0 := by
  intro k
  induction k with
  | zero => exact Nat.le_refl _
  | succ k ih => exact Nat.le_trans ih (sp_ins_39 k F _ _)
theorem sp_rounds_39 (F C : Nat) : ∀ n σ, σ 39 0 ≤ sp_rounds F C n σ 39 0 := by
  intro n
  induction n with
  | zero => exact fun σ => Nat.le_refl _
  | succ n ih =>
    intro σ
    unfold sp_rounds
    split
    · exact sp_row_39 F σ C
    · exact Nat.le_trans (sp_row_39 F σ C) (ih _)
/-- the way of a microsecond's codes -/
theorem ch1_39 (σ : ss_S) : σ 39 0 ≤ sp_al σ (σ 32 0) 39 0 ∧ sp_al σ (σ 32 0) 39 0 ≤ sp_rounds 2000 (σ 0 0) 2000 (sp_al σ (σ 32 0)) 39 0 ∧ sp_rounds 2000 (σ 0 0) 2000 (sp_al σ (σ 32 0)) 39 0 ≤ sp_mid σ 39 0 ∧ ch1 σ 39 0 = sp_mid σ 39 0 := by
  refine ⟨?_, sp_rounds_39 _ _ _ _, sp_nine_39 _, sp_choose_f _ _ 39 0 (by decide)⟩
  have := sp_al_39 σ (σ 32 0) 0
  rw [Nat.zero_add] at this
  exact this
theorem BL_ch1 (σ : ss_S) : BL (ch1 σ) = BL σ + (tb σ (sp_al σ (σ 32 0)) + tb (sp_al σ (σ 32 0)) (sp_rounds 2000 (σ 0 0) 2000 (sp_al σ (σ 32 0))) + tb (sp_rounds 2000 (σ 0 0) 2000 (sp_al σ (σ 32 0))) (sp_mid σ)) := by
  obtain ⟨a1, a2, a3, a4⟩ := ch1_39 σ
  have t1 := tb_t a1 a2
  have t2 := tb_t (Nat.le_trans a1 a2) a3
  have t3 : tb σ (ch1 σ) = tb σ (sp_mid σ) := by
    unfold tb
    rw [a4]
  rw [BL_tb (fun i => ch1_f σ 44 i (by decide)) (ch1_f σ 43 0 (by decide)) (ch1_f σ 0 0 (by decide)) (by omega), t3]
  omega
theorem MS.blk {σ : ss_S} (h : MS σ) : BL σ ≤ BL (sp_micro σ).1 := by
  obtain ⟨b, P, n, -, hV, -, -, -, -, hnow, -⟩ := id h
  have hC := hV.2.1.1
  rw [(h.micro hC).1]
  show _ ≤ BL (Qs (ch1 σ) 1 (σ 0 0))
  have e0 : ch1 σ 0 0 = σ 0 0 := ch1_f σ 0 0 (by decide)
  have e := BL_Qs (ch1 σ) 1 (by rw [ch1_f σ 43 0 (by decide)]; omega) (Nat.le_refl _)
  rw [e0] at e
  rw [e, BL_ch1]
  omega
theorem runN_BL {σ0 : ss_S} {n : Nat} (hMS : ∀ j, j < n → MS (sp_runN σ0 j).1) : ∀ d j, j + d ≤ n → BL (sp_runN σ0 j).1 ≤ BL (sp_runN σ0 (j + d)).1 := by
  intro d
  induction d with
  | zero => exact fun j _ => Nat.le_refl _
  | succ d ih =>
    intro j hj
    exact Nat.le_trans (ih j (by omega)) (hMS (j + d) (by omega)).blk
/-- a stretch in microseconds -/
theorem runN_q {σ0 τ : ss_S} {j C : Nat} (hτ : (sp_runN σ0 j).1 = τ) (h : MS τ) (h0 : τ 0 0 = C) (hC : 1 ≤ C) : ∀ q, 1 ≤ q → quiet (ch1 τ) C q → sp_runN σ0 (j + q) = (Qs (ch1 τ) q C, (sp_runN σ0 j).2 + nsw (ch1 τ) C) := by
  intro q
  induction q with
  | zero => exact fun h => absurd h (by omega)
  | succ q ih =>
    intro _ hq
    cases q with
    | zero =>
      show ((sp_micro (sp_runN σ0 j).1).1, (sp_runN σ0 j).2 + (sp_micro (sp_runN σ0 j).1).2) = _
      rw [hτ, (h.micro (by omega)).1, h0]
    | succ q =>
      have i1 := ih (by omega) (hq.mono (by omega))
      show ((sp_micro (sp_runN σ0 (j + (q + 1))).1).1, (sp_runN σ0 (j + (q + 1))).2 + (sp_micro (sp_runN σ0 (j + (q + 1))).1).2) = _
      rw [i1]
      obtain ⟨c1, c2, c3, c4⟩ := h.ch
      have e0 : ch1 τ 0 0 = C := (ch1_f τ 0 0 (by decide)).trans h0
      show ((sp_micro (Qs (ch1 τ) (q + 1) C)).1, _ + (sp_micro (Qs (ch1 τ) (q + 1) C)).2) = _
      rw [quiet_step (by omega) e0 (by omega) c3 (fun k hk => c1 k (by omega)) hq]
      rfl
section CV2
variable {G : mj_G} {B : cl_B} {σ τ : ss_S} {c : cc_S} {μ μ0 : mj_MM} {Ex : Option Value → mj_MM → Prop} {N S : Nat}
theorem rl_chAll (V3 V4 V5 : Int32) (h : MS σ) (he : ∀ c' μ', cl_Q B c' μ0 μ' → REP B 500 0 0 (ch1 σ) c' → mj_nc μ' = mj_nc μ → mj_ns μ' = mj_ns μ → mj_J G mY_T_run Ex N S 77 [(0, va_rf (some (cD B 0 0))), (3, .int V3), (4, .int V4), (5, .int V5), (6, va_rf (some (cD B 10 1))), (7, .int (nI (σ 0 0))), (8, .int (nI (σ 0 0)))] [] μ') :
    ∀ d k c μ1, k + d = σ 0 0 → cl_Q B c μ0 μ1 → (if k = 0 then REP B 500 0 0 (sp_mid σ) c else REP B 500 0 0 (ch1 σ) c) → mj_nc μ1 = mj_nc μ → mj_ns μ1 = mj_ns μ →
    mj_J G mY_T_run Ex N S 77 [(0, va_rf (some (cD B 0 0))), (3, .int V3), (4, .int V4), (5, .int V5), (6, va_rf (some (cD B 10 1))), (7, .int (nI (σ 0 0))), (8, .int (nI k))] [] μ1 := by
  obtain ⟨m1, m2, m3, m4⟩ := h.mid
  obtain ⟨c1, c2, c3, c4⟩ := h.ch
  obtain ⟨b, P, n, -, hV, -⟩ := id h
  have hC := hV.2.1
  intro d
  induction d with
  | zero =>
    intro k c μ1 hk hQ hP r1 r2
    have : k = σ 0 0 := by omega
    subst this
    rw [if_neg (by omega)] at hP
    exact he c μ1 hQ hP r1 r2
  | succ d ih =>
    intro k c μ1 hk hQ hP r1 r2
    have nxt : ∀ μ2, CR B 500 0 0 (ch1 σ) μ0 μ2 → mj_nc μ2 = mj_nc μ1 → mj_ns μ2 = mj_ns μ1 → mj_J G mY_T_run Ex N S 97 [(0, va_rf (some (cD B 0 0))), (3, .int V3), (4, .int V4), (5, .int V5), (6, va_rf (some (cD B 10 1))), (7, .int (nI (σ 0 0))), (8, .int (nI k))] [] μ2 := fun μ2 h2 r3 r4 => by
      obtain ⟨c2, hQ2, hP2⟩ := h2
      refine bk_T_run_97 ?_
      rw [nI_1]
      exact ih (k + 1) c2 μ2 (by omega) hQ2 (by rw [if_neg (by omega)]; exact hP2) (r3.trans r1) (r4.trans r2)
    have go : ∀ τ, REP B 500 0 0 τ c → τ 0 0 = σ 0 0 → r24 τ → sp_choose τ k = ch1 σ → mj_J G mY_T_run Ex N S 77 [(0, va_rf (some (cD B 0 0))), (3, .int V3), (4, .int V4), (5, .int V5), (6, va_rf (some (cD B 10 1))), (7, .int (nI (σ 0 0))), (8, .int (nI k))] [] μ1 := fun τ hR h0 h24 hch => by
      have hx := hR.x
      have a1 : cL B 10 1 := hR.b.2.2.1.2.1
      have na : cN B 10 1 = σ 0 0 := hR.b.2.2.2.1.2.1.trans h0
      have en : mj_n μ1 (cD B 10 1) = σ 0 0 := by rw [(hQ.1.2.2.1 10 1 a1 (by decide)).1, na]
      have ea : mj_r μ1 (cD B 10 1) k = some (cD B 1 k) := by
        rw [hQ.e1 a1 (by omega), hR.h1.2.2.2.1 k (by omega)]
        rfl
      refine bk_T_run_77 ⟨fun z => absurd z (by rw [mj_le (by omega) (by omega)]; omega), fun _ => ⟨_, rfl, hQ.ta1 a1, by rw [en]; exact vp_in_nI (by omega) (by omega), hQ.t0 hx, ?_⟩⟩
      rw [nI_clamp (by omega), ea]
      have := lc_choose (G := G) hQ hR h24 k (by omega)
      rw [hch] at this
      exact ⟨_, this, nxt⟩
    by_cases z : k = 0
    · rw [if_pos z] at hP
      exact go (sp_mid σ) hP (sp_mid_f σ 0 0 (by decide)) m3 (by rw [z]; rfl)
    · rw [if_neg z] at hP
      exact go (ch1 σ) hP (ch1_f σ 0 0 (by decide)) (m3.cg (fun g j hg => sp_choose_f _ _ _ _ (by omega))) (c1 k (by omega))
theorem rl_runC (σ0 : ss_S) (n E C : Nat) (hE : E ≤ 50000) (hn : σ0 43 0 + n = E) (hMS : ∀ j, j < n → MS (sp_runN σ0 j).1) (hC : cN B 10 1 = C) (hC8 : 1 ≤ C ∧ C ≤ 8)
    (he : ∀ μ', CR B 0 0 0 (sp_runN σ0 n).1 μ0 μ' → mj_nc μ' = N → mj_ns μ' = S → Ex (some (.int (nI (sp_runN σ0 n).2))) μ') :
    ∀ d j v c μ, j + d = n → v ≤ j → cl_Q B c μ0 μ → REP B 0 0 0 (sp_runN σ0 j).1 c → (sp_runN σ0 j).1 43 0 = σ0 43 0 + j → mj_nc μ + BL (sp_runN σ0 n).1 = N + BL (sp_runN σ0 j).1 → mj_ns μ + 512 * BL (sp_runN σ0 n).1 = S + 512 * BL (sp_runN σ0 j).1 →
    mj_J G mY_T_run Ex N S 36 [(0, va_rf (some (cD B 0 0))), (3, .int (nI E)), (4, .int (nI (sp_runN σ0 j).2)), (5, .int (nI v))] [] μ := by
  intro d
  induction d using Nat.strongRecOn with
  | ind d ih =>
    intro j v c μ hj hv hQ hP h43 eN eS
    have hx := hP.x
    have e12 : c 0 12 0 = (sp_runN σ0 j).1 43 0 := hP.h1.2.1.2.2.2.2
    refine bk_T_run_36 ⟨hQ.t0 hx, ?_⟩
    rw [hQ.i0_12 hx, e12, h43, mj_le (by omega) (by omega)]
    by_cases hd : d = 0
    · have hjn : j = n := by omega
      subst hjn
      exact ⟨fun _ => he μ ⟨c, hQ, hP⟩ (by omega) (by omega), fun z => absurd (by omega) z⟩
    · refine ⟨fun z => absurd z (by omega), fun _ => ?_⟩
      rw [show (50000 : Int32) = nI 50000 from rfl, mj_le (by decide) (by omega)]
      refine ⟨fun z => absurd z (by omega), fun _ => ?_⟩
      have hms := hMS j (by omega)
      have hmono := runN_BL hMS (n - j) j (by omega)
      rw [show j + (n - j) = n by omega] at hmono
      have hτ0 : (sp_runN σ0 j).1 0 0 = C := hP.b.2.2.2.1.2.1.symm.trans hC
      obtain ⟨b, P, nn, ⟨hb1, hb2, hb3⟩, hV, hF, hU, hnn, hp, hnow, hi9, h38, h16, h20, -⟩ := id hms
      have hrq := runN_q (j := j) (σ0 := σ0) rfl hms hτ0 hC8.1
      have mm : BL (ch1 (sp_runN σ0 j).1) + sumf (wd (ch1 (sp_runN σ0 j).1)) C ≤ BL (sp_runN σ0 n).1 := by
        have q1 := hrq 1 (Nat.le_refl _)
        have m1 := runN_BL hMS (n - (j + 1)) (j + 1) (by omega)
        rw [show j + 1 + (n - (j + 1)) = n by omega] at m1
        have m2 : (sp_runN σ0 (j + 1)).1 = Qs (ch1 (sp_runN σ0 j).1) 1 C := by
          show (sp_micro (sp_runN σ0 j).1).1 = _
          rw [(hms.micro (by omega)).1, hτ0]
        have e := BL_Qs (ch1 (sp_runN σ0 j).1) 1 (by rw [ch1_f _ 43 0 (by decide)]; omega) (Nat.le_refl _)
        rw [ch1_f _ 0 0 (by decide), hτ0] at e
        rw [m2, e] at m1
        exact m1
      have hbl := BL_ch1 (sp_runN σ0 j).1
      have hcms := hms.ch
      generalize hτ : (sp_runN σ0 j).1 = τ at *
      obtain ⟨a1, a2, a3, a4⟩ := ch1_39 τ
      refine ⟨_, _, _, lc_told hQ hP hb1 (by omega) hb3, by omega, fun μ1 h r1 r2 => ?_⟩
      obtain ⟨c1, hQ1, hP1⟩ := h
      have hal0 : sp_al τ (τ 32 0) 0 0 = τ 0 0 := sp_al_f _ _ _ (by decide) _
      have hF' : sp_Fam (sp_al τ (τ 32 0) 0 0) P := by rw [hal0]; exact hF
      have hst := lc_takeSteps (G := G) hQ1 hP1 hF' hU nn hp hnn
      rw [hal0] at hst
      refine bk_T_run_55 ⟨hQ1.t0 hx, _, _, _, hst, by omega, fun μ2 h r3 r4 => ?_⟩
      obtain ⟨c2, hQ2, hP2⟩ := h
      obtain ⟨e1, -, n', -, e3⟩ := cR_rounds hF hU (F := 1000) (F' := 2000) 1000 nn _ 2000 hp hnn (by omega) hnn (by omega)
      rw [e1] at e3
      obtain ⟨-, bb, vb, -, vb2, -⟩ := hF.1 n' _ e3
      have b39 := vb 39 0
      have hni := lc_nine (G := G) hQ2 hP2 hi9 (by omega)
      have emid : sp_nine (sp_rounds 2000 (τ 0 0) 2000 (sp_al τ (τ 32 0))) = sp_mid τ := rfl
      rw [emid] at hni
      refine bk_T_run_59 ⟨hQ2.t0 hx, _, _, _, hni, by omega, fun μ3 h r5 r6 => ?_⟩
      obtain ⟨c3, hQ3, hP3⟩ := h
      have eR1 : mj_r μ3 (cD B 0 0) 1 = some (cD B 10 1) := by rw [hQ3.r0_1 hx, hP3.h1.1.2.1]; rfl
      have aa : cL B 10 1 := hP3.b.2.2.1.2.1
      have en : mj_n μ3 (cD B 10 1) = τ 0 0 := by rw [(hQ3.1.2.2.1 10 1 aa (by decide)).1, hC, hτ0]
      refine bk_T_run_63 ⟨hQ3.t0 hx, _, eR1, hQ3.ta1 aa, ?_⟩
      rw [eR1, en]
      refine rl_chAll _ _ _ hms (fun c4 μ4 hQ4 hP4 r7 r8 => ?_) (τ 0 0) 0 c3 μ3 (by omega) hQ3 (by rw [if_pos rfl]; exact hP3) rfl rfl
      have f0 : ch1 τ 0 0 = C := (ch1_f τ 0 0 (by decide)).trans hτ0
      have f43 : ch1 τ 43 0 = τ 43 0 := ch1_f τ 43 0 (by decide)
      have f35 : ch1 τ 35 0 = τ 35 0 := ch1_f τ 35 0 (by decide)
      obtain ⟨g1, g2, g3, g4⟩ := hcms
      have hpsg : ∀ k, k < ch1 τ 0 0 → ¬ itr (ch1 τ) k → sp_running (ch1 τ) k ≠ 0 → psg (ch1 τ) (sp_running (ch1 τ) k) := fun k hk => g2 k (by omega)
      refine bk_T_run_77 ⟨fun _ => ⟨hQ4.t0 hx, _, lc_quiet hQ4 hP4 E (by omega) hpsg g4 (fun k hk => by rw [ch1_f τ 38 k (by decide)]; exact h38 k (by omega)), fun x μ5 h r9 r10 => ?_⟩, fun z => absurd (by rw [mj_le (by omega) (by omega)]; omega) z⟩
      obtain ⟨⟨q, rfl, q1, q2, q3⟩, rfl⟩ := h
      rw [f0] at q2
      have h1c : ch1 τ 1 0 = τ 1 0 := ch1_f τ 1 0 (by decide)
      have hps := lc_pass (G := G) hQ4 hP4 (by rw [f0]; exact q2) q1 hpsg (fun t ht h => by
        have e16 : ch1 τ 16 t = sp_mid τ 16 t := sp_choose_f _ _ 16 t (by decide)
        have e14 : ch1 τ 14 t = sp_mid τ 14 t := sp_choose_f _ _ 14 t (by decide)
        rw [e16] at h
        rw [e14]
        exact h16 t (by rw [← h1c]; exact ht) h) (fun t => by rw [ch1_f τ 20 t (by decide), f43]; exact h20 t)
      rw [f0] at hps
      refine bk_T_run_111 ⟨hQ4.t0 hx, _, _, _, hps, by omega, fun x μ6 h r11 r12 => bk_T_run_114 ?_⟩
      obtain ⟨rfl, c6, hQ6, hP6⟩ := h
      have hr := hrq q q1 q2
      have eq2 := BL_Qs (ch1 τ) q (by omega) q1
      rw [f0] at eq2
      rw [nI_add, nI_1, show (sp_runN σ0 j).2 + nsw (ch1 τ) C = (sp_runN σ0 (j + q)).2 by rw [hr]]
      have es : (sp_runN σ0 (j + q)).1 = Qs (ch1 τ) q C := by rw [hr]
      rw [← es] at hP6
      refine ih (d - q) (by omega) (j + q) (v + 1) c6 μ6 (by omega) (by omega) hQ6 hP6 ?_ ?_ ?_
      · rw [es, Qs_43, f43]
        omega
      · rw [es, eq2]
        omega
      · rw [es, eq2]
        omega
end CV2
