section CU
variable {G : mj_G} {B : cl_B} {e t0 t1 b : Nat} {σ τ : ss_S} {c d dd : cc_S} {μ μ0 : mj_MM} {Ex : Option Value → mj_MM → Prop} {N S q : Nat}
theorem r16.sv (h : r16 B c) (f s j q : Nat) (hj : cL B 2 j) (hu : cL B 3 0) (hs : f = 0 ∨ f = 1 ∨ cL B 2 s) : r16 B (cs_sv f s c j q) := by
  unfold cs_sv
  split
  · exact h.u 2 2 j _ (Or.inl hj)
  · split
    · exact (h.u 2 2 j _ (Or.inl hj)).u 3 0 0 _ (Or.inl hu)
    · rename_i z0 z1
      exact (h.u 2 2 j _ (Or.inl hj)).u 2 3 s _ (Or.inl ((hs.resolve_left z0).resolve_left z1))
theorem lc_pass (hQ : cl_Q B c μ0 μ) (hP : REP B 500 0 0 σ c) (hq : quiet σ (σ 0 0) q) (hq1 : 1 ≤ q) (hpsg : ∀ k, k < σ 0 0 → ¬ itr σ k → sp_running σ k ≠ 0 → psg σ (sp_running σ k)) (h16s : ∀ t, (1 ≤ t ∧ t ≤ σ 1 0) → σ 16 t ≠ 0 → σ 14 t = 0) (h20 : ∀ t, σ 20 t ≤ σ 43 0) :
    mj_M G my_T_passMicroseconds mY_T_passMicroseconds [va_rf (some (cD B 0 0)), .int (nI q)] (mj_nc μ + sumf (wd σ) (σ 0 0)) (mj_ns μ + 512 * sumf (wd σ) (σ 0 0)) μ (mj_XI (fun x μ' => x = nI (nsw σ (σ 0 0)) ∧ CR B 0 0 0 (Qs σ q (σ 0 0)) μ0 μ')) := by
  have hx := hP.x
  have hu := hP.u
  have hC := hP.v.2.1
  have hnow : σ 43 0 ≤ 50000 := hP.v.2.2.2.2.2.2.2.2.2
  have hq6 := hq.2.2.2.2.2
  have e12 : c 0 12 0 = σ 43 0 := hP.h1.2.1.2.2.2.2
  have e4 : c 0 4 0 = 1 := hP.h1.1.2.2.2.2.1
  have eR : mj_r μ (cD B 0 0) 4 = some (cD B 3 0) := by rw [hQ.r0_4 hx, e4]; rfl
  have eR1 : mj_r μ (cD B 0 0) 1 = some (cD B 10 1) := by rw [hQ.r0_1 hx, hP.h1.1.2.1]; rfl
  have a1 : cL B 10 1 := hP.b.2.2.1.2.1
  have na : cN B 10 1 = σ 0 0 := hP.b.2.2.2.1.2.1
  have en : mj_n μ (cD B 10 1) = σ 0 0 := by rw [(hQ.1.2.2.1 10 1 a1 (by decide)).1, na]
  have hL0 : LG σ c c 0 := by
    refine ⟨rfl, fun j hj => ?_, fun j hj => ?_, fun i _ => rfl, fun j hj => absurd hj (Nat.not_lt_zero _), fun j _ i _ => rfl, fun j hj => absurd hj (Nat.not_lt_zero _), fun j => rfl⟩
    · rw [if_neg (fun z => absurd z.1 (Nat.not_lt_zero _))]
      rfl
    · rw [if_neg (Nat.not_lt_zero _)]
      exact (hP.h13.2.1 j hj).2.2
  refine mj_of (by decide) rfl (by decide) (Nat.le_of_ble_eq_true rfl) rfl ⟨Nat.le_add_right _ _, Nat.le_add_right _ _⟩ ?_
  refine bk_T_passMicroseconds_0 ⟨hQ.t0 hx, _, eR, hQ.t3 hu, ?_⟩
  rw [hQ.i0_12 hx, e12]
  refine ⟨_, lc_atHand hQ hP, fun x μ1 h r1 r2 => bk_T_passMicroseconds_11 (bk_T_passMicroseconds_12 (bk_T_passMicroseconds_14 ⟨?_, ?_⟩))⟩
  · obtain ⟨rfl, rfl⟩ := h
    exact hQ.t0 hx
  · obtain ⟨rfl, rfl⟩ := h
    rw [eR1]
    refine bk_T_passMicroseconds_20 ⟨_, rfl, hQ.ta1 a1, ?_⟩
    rw [en]
    refine bk_T_passMicroseconds_25 (rl_passC hP hq hq1 hpsg h16s h20 (mj_nc μ1) (mj_ns μ1) (fun d dd μ2 hQ2 hov hR h16 hL r3 r4 => ?_) (σ 0 0) 0 c c μ1 (by omega) hQ (fun _ _ _ _ _ _ => rfl) (by rw [Qt_0]; exact hP) hP.h16 hL0 rfl rfl)
    have ed12 : ∀ d', ov d' dd → d' 0 12 0 = σ 43 0 := fun d' h => (h 0 12 0 (by omega) (by omega) (by omega)).trans (hR.h1.2.1.2.2.2.2.trans (Qt_o _ _ _ _ _ (by decide)))
    refine bk_T_passMicroseconds_28 ⟨fun _ => ?_, fun z => absurd (by rw [mj_le (by omega) (by omega)]; omega) z⟩
    by_cases y : sp_atHand σ = 0
    · rw [y]
      refine ⟨fun _ => bk_T_passMicroseconds_162 ⟨hQ2.t0 hx, ?_⟩, fun b x => (by cases x)⟩
      rw [hQ2.i0_12 hx, ed12 d hov, nI_add]
      refine ⟨⟨_, rfl, rfl, _, hQ2.pI 0 12 0 (σ 43 0 + q) hx (by decide) (by omega), hP.stretch hq hq1 hR (fun f i hf => ?_) hov h16 hL⟩, r3, r4⟩
      by_cases z : f = 38
      · rw [z, Qw_38, if_neg (fun w => by omega)]
        exact Qt_o _ _ _ _ _ (by decide)
      · unfold Qw
        rw [if_neg hf, if_neg z]
    · obtain ⟨j, g1, g2, g3, -⟩ := (sp_hand_spec σ (σ 35 0)).resolve_left (fun x => y x.1)
      have g1' : sp_atHand σ = j + 1 := g1
      have q35 : Qt σ q (σ 0 0) 35 0 = σ 35 0 := Qt_o _ _ _ _ _ (by decide)
      have q38 : ∀ k, Qt σ q (σ 0 0) 38 k = σ 38 k := fun k => Qt_o _ _ _ _ _ (by decide)
      have q36 : ∀ k, Qt σ q (σ 0 0) 36 k = σ 36 k := fun k => Qt_o _ _ _ _ _ (by decide)
      obtain ⟨L, w1, w2, w3⟩ := hR.h10.2.2.2.2
      have ed : ∀ K p i, (K = 2 ∨ K = 3) → d K p i = dd K p i := fun K p i hK => hov K p i (by omega) (by omega) (by omega)
      have w1' : ch (d 2 3) (d 3 0 0) L := by
        rw [ed 3 0 0 (by decide)]
        exact ch_congr L _ (fun x _ => ed 2 3 x (by decide)) w1
      have hL2 : ∀ k ∈ L, cL B 2 k := fun k hk => hR.i ((w2 k).mp hk).1
      have hjL : j ∈ L := (w2 j).mpr ⟨by rw [q35]; exact g2, by rw [q38]; exact g3.2.1⟩
      have e22 : d 2 2 j = σ 38 j := by
        rw [ed 2 2 j (by decide), (hR.h10.1 j (by rw [q35]; exact g2)).2.2, q38]
      have hq2 := hq.2.1 y
      rw [g1', Nat.add_sub_cancel] at hq2
      have e4' : d 0 4 0 = 1 := (hov 0 4 0 (by omega) (by omega) (by omega)).trans hR.h1.1.2.2.2.2.1
      have eR' : mj_r μ2 (cD B 0 0) 4 = some (cD B 3 0) := by rw [hQ2.r0_4 hx, e4']; rfl
      rw [g1']
      refine ⟨fun x => (by cases x), fun b x => ?_⟩
      cases x
      refine ⟨hQ2.t0 hx, _, eR', hQ2.t3 hu, _, lc_serve hQ2 hu j q L w1' hL2 hjL (by omega), fun μ3 h r5 r6 => ?_⟩
      obtain ⟨f, s, hv, hQ3⟩ := h
      have hvd : vf f s dd j q L := by
        unfold vf at hv ⊢
        rw [← ed 2 2 j (by decide), ← ed 3 0 0 (by decide), ← ed 2 3 s (by decide)]
        exact hv
      have hR2 := hR.serve f s j q (by rw [q35]; exact g2) (by rw [q38]; exact g3.2.1) L w1 w2 w3 hvd
      have hs : f = 0 ∨ f = 1 ∨ cL B 2 s := by
        rcases hv with z | z | z
        · exact Or.inl z.1
        · exact Or.inr (Or.inl z.1)
        · exact Or.inr (Or.inr (hL2 s z.2.2.1))
      have h162 := h16.sv f s j q (hL2 j hjL) hu hs
      have hov2 := hov.sv f s j q
      have hLG2 : LG σ c (cs_sv f s d j q) (σ 0 0) := hL.cg (fun p i => cs_sv_o _ _ _ _ _ _ _ _ (by decide)) (fun i => cs_sv_o _ _ _ _ _ _ _ _ (by decide)) (fun j i => cs_sv_o _ _ _ _ _ _ _ _ (by decide))
      have e12' : cs_sv f s d j q 0 12 0 = σ 43 0 := (cs_sv_o _ _ _ _ _ _ _ _ (by decide)).trans (ed12 d hov)
      refine bk_T_passMicroseconds_162 ⟨hQ3.t0 hx, ?_⟩
      rw [hQ3.i0_12 hx, e12', nI_add]
      refine ⟨⟨_, rfl, rfl, _, hQ3.pI 0 12 0 (σ 43 0 + q) hx (by decide) (by omega), hP.stretch hq hq1 hR2 (fun f' i hf => ?_) hov2 h162 hLG2⟩, r5.trans r3, r6.trans r4⟩
      by_cases z : f' = 38
      · rw [z, Qw_38, ss_ue, g1']
        by_cases w : i = j
        · rw [if_pos w, if_pos ⟨by omega, by omega⟩, q38, w]
        · rw [if_neg w, if_neg (fun v => by omega)]
          exact q38 i
      · rw [ss_uf _ _ _ _ z]
        unfold Qw
        rw [if_neg hf, if_neg z]
end CU
