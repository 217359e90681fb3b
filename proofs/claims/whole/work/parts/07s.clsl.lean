section CLL
variable {G : mj_G} {B : cl_B} {e t0 t1 b : Nat} {σ : ss_S} {c : cc_S} {μ μ0 : mj_MM} {Ex : Option Value → mj_MM → Prop} {N S : Nat}
theorem lc_tws28 (hQ : cl_Q B c μ0 μ) (hP : REP B e 0 0 σ c) (k t : Nat) (hk : k < σ 0 0) (hr : sp_running σ k = t)
    (he : ∀ μ', CR B e 0 0 (lk σ t).1 μ0 μ' → mj_nc μ' = mj_nc μ → mj_ns μ' = mj_ns μ → Ex (some (va_rf (cl_ref B 8 (enc (lk σ t).2)))) μ') :
    mj_J G mY_T_taskWithStep Ex (mj_nc μ) (mj_ns μ) 28 [(0, va_rf (some (cD B 0 0))), (1, va_rf (some (cD B 1 k)))] [] μ := by
  have hx := hP.x
  have hck := hP.co hk
  have er := hP.run k hk
  rw [hr] at er
  refine bk_T_taskWithStep_28 ⟨_, rfl, hQ.t1 hck, ?_⟩
  rw [hQ.r1_4 hck, er]
  have hrs := sp_running_spec σ k
  rw [hr] at hrs
  by_cases ht0 : t = 0
  · subst ht0
    have el : lk σ 0 = (σ, 0) := by
      unfold lk
      rw [if_pos (Or.inl rfl)]
    rw [el] at he
    exact ⟨fun _ => he μ ⟨c, hQ, hP⟩ rfl rfl, fun b z => (by cases z)⟩
  · obtain ⟨ht, h3, h11⟩ := hrs.resolve_left (fun z => ht0 z.1)
    have hkt := hP.k ht
    rw [enc_s ht0]
    refine ⟨fun z => (by cases z), fun b z => ?_⟩
    cases z
    have e7 := hP.h7.1 t ht (by omega) (by omega)
    rw [hQ.r8_7 hkt, e7]
    refine ⟨hQ.t8 hkt, ?_⟩
    by_cases h16 : σ 16 t = 0
    · rw [if_pos h16]
      rcases sp_next_eq σ t with ⟨n1, n2⟩ | ⟨q, n1, n2⟩
      · rw [n2]
        have h26 : σ 26 t = 0 := by
          apply Decidable.byContradiction
          intro z
          obtain ⟨-, -, -, -, -, -, k', y, -⟩ := hP.h9.2.2.2 t ht z
          omega
        have el : lk σ t = (σ, t) := by
          unfold lk
          rw [if_neg (by omega), n1]
        rw [el] at he
        refine ⟨fun _ => ?_, fun b z => (by cases z)⟩
        have := he μ ⟨c, hQ, hP⟩ rfl rfl
        rw [show (σ, t).2 = t from rfl, enc_s ht0] at this
        exact this
      · rw [n2]
        obtain ⟨w1, w2, w3⟩ := pq_next n2
        have hkp := hP.p w3
        obtain ⟨p0, p1, p2, -, -, pg⟩ := hP.h6.1 q w3
        obtain ⟨g1, g2, g3, g4, g5, g6⟩ := an_gd pg
        refine ⟨fun z => (by cases z), fun b z => ?_⟩
        cases z
        rw [hQ.i6_0 hkp, hQ.i6_1 hkp, p0, p1, mj_z0 (by omega), mj_c8, mj_zz (by omega) (by decide)]
        have d26 : σ 26 t ≠ 0 → σ 9 q = 8 ∧ σ 10 q = σ 26 t ∧ σ 25 (σ 26 t) ≠ 0 ∧ σ 25 (σ 26 t) ≠ t := fun z => by
          obtain ⟨-, -, -, -, f5, f6, k', y, y2, y3⟩ := hP.h9.2.2.2 t ht z
          have : k' = q := by omega
          subst this
          exact ⟨y2, y3, f5, f6⟩
        refine ⟨hQ.t6 hkp, fun z => ?_, fun z => ⟨fun z2 => ?_, fun z2 => ⟨hQ.t0 hx, _, lc_lockOf hQ hP (nI (σ 10 q)), fun y μ1 h r1 r2 => ?_⟩⟩⟩
        · have el : lk σ t = (σ, 0) := by
            unfold lk
            by_cases y : σ 26 t = 0
            · rw [if_neg (by omega), n1]
              show (if σ 9 q = 0 then _ else _) = _
              rw [if_pos z]
            · rw [if_pos (Or.inr (Or.inr y))]
          rw [el] at he
          exact he μ ⟨c, hQ, hP⟩ rfl rfl
        · have h26 : σ 26 t = 0 := by
            apply Decidable.byContradiction
            intro y
            exact z2 (d26 y).1
          have el : lk σ t = (σ, t) := by
            unfold lk
            rw [if_neg (by omega), n1]
            show (if σ 9 q = 0 then _ else if _ then _ else _) = _
            rw [if_neg z, if_neg (fun y => z2 y.1)]
          rw [el] at he
          have := he μ ⟨c, hQ, hP⟩ rfl rfl
          rw [show (σ, t).2 = t from rfl, enc_s ht0] at this
          exact this
        · obtain ⟨hy, rfl⟩ := h
          have hXr := g5 (Or.inl z2)
          rw [nI_toInt (by omega), Int.toNat_natCast, if_pos (by omega)] at hy
          rw [hy]
          have h15 : σ 15 t = 0 := by
            apply Decidable.byContradiction
            intro y
            obtain ⟨-, k', y1, y2, -⟩ := hP.h7.2.2 t ht (by omega) h16 y
            have : k' = q := by omega
            subst this
            omega
          have h26 : σ 26 t = σ 10 q ∨ (σ 26 t = 0 ∧ σ 11 t ≠ 0 ∧ σ 16 t = 0 ∧ σ 15 t = 0 ∧ pq (σ 8) (σ 7 0) t (σ 14 t) = q + 1 ∧ σ 9 q = 8 ∧ σ 10 q = σ 10 q) := by
            by_cases y : σ 26 t = 0
            · exact Or.inr ⟨y, by omega, h16, h15, n2, z2, rfl⟩
            · exact Or.inl (d26 y).2.1.symm
          refine bk_T_taskWithStep_76 ⟨_, lc_starts hQ hP t (σ 10 q) q ht hXr h26, fun x μ2 h r3 r4 => ?_⟩
          by_cases y : σ 25 (σ 10 q) ≠ 0 ∧ σ 25 (σ 10 q) ≠ t
          · obtain ⟨rfl, hcr⟩ := h.1 y
            refine bk_T_taskWithStep_79 ⟨fun u => absurd u (by decide), fun _ => ?_⟩
            have el : lk σ t = (if σ 26 t = 0 then sp_spin σ t (σ 10 q) else σ, 0) := by
              unfold lk
              by_cases u : σ 26 t = 0
              · rw [if_neg (by omega), n1, if_pos u]
                show (if σ 9 q = 0 then _ else if _ then _ else _) = _
                rw [if_neg z, if_pos ⟨z2, y⟩]
              · rw [if_pos (Or.inr (Or.inr u)), if_neg u]
            rw [el] at he
            exact he μ2 hcr r3 r4
          · obtain ⟨rfl, rfl⟩ := h.2 y
            refine bk_T_taskWithStep_79 ⟨fun _ => ?_, fun u => absurd rfl u⟩
            have u : σ 26 t = 0 := by
              apply Decidable.byContradiction
              intro u
              obtain ⟨d1, d2, d3, d4⟩ := d26 u
              rw [d2] at y
              exact y ⟨d3, d4⟩
            have el : lk σ t = (σ, t) := by
              unfold lk
              rw [if_neg (by omega), n1]
              show (if σ 9 q = 0 then _ else if _ then _ else _) = _
              rw [if_neg z, if_neg (fun w => y w.2)]
            rw [el] at he
            have := he μ2 ⟨c, hQ, hP⟩ rfl rfl
            rw [show (σ, t).2 = t from rfl, enc_s ht0] at this
            exact this
    · rw [if_neg h16]
      have hps := hP.ps ht
      refine ⟨fun z => (by cases z), fun b z => ?_⟩
      cases z
      have el : lk σ t = (σ, 0) := by
        unfold lk
        rw [if_pos (Or.inr (Or.inl h16))]
      rw [el] at he
      have e0 : c 6 0 (1000 + t) = 0 := (hP.h6.2 t ht).1
      rw [hQ.i6_0 hps, e0]
      exact ⟨hQ.t6 hps, fun _ => he μ ⟨c, hQ, hP⟩ rfl rfl, fun z => absurd rfl z⟩
theorem lc_tws (hQ : cl_Q B c μ0 μ) (hP : REP B e 0 0 σ c) (h24 : r24 σ) (k : Nat) (hk : k < σ 0 0) : mj_M G my_T_taskWithStep mY_T_taskWithStep [va_rf (some (cD B 0 0)), va_rf (some (cD B 1 k))] (mj_nc μ) (mj_ns μ) μ (mj_XR (fun x μ' => x = cl_ref B 8 (enc (sp_look σ k).2) ∧ CR B e 0 0 (sp_look σ k).1 μ0 μ')) := by
  have hx := hP.x
  have hu := hP.u
  have hck := hP.co hk
  have hC := hP.v.2.1.2
  have e0 : c 1 0 k = k := (hP.h4 k hk).1
  have e4 : c 0 4 0 = 1 := hP.h1.1.2.2.2.2.1
  have e12 : c 0 12 0 = σ 43 0 := hP.h1.2.1.2.2.2.2
  refine mj_of (by decide) rfl (by decide) (Nat.le_of_ble_eq_true rfl) rfl ⟨Nat.le_refl _, Nat.le_refl _⟩ ?_
  have go : sp_look σ k = lk (sp_choose σ k) (sp_chosen σ k) → ∀ μ', CR B e 0 0 (sp_choose σ k) μ0 μ' → mj_nc μ' = mj_nc μ → mj_ns μ' = mj_ns μ → mj_J G mY_T_taskWithStep (fun v μ' => mj_XR (fun x μ' => x = cl_ref B 8 (enc (sp_look σ k).2) ∧ CR B e 0 0 (sp_look σ k).1 μ0 μ') v μ' ∧ mj_nc μ' = mj_nc μ ∧ mj_ns μ' = mj_ns μ) (mj_nc μ) (mj_ns μ) 28 [(0, va_rf (some (cD B 0 0))), (1, va_rf (some (cD B 1 k)))] [] μ' := by
    intro el μ1 h r1 r2
    obtain ⟨c1, hQ1, hP1⟩ := h
    rw [← r1, ← r2]
    refine lc_tws28 hQ1 hP1 k (sp_chosen σ k) (by rw [sp_choose_f σ k 0 0 (by decide)]; exact hk) (sp_choose_after hP.uq k).1 (fun μ2 h r3 r4 => ?_)
    rw [el]
    exact ⟨⟨_, rfl, rfl, h⟩, r3, r4⟩
  refine bk_T_taskWithStep_0 ⟨_, rfl, hQ.t1 hck, ?_⟩
  rw [hQ.i1_0 hck, e0, mj_z0 (by omega)]
  refine ⟨fun q => ⟨hQ.t0 hx, _, lc_choose hQ hP h24 k hk, fun μ1 h r1 r2 => go ?_ μ1 h r1 r2⟩, fun q => ⟨hQ.t0 hx, cD B 3 0, ?_, hQ.t3 hu, ?_⟩⟩
  · unfold sp_look
    rw [if_neg (fun z => q z.1)]
  · rw [hQ.r0_4 hx, e4]
    rfl
  · rw [hQ.i0_12 hx, e12]
    refine ⟨_, lc_atHand hQ hP, fun x μ1 h r1 r2 => ?_⟩
    obtain ⟨rfl, rfl⟩ := h
    by_cases z : sp_atHand σ = 0
    · rw [z]
      refine bk_T_taskWithStep_18 ⟨fun _ => ⟨hQ.t0 hx, _, lc_choose hQ hP h24 k hk, fun μ1 h r1 r2 => go ?_ μ1 h r1 r2⟩, fun b y => (by cases y)⟩
      unfold sp_look
      rw [if_neg (fun y => y.2 z)]
    · obtain ⟨n, hn⟩ : ∃ n, sp_atHand σ = n + 1 := ⟨sp_atHand σ - 1, by omega⟩
      have el : sp_look σ k = (σ, 0) := by
        unfold sp_look
        rw [if_pos ⟨q, z⟩]
      rw [el, hn]
      refine bk_T_taskWithStep_18 ⟨fun y => (by cases y), fun b y => ⟨⟨_, rfl, rfl, c, hQ, hP⟩, rfl, rfl⟩⟩
end CLL
