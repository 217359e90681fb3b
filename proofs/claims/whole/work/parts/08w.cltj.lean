section TJ
variable {G : mj_G} {B : cl_B} {σ τ : ss_S} {c : cc_S} {μ μ0 : mj_MM} {Ex : Option Value → mj_MM → Prop} {N S : Nat}
/-- the loop of the resources -/
theorem li_110 {h0 C : Nat} (hC : 1 ≤ C ∧ C ≤ 8) (hE : ∀ B μ', LB B h0 C C 33 17 1 → cl_Q B (cF C C 33 17 1) μ0 μ' → mj_nc μ' = N → mj_ns μ' = S → Ex none μ') :
    ∀ n k (B : cl_B) (μ : mj_MM), n + k = 33 → LB B h0 C C k 0 0 → cl_Q B (cF C C k 0 0) μ0 μ → N = mj_nc μ + n + 19 → S = mj_ns μ + 3 * n + 38 + 50000 * C / 512 → mj_J G mY_T_init Ex N S 110 [(0, va_rf (some h0)), (2, .int (nI C)), (3, .int (nI k))] [] μ := by
  intro n
  induction n with
  | zero =>
    intro k B μ hk hB hQ hN hS
    have hB' := hB
    obtain ⟨b1, b2, b3, b4⟩ := hB
    have h00 : cL B 0 0 := (b4 0 0).mpr (by omega)
    have h103 : cL B 10 2 := (b4 10 2).mpr (by omega)
    have t0 := hQ.t0 h00
    have r3 := hQ.r0_2 h00
    rw [b2] at t0 r3
    have n3 : mj_n μ (cD B 10 2) = 33 := ((hQ.1.2.2.1 10 2 h103 (by decide)).1).trans (b3 10 2)
    have k33 : k = 33 := by omega
    subst k33
    refine bk_T_init_110 ⟨t0, cD B 10 2, r3, hQ.ta2 h103, fun _ => ?_, fun z => absurd ?_ z⟩
    · exact li_140 hC hE 17 0 B μ rfl hB' hQ (by omega) (by omega)
    · rw [n3]
      decide
  | succ n ih =>
    intro k B μ hk hB hQ hN hS
    obtain ⟨b1, b2, b3, b4⟩ := hB
    have h00 : cL B 0 0 := (b4 0 0).mpr (by omega)
    have h103 : cL B 10 2 := (b4 10 2).mpr (by omega)
    have t0 := hQ.t0 h00
    have r3 := hQ.r0_2 h00
    rw [b2] at t0 r3
    have hd : ¬ cL B 7 k := fun z => by
      have := (b4 7 k).mp z
      omega
    have n3 : mj_n μ (cD B 10 2) = 33 := ((hQ.1.2.2.1 10 2 h103 (by decide)).1).trans (b3 10 2)
    refine bk_T_init_110 ⟨t0, cD B 10 2, r3, hQ.ta2 h103, fun z => absurd z ?_, fun _ => ⟨⟨by omega, by omega⟩, fun a h6 => ?_⟩⟩
    · rw [n3, nI_leI (by decide) (by omega)]
      omega
    · have hQ1 := hQ.new 7 k a 3 (by decide) hd h6 (fun p => rfl)
      refine ⟨fun μ' => μ' = mj_new μ a 8 0 3, ?_, fun μ' e q1 q2 => ?_⟩
      · refine mj_of (by decide) rfl (by decide) (Nat.le_of_ble_eq_true rfl) rfl ⟨Nat.le_refl _, Nat.le_refl _⟩ ?_
        exact bk_R_init_0 ⟨⟨rfl, rfl⟩, rfl, rfl⟩
      · rw [e]
        have L10 : cL (cl_ext B 7 k a) 10 2 := Or.inl h103
        have L4 : cL (cl_ext B 7 k a) 7 k := Or.inr ⟨rfl, rfl⟩
        have hQ2 := hQ1.pA 2 k (k + 1) L10 (by show k < cN B 10 2; rw [b3 10 2]; show k < 33; omega) (by omega) (Or.inr L4)
        have D10 : cD (cl_ext B 7 k a) 10 2 = cD B 10 2 := xDl hd h103
        have D4 : cl_ref (cl_ext B 7 k a) (cl_at 2) (k + 1) = some a := by
          show cl_ref (cl_ext B 7 k a) 7 (k + 1) = some a
          rw [cl_ref_s, xD]
        have t3 := hQ1.ta2 L10
        have t4 := hQ1.t7 L4
        have n3' : mj_n (mj_new μ a 8 0 3) (cD B 10 2) = 33 := by
          rw [← D10]
          exact ((hQ1.1.2.2.1 10 2 L10 (by decide)).1).trans (b3 10 2)
        rw [xD] at t4
        rw [D10] at t3
        rw [D10, D4, cF_2] at hQ2
        refine bk_T_init_131 ⟨cD B 10 2, r3, t3, ?_, a, rfl, t4, ?_⟩
        · rw [n3']
          exact vp_in_nI (by omega) (by decide)
        · rw [nI_clamp (by omega), nI_1]
          refine ih (k + 1) (cl_ext B 7 k a) _ (by omega) ⟨b1, by rw [xDl hd h00, b2], b3, fun K i => ?_⟩ hQ2 ?_ ?_
          · rw [xL, b4]
            omega
          · show N = mj_nc μ + 1 + n + 19
            omega
          · show S = mj_ns μ + 3 + 3 * n + 38 + 50000 * C / 512
            omega
/-- the loop of the cores -/
theorem li_83 {h0 C : Nat} (hC : 1 ≤ C ∧ C ≤ 8) (hE : ∀ B μ', LB B h0 C C 33 17 1 → cl_Q B (cF C C 33 17 1) μ0 μ' → mj_nc μ' = N → mj_ns μ' = S → Ex none μ') :
    ∀ n k (B : cl_B) (μ : mj_MM), n + k = C → LB B h0 C k 0 0 0 → cl_Q B (cF C k 0 0 0) μ0 μ → N = mj_nc μ + 3 * n + 52 → S = mj_ns μ + 108 * n + 137 + 50000 * C / 512 → mj_J G mY_T_init Ex N S 83 [(0, va_rf (some h0)), (2, .int (nI C)), (3, .int (nI k))] [] μ := by
  intro n
  induction n with
  | zero =>
    intro k B μ hk hB hQ hN hS
    have kC : k = C := by omega
    subst kC
    refine bk_T_init_83 ⟨fun _ => ?_, fun z => absurd ?_ z⟩
    · exact li_110 hC hE 33 0 B μ rfl hB hQ (by omega) (by omega)
    · rw [nI_leI (by omega) (by omega)]
      omega
  | succ n ih =>
    intro k B μ hk hB hQ hN hS
    obtain ⟨b1, b2, b3, b4⟩ := hB
    have h00 : cL B 0 0 := (b4 0 0).mpr (by omega)
    have h101 : cL B 10 1 := (b4 10 1).mpr (by omega)
    have t0 := hQ.t0 h00
    have r1 := hQ.r0_1 h00
    rw [b2] at t0 r1
    have hd1 : ¬ cL B 1 k := fun z => by
      have := (b4 1 k).mp z
      omega
    have hd5 : ¬ cL B 5 (k + 2) := fun z => by
      have := (b4 5 (k + 2)).mp z
      omega
    have hd11 : ¬ cL B 11 (k + 2) := fun z => by
      have := (b4 11 (k + 2)).mp z
      omega
    refine bk_T_init_83 ⟨fun z => absurd z ?_, fun _ => ⟨t0, ⟨by omega, by omega⟩, fun a3 h3 => ?_⟩⟩
    · rw [nI_leI (by omega) (by omega)]
      omega
    · have z1 : ∀ p, cF C k 0 0 0 1 p k = 0 := fun p => by
        unfold cF
        simp
      have hQ1 := hQ.new 1 k a3 7 (by decide) hd1 h3 z1
      have xd5 : ¬ cL (cl_ext B 1 k a3) 5 (k + 2) := fun z => hd5 (z.resolve_right (fun q => by omega))
      have xd11 : ¬ cL (cl_ext B 1 k a3) 11 (k + 2) := fun z => hd11 (z.resolve_right (fun q => by omega))
      have l1 : cL (cl_ext B 1 k a3) 1 k := Or.inr ⟨rfl, rfl⟩
      have hn : cN B 11 (k + 2) = 50000 / 512 + 1 := by
        rw [b3 11 (k + 2), if_neg (by decide), if_neg (by omega), if_neg (by omega)]
      refine ⟨_, _, _, lc_Cinit hQ1 a3 l1 (xD B 1 k a3) xd5 xd11 hn (by omega), ⟨?_, ?_⟩, fun μ1 h q1 q2 => ?_⟩
      · show mj_nc μ + 1 + 1 + 1 ≤ N
        omega
      · show mj_ns μ + 7 + 3 + (50000 / 512 + 1) ≤ S
        omega
      · obtain ⟨a, b, hQ2⟩ := h
        have q1' : mj_nc μ1 = mj_nc μ + 1 + 1 + 1 := q1
        have q2' : mj_ns μ1 = mj_ns μ + 7 + 3 + (50000 / 512 + 1) := q2
        have xd11' : ¬ cL (cl_ext (cl_ext B 1 k a3) 5 (k + 2) a) 11 (k + 2) := fun z => xd11 (z.resolve_right (fun q => by omega))
        have Dl : ∀ {K i}, cL B K i → cD (cl_ext (cl_ext (cl_ext B 1 k a3) 5 (k + 2) a) 11 (k + 2) b) K i = cD B K i := fun {K i} hl => by
          rw [xDl xd11' (Or.inl (Or.inl hl)), xDl xd5 (Or.inl hl), xDl hd1 hl]
        have D1 : cD (cl_ext (cl_ext (cl_ext B 1 k a3) 5 (k + 2) a) 11 (k + 2) b) 1 k = a3 := by
          rw [xDl xd11' (Or.inl l1), xDl xd5 l1, xD]
        have L10 : cL (cl_ext (cl_ext (cl_ext B 1 k a3) 5 (k + 2) a) 11 (k + 2) b) 10 1 := Or.inl (Or.inl (Or.inl h101))
        have L1 : cL (cl_ext (cl_ext (cl_ext B 1 k a3) 5 (k + 2) a) 11 (k + 2) b) 1 k := Or.inl (Or.inl l1)
        have hQ3 := hQ2.pA 1 k (k + 1) L10 (by show k < cN B 10 1; rw [b3 10 1]; show k < C; omega) (by omega) (Or.inr L1)
        have D4 : cl_ref (cl_ext (cl_ext (cl_ext B 1 k a3) 5 (k + 2) a) 11 (k + 2) b) (cl_at 1) (k + 1) = some a3 := by
          show cl_ref (cl_ext (cl_ext (cl_ext B 1 k a3) 5 (k + 2) a) 11 (k + 2) b) 1 (k + 1) = some a3
          rw [cl_ref_s, D1]
        have t3 := hQ2.ta1 L10
        have t4 := hQ2.t1 L1
        have n3' : mj_n μ1 (cD B 10 1) = C := by
          rw [← Dl h101]
          exact ((hQ2.1.2.2.1 10 1 L10 (by decide)).1).trans (b3 10 1)
        rw [D1] at t4
        rw [Dl h101] at t3
        rw [Dl h101, D4, cF_1] at hQ3
        refine bk_T_init_101 ⟨cD B 10 1, r1, t3, ?_, a3, rfl, t4, ?_⟩
        · rw [n3']
          exact vp_in_nI (by omega) (by omega)
        · rw [nI_clamp (by omega), nI_1]
          refine ih (k + 1) (cl_ext (cl_ext (cl_ext B 1 k a3) 5 (k + 2) a) 11 (k + 2) b) _ (by omega) ⟨b1, by rw [Dl h00, b2], b3, fun K i => ?_⟩ hQ3 ?_ ?_
          · rw [xL, xL, xL, b4]
            omega
          · show N = mj_nc μ1 + 3 * n + 52
            omega
          · show S = mj_ns μ1 + 108 * n + 137 + 50000 * C / 512
            omega
end TJ
