section TI
variable {G : mj_G} {B : cl_B} {σ τ : ss_S} {c : cc_S} {μ μ0 : mj_MM} {Ex : Option Value → mj_MM → Prop} {N S : Nat}
/-- a log's making, on the book -/
theorem lc_log (hQ : cl_Q B c μ0 μ) (j a cap : Nat) (hd5 : ¬ cL B 5 j) (hd11 : ¬ cL B 11 j) (ha : mj_t μ a = 0) (hz : ∀ p, c 5 p j = 0) (hz20 : ∀ i, c 20 j i = 0) (hn : cN B 11 j = cap / 512 + 1) (hcap : cap ≤ 400000) (hj : j + 1 < 2 ^ 31) :
    mj_M G my_G_init mY_G_init [va_rf (some a), .int (nI cap)] (mj_nc μ + 1 + 1) (mj_ns μ + 3 + (cap / 512 + 1)) (mj_new μ a 6 0 3) (mj_XV (fun μ' => ∃ b, mj_t μ b = 0 ∧ b ≠ a ∧ cl_Q (cl_ext (cl_ext B 5 j a) 11 j b) (cc_u (cc_u c 5 1 j cap) 5 0 j (j + 1)) μ0 μ')) := by
  refine (lc_Ginit (mj_new μ a 6 0 3) a cap mj_nst hcap).weaken ?_
  intro v μ' h _ _
  obtain ⟨h1, b, hb, e⟩ := h
  have hab : b ≠ a := fun z => by
    rw [z, mj_nst] at hb
    cases hb
  rw [mj_nwt hab] at hb
  refine ⟨h1, b, hb, hab, ?_⟩
  rw [e]
  exact hQ.newG j a b cap hd5 hd11 ha hb hab hz hz20 hn (by omega) hj
theorem lc_Cinit {C k : Nat} (hQ : cl_Q B (cF C k 0 0 0) μ0 μ) (a3 : Nat) (h1 : cL B 1 k) (hD : cD B 1 k = a3) (hd5 : ¬ cL B 5 (k + 2)) (hd11 : ¬ cL B 11 (k + 2)) (hn : cN B 11 (k + 2) = 50000 / 512 + 1) (hk : k ≤ 7) :
    mj_M G my_C_init mY_C_init [va_rf (some a3), .int (nI k)] (mj_nc μ + 1 + 1) (mj_ns μ + 3 + (50000 / 512 + 1)) μ (mj_XV (fun μ' => ∃ a b, cl_Q (cl_ext (cl_ext B 5 (k + 2) a) 11 (k + 2) b) (cc_u (cc_u (cc_u (cc_u (cF C k 0 0 0) 5 1 (k + 2) 50000) 5 0 (k + 2) (k + 2 + 1)) 1 1 k (k + 2 + 1)) 1 0 k k) μ0 μ')) := by
  refine mj_of (by decide) rfl (by decide) (Nat.le_of_ble_eq_true rfl) rfl ⟨by omega, by omega⟩ ?_
  refine bk_C_init_0 ⟨⟨by omega, by omega⟩, fun a ha => ?_⟩
  have z5 : ∀ p, cF C k 0 0 0 5 p (k + 2) = 0 := fun p => by
    unfold cF
    simp
  refine ⟨_, _, _, lc_log hQ (k + 2) a 50000 hd5 hd11 ha z5 (fun i => rfl) hn (by omega) (by omega), ⟨Nat.le_refl _, Nat.le_refl _⟩, fun μ1 h q1 q2 => ?_⟩
  obtain ⟨b, hb, hab, hQ1⟩ := h
  have hd11' : ¬ cL (cl_ext B 5 (k + 2) a) 11 (k + 2) := fun z => hd11 (z.resolve_right (fun q => by omega))
  have L1 : cL (cl_ext (cl_ext B 5 (k + 2) a) 11 (k + 2) b) 1 k := Or.inl (Or.inl h1)
  have D1 : cD (cl_ext (cl_ext B 5 (k + 2) a) 11 (k + 2) b) 1 k = a3 := by
    rw [xDl hd11' (Or.inl h1), xDl hd5 h1, hD]
  have L5 : cL (cl_ext (cl_ext B 5 (k + 2) a) 11 (k + 2) b) 5 (k + 2) := Or.inl (Or.inr ⟨rfl, rfl⟩)
  have D5 : cl_ref (cl_ext (cl_ext B 5 (k + 2) a) 11 (k + 2) b) 5 (k + 2 + 1) = some a := by
    rw [cl_ref_s, xDo _ _ _ _ (by omega), xD]
  have hQ2 := hQ1.pR 1 1 k (k + 2 + 1) L1 (by decide) (by omega) (Or.inr L5)
  have hQ3 := hQ2.pI 1 0 k k L1 (by decide) (by omega)
  have t1 := hQ1.t1 L1
  rw [show cl_tk 1 1 = 5 from rfl, D5, D1] at hQ3
  rw [D1] at t1
  refine bk_C_init_14 ⟨t1, ⟨rfl, a, b, hQ3⟩, ?_, ?_⟩
  · exact q1
  · exact q2
theorem LB.len {h0 C k1 k2 k3 s : Nat} (h : LB B h0 C k1 k2 k3 s) : cN B 10 2 = 33 ∧ cN B 10 3 = 17 ∧ cN B 10 1 = C := ⟨h.2.2.1 10 2, h.2.2.1 10 3, h.2.2.1 10 1⟩
/-- the loop of the locks -/
theorem li_140 {h0 C : Nat} (hC : 1 ≤ C ∧ C ≤ 8) (hE : ∀ B μ', LB B h0 C C 33 17 1 → cl_Q B (cF C C 33 17 1) μ0 μ' → mj_nc μ' = N → mj_ns μ' = S → Ex none μ') :
    ∀ n k (B : cl_B) (μ : mj_MM), n + k = 17 → LB B h0 C C 33 k 0 → cl_Q B (cF C C 33 k 0) μ0 μ → N = mj_nc μ + n + 2 → S = mj_ns μ + 2 * n + 4 + 50000 * C / 512 → mj_J G mY_T_init Ex N S 140 [(0, va_rf (some h0)), (2, .int (nI C)), (3, .int (nI k))] [] μ := by
  intro n
  induction n with
  | zero =>
    intro k B μ hk hB hQ hN hS
    obtain ⟨b1, b2, b3, b4⟩ := hB
    have h00 : cL B 0 0 := (b4 0 0).mpr (by omega)
    have h103 : cL B 10 3 := (b4 10 3).mpr (by omega)
    have t0 := hQ.t0 h00
    have r3 := hQ.r0_3 h00
    rw [b2] at t0 r3
    have hd5 : ¬ cL B 5 1 := fun z => by
      have := (b4 5 1).mp z
      omega
    have hd11 : ¬ cL B 11 1 := fun z => by
      have := (b4 11 1).mp z
      omega
    have n3 : mj_n μ (cD B 10 3) = 17 := ((hQ.1.2.2.1 10 3 h103 (by decide)).1).trans (b3 10 3)
    refine bk_T_init_140 ⟨t0, cD B 10 3, r3, hQ.ta3 h103, fun _ => ⟨⟨by omega, by omega⟩, fun a6 h6 => ?_⟩, fun z => absurd ?_ z⟩
    · have em : (50000 : Int32) * nI C = nI (50000 * C) := by
        have : ∀ C, C ≤ 8 → (50000 : Int32) * nI C = nI (50000 * C) := by decide
        exact this C hC.2
      rw [em]
      refine ⟨_, _, _, lc_log hQ 1 a6 (50000 * C) hd5 hd11 h6 (fun p => rfl) (fun i => rfl) (b3 11 1) (by omega) (by omega), ⟨by omega, by omega⟩, fun μ1 h q1 q2 => ?_⟩
      obtain ⟨b, hb, hab, hQ1⟩ := h
      have hd11' : ¬ cL (cl_ext B 5 1 a6) 11 1 := fun z => hd11 (z.resolve_right (fun q => by omega))
      have L1 : cL (cl_ext (cl_ext B 5 1 a6) 11 1 b) 0 0 := Or.inl (Or.inl h00)
      have D1 : cD (cl_ext (cl_ext B 5 1 a6) 11 1 b) 0 0 = h0 := by
        rw [xDl hd11' (Or.inl h00), xDl hd5 h00, b2]
      have L5 : cL (cl_ext (cl_ext B 5 1 a6) 11 1 b) 5 1 := Or.inl (Or.inr ⟨rfl, rfl⟩)
      have D5 : cl_ref (cl_ext (cl_ext B 5 1 a6) 11 1 b) 5 2 = some a6 := by
        rw [show (2 : Nat) = 1 + 1 from rfl, cl_ref_s, xDo _ _ _ _ (by omega), xD]
      have hQ2 := hQ1.pR 0 6 0 2 L1 (by decide) (by omega) (Or.inr L5)
      have t1 := hQ1.t0 L1
      rw [show cl_tk 0 6 = 5 from rfl, D5, D1] at hQ2
      rw [D1] at t1
      have k17 : k = 17 := by omega
      subst k17
      rw [cF_4] at hQ2
      refine bk_T_init_180 ⟨t1, hE (cl_ext (cl_ext B 5 1 a6) 11 1 b) _ ⟨b1, D1, b3, fun K i => ?_⟩ hQ2 ?_ ?_⟩
      · rw [xL, xL, b4]
        omega
      · show mj_nc μ1 = N
        omega
      · show mj_ns μ1 = S
        omega
    · rw [n3]
      have k17 : k = 17 := by omega
      subst k17
      decide
  | succ n ih =>
    intro k B μ hk hB hQ hN hS
    obtain ⟨b1, b2, b3, b4⟩ := hB
    have h00 : cL B 0 0 := (b4 0 0).mpr (by omega)
    have h103 : cL B 10 3 := (b4 10 3).mpr (by omega)
    have t0 := hQ.t0 h00
    have r3 := hQ.r0_3 h00
    rw [b2] at t0 r3
    have hd : ¬ cL B 4 k := fun z => by
      have := (b4 4 k).mp z
      omega
    have n3 : mj_n μ (cD B 10 3) = 17 := ((hQ.1.2.2.1 10 3 h103 (by decide)).1).trans (b3 10 3)
    refine bk_T_init_140 ⟨t0, cD B 10 3, r3, hQ.ta3 h103, fun z => absurd z ?_, fun _ => ⟨⟨by omega, by omega⟩, fun a h6 => ?_⟩⟩
    · rw [n3, nI_leI (by decide) (by omega)]
      omega
    · have hQ1 := hQ.new 4 k a 2 (by decide) hd h6 (fun p => rfl)
      refine ⟨fun μ' => μ' = mj_new μ a 5 0 2, ?_, fun μ' e q1 q2 => ?_⟩
      · refine mj_of (by decide) rfl (by decide) (Nat.le_of_ble_eq_true rfl) rfl ⟨Nat.le_refl _, Nat.le_refl _⟩ ?_
        exact bk_L_init_0 ⟨⟨rfl, rfl⟩, rfl, rfl⟩
      · rw [e]
        have L10 : cL (cl_ext B 4 k a) 10 3 := Or.inl h103
        have L4 : cL (cl_ext B 4 k a) 4 k := Or.inr ⟨rfl, rfl⟩
        have hQ2 := hQ1.pA 3 k (k + 1) L10 (by show k < cN B 10 3; rw [b3 10 3]; show k < 17; omega) (by omega) (Or.inr L4)
        have D10 : cD (cl_ext B 4 k a) 10 3 = cD B 10 3 := xDl hd h103
        have D4 : cl_ref (cl_ext B 4 k a) (cl_at 3) (k + 1) = some a := by
          show cl_ref (cl_ext B 4 k a) 4 (k + 1) = some a
          rw [cl_ref_s, xD]
        have t3 := hQ1.ta3 L10
        have t4 := hQ1.t4 L4
        have n3' : mj_n (mj_new μ a 5 0 2) (cD B 10 3) = 17 := by
          rw [← D10]
          exact ((hQ1.1.2.2.1 10 3 L10 (by decide)).1).trans (b3 10 3)
        rw [xD] at t4
        rw [D10] at t3
        rw [D10, D4, cF_3] at hQ2
        refine bk_T_init_161 ⟨cD B 10 3, r3, t3, ?_, a, rfl, t4, ?_⟩
        · rw [n3']
          exact vp_in_nI (by omega) (by decide)
        · rw [nI_clamp (by omega), nI_1]
          refine ih (k + 1) (cl_ext B 4 k a) _ (by omega) ⟨b1, by rw [xDl hd h00, b2], b3, fun K i => ?_⟩ hQ2 ?_ ?_
          · rw [xL, b4]
            omega
          · show N = mj_nc μ + 1 + n + 2
            omega
          · show S = mj_ns μ + 2 + 2 * n + 4 + 50000 * C / 512
            omega
end TI
