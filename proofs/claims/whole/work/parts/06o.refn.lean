section RN
variable {G : mj_G} {m : Nat} {A : Nat → Nat} {σ : ss_S} {μ μ0 : mj_MM} {Ex : Option Value → mj_MM → Prop} {N S : Nat}
theorem rl_good (k : Int32) (v : Int64) (f0 : ¬ an_good k.toInt v.toInt → Ex (some (.int 0)) μ) (f1 : an_good k.toInt v.toInt → Ex (some (.int 1)) μ) (h0 : 0 ≤ k.toInt ∧ k.toInt ≤ 13) : mj_J G mY_M_good Ex N S 0 [(0, .int k), (1, .long v)] [] μ := by
  have hr : 0 ≤ v.toInt → (v - v / 65536 * 65536 ≤ 0) = (v.toInt.toNat % 65536 = 0) := by
    intro h
    obtain ⟨n, h1, rfl, h2⟩ := mj_LL h
    rw [show (65536 : Int64) = lN 65536 from rfl, pk_lRem h1 (by decide) (by decide), mj_LE0 (by omega), h2, Int.toNat_natCast]
  refine bk_M_good_0 ?_
  have hr2 : (¬ v.toInt < 65537 ∧ (v - v / 65536 * 65536 ≤ 0)) = (¬ v.toInt < 65537 ∧ (v.toInt.toNat % 65536 = 0)) := by
    apply propext
    refine ⟨fun h => ⟨h.1, ?_⟩, fun h => ⟨h.1, ?_⟩⟩
    · rw [← hr (by omega)]; exact h.2
    · rw [hr (by omega)]; exact h.2
  generalize (v - v / 65536 * 65536 ≤ 0) = R at hr hr2 ⊢
  simp only [mj_iEQ, mj_jLT, mj_jEQ, show (0 : Int32).toInt = 0 from by decide, show (1 : Int32).toInt = 1 from by decide, show (2 : Int32).toInt = 2 from by decide, show (3 : Int32).toInt = 3 from by decide, show (4 : Int32).toInt = 4 from by decide, show (5 : Int32).toInt = 5 from by decide, show (6 : Int32).toInt = 6 from by decide, show (7 : Int32).toInt = 7 from by decide, show (8 : Int32).toInt = 8 from by decide, show (9 : Int32).toInt = 9 from by decide, show (12 : Int32).toInt = 12 from by decide, show (0 : Int64).toInt = 0 from by decide, show (1 : Int64).toInt = 1 from by decide, show (50000 : Int64).toInt = 50000 from by decide, show (100 : Int64).toInt = 100 from by decide, show (65535 : Int64).toInt = 65535 from by decide, show (32 : Int64).toInt = 32 from by decide, show (16 : Int64).toInt = 16 from by decide, show (65537 : Int64).toInt = 65537 from by decide, show (6619135 : Int64).toInt = 6619135 from by decide]
  unfold an_good at f0 f1
  generalize k.toInt = k at *
  generalize v.toInt = v at *
  repeat' (first | (intro q) | (refine And.intro ?_ ?_))
  all_goals first | (exact f0 (by omega)) | (exact f1 (by omega)) | (rw [hr (by omega)] at q; first | (exact f0 (by omega)) | (exact f1 (by omega)))
theorem rc_good (k : Int32) (v : Int64) (h0 : 0 ≤ k.toInt ∧ k.toInt ≤ 13) : mj_M G my_M_good mY_M_good [.int k, .long v] (mj_nc μ) (mj_ns μ) μ (mj_XI (fun x μ' => x = (if an_good k.toInt v.toInt then 1 else 0) ∧ μ' = μ)) := by
  refine mj_of (by decide) rfl (by decide) (Nat.le_of_ble_eq_true rfl) rfl ⟨Nat.le_refl _, Nat.le_refl _⟩ ?_
  refine rl_good k v (fun h => ⟨⟨_, rfl, ?_, rfl⟩, rfl, rfl⟩) (fun h => ⟨⟨_, rfl, ?_, rfl⟩, rfl, rfl⟩) h0
  · rw [if_neg h]
  · rw [if_pos h]
theorem sp_cnt_le (σ : ss_S) (t : Nat) : ∀ n, sp_cnt σ t n ≤ n := by
  intro n
  induction n with
  | zero => exact Nat.le_refl 0
  | succ n ih =>
    unfold sp_cnt
    split <;> omega
theorem rl_part (hB : sp_B σ) (hp : σ 7 0 ≤ 500) (t : Nat) (ht : t < 101) (hQ : rf_Q m A σ μ0 μ) (hE : Ex (some (.int (nI (sp_cnt σ t (σ 7 0))))) μ) :
    ∀ d n, n + d = σ 7 0 → mj_J G mY_M_part Ex N S 102 [(0, va_rf (some m)), (1, .int (nI t)), (5, .int (nI (sp_cnt σ t n))), (6, .int (nI n))] [] μ := by
  intro d
  induction d with
  | zero =>
    intro n hn
    have : n = σ 7 0 := by omega
    subst this
    refine bk_M_part_102 ?_
    simp (disch := first | decide | assumption | omega) only [hQ.t, hQ.r, hQ.a0, hQ.a1, hQ.a2, hQ.a3, hQ.si, hQ.sl, hQ.l15, hQ.i1, hQ.v1, hQ.l1, hQ.i5, hQ.v5, hQ.l5, hQ.i3, hQ.v3, hQ.l3, hQ.i2, hQ.v2, hQ.l2, hQ.i4, hQ.v4, hQ.l4, Option.some.injEq, exists_eq_left', nI_clamp, nI_1, mj_vin, true_and, eq_self, mj_le]
    exact ⟨fun _ => hE, fun q => absurd (by omega) q⟩
  | succ d ih =>
    intro n hn
    have b8 := hB 8 n
    have i1 := ih (n + 1) (by omega)
    unfold sp_cnt at i1
    refine bk_M_part_102 ?_
    simp (disch := first | decide | assumption | omega) only [hQ.t, hQ.r, hQ.a0, hQ.a1, hQ.a2, hQ.a3, hQ.si, hQ.sl, hQ.l15, hQ.i1, hQ.v1, hQ.l1, hQ.i5, hQ.v5, hQ.l5, hQ.i3, hQ.v3, hQ.l3, hQ.i2, hQ.v2, hQ.l2, hQ.i4, hQ.v4, hQ.l4, Option.some.injEq, exists_eq_left', nI_clamp, nI_1, mj_vin, true_and, eq_self, mj_le, mj_zz]
    refine ⟨fun q => absurd q (by omega), fun _ => ⟨fun q => ?_, fun q => ?_⟩⟩
    · rw [if_neg q] at i1
      exact i1
    · rw [if_pos q] at i1
      exact i1
theorem rc_part (hR : rf_R m A σ μ) (hB : sp_B σ) (hT : σ 1 0 ≤ 100) (hp : σ 7 0 ≤ 500) (v w : Int32) (u : Int64) : rc_I G my_M_part mY_M_part m A μ [.int v, .int w, .long u] (an_part σ v.toInt w.toInt u.toInt).1 (an_part σ v.toInt w.toInt u.toInt).2 := by
  have hQ := hR.self
  refine mj_of (by decide) rfl (by decide) (Nat.le_of_ble_eq_true rfl) rfl ⟨Nat.le_refl _, Nat.le_refl _⟩ ?_
  refine bk_M_part_0 ⟨hQ.t, _, rc_no hR hB v, fun x μ' hP e1 e2 => ?_⟩
  obtain ⟨hx, hP⟩ := hP
  subst hx
  unfold an_part
  have b43 := hB 43 0
  have ng : ¬ (0 ≤ w.toInt ∧ w.toInt ≤ 13) → ¬ an_good w.toInt u.toInt := by
    unfold an_good
    omega
  refine bk_M_part_5 ?_
  rw [mj_ite01, mj_iLT, mj_iLT, show (0 : Int32).toInt = 0 from by decide, show (13 : Int32).toInt = 13 from by decide]
  refine ⟨fun h => ⟨fun h2 => ?_, fun h2 => ⟨fun h3 => ?_, fun h3 => ⟨_, rc_good w u (by omega), fun x μ2 hP2 r1 r2 => ?_⟩⟩⟩, fun h => ?_⟩
  · rw [if_pos h, if_neg (ng (by omega))]
    exact ⟨⟨_, rfl, rfl, hP⟩, e1, e2⟩
  · rw [if_pos h, if_neg (ng (by omega))]
    exact ⟨⟨_, rfl, rfl, hP⟩, e1, e2⟩
  · obtain ⟨hx, rfl⟩ := hP2
    subst hx
    refine bk_M_part_25 ?_
    rw [hP.sl 43 rfl, mj_LE0 (by omega), hP.si 7 rfl, show (500 : Int32) = nI 500 from rfl, mj_zz (by omega) (by omega)]
    by_cases hg : an_good w.toInt u.toInt
    · rw [if_pos hg]
      refine ⟨fun _ => ⟨hP.t, fun h4 => ⟨fun h5 => ?_, fun h5 => ?_⟩, fun h4 => ?_⟩, fun q => absurd q (by decide)⟩
      · obtain ⟨t, g1, rfl, g2⟩ := mj_nn (v := v) (by omega)
        obtain ⟨k, g3, rfl, g4⟩ := mj_nn (v := w) (by omega)
        obtain ⟨z, g5, rfl, g6⟩ := mj_LL (v := u) (by unfold an_good at hg; omega)
        have hk : σ 7 0 < 500 := by omega
        have ht : t < 101 := by omega
        rw [if_pos h, if_pos hg, if_pos h4, if_neg h5, g2, g4, g6, Int.toNat_natCast, Int.toNat_natCast, Int.toNat_natCast]
        simp (disch := first | decide | assumption | omega) only [hP.t, hP.r, hP.a0, hP.a1, hP.a2, hP.a3, hP.si, hP.sl, hP.l15, hP.i1, hP.v1, hP.l1, hP.i5, hP.v5, hP.l5, hP.i3, hP.v3, hP.l3, hP.i2, hP.v2, hP.l2, hP.i4, hP.v4, hP.l4, Option.some.injEq, exists_eq_left', nI_clamp, nI_1, mj_vin, true_and, eq_self]
        have hP2 := (((hP.pI 8 _ t (by decide) hk).pI 9 _ k (by decide) hk).pL 10 _ z (by decide) hk).sI 7 (σ 7 0 + 1) rfl
        have hB2 : sp_B (ss_u (ss_u (ss_u (ss_u σ 8 (σ 7 0) t) 9 (σ 7 0) k) 10 (σ 7 0) z) 7 0 (σ 7 0 + 1)) := by
          have hz : z < 2 ^ 31 := by unfold an_good at hg; omega
          exact ((((show sp_Bd (2 ^ 31) σ from hB).u 8 _ (by omega)).u 9 _ (by omega)).u 10 _ hz).u 7 _ (by omega)
        exact rl_part (μ0 := μ) hB2 (by show σ 7 0 + 1 ≤ 500; omega) t ht hP2 ⟨⟨_, rfl, rfl, hP2⟩, e1, e2⟩ (σ 7 0 + 1) 0 (by show 0 + (σ 7 0 + 1) = σ 7 0 + 1; omega)
      · rw [if_pos h, if_pos hg, if_pos h4, if_pos h5]
        exact ⟨⟨_, rfl, rfl, hP⟩, e1, e2⟩
      · rw [if_pos h, if_pos hg, if_neg h4]
        exact ⟨⟨_, rfl, rfl, hP⟩, e1, e2⟩
    · rw [if_neg hg]
      refine ⟨fun q => absurd rfl q, fun _ => ?_⟩
      rw [if_pos h, if_neg hg]
      exact ⟨⟨_, rfl, rfl, hP⟩, e1, e2⟩
  · rw [if_neg h]
    exact ⟨⟨_, rfl, rfl, hP⟩, e1, e2⟩
end RN
