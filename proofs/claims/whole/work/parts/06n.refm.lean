section RM
variable {G : mj_G} {m : Nat} {A : Nat → Nat} {σ : ss_S} {μ μ0 : mj_MM} {Ex : Option Value → mj_MM → Prop} {N S : Nat}
theorem rc_manner (hR : rf_R m A σ μ) (hB : sp_B σ) (hT : σ 1 0 ≤ 100) (v : Int32) (f : Nat) (hf : f < 2) : rc_I G my_M_manner mY_M_manner m A μ [.int v, .int (nI f)] (an_manner σ v.toInt f).1 (an_manner σ v.toInt f).2 := by
  have hQ := hR.self
  refine mj_of (by decide) rfl (by decide) (Nat.le_of_ble_eq_true rfl) rfl ⟨Nat.le_refl _, Nat.le_refl _⟩ ?_
  refine bk_M_manner_0 ⟨hQ.t, _, rc_no hR hB v, fun x μ' hP e1 e2 => ?_⟩
  obtain ⟨hx, hP⟩ := hP
  subst hx
  unfold an_manner
  have b43 := hB 43 0
  refine bk_M_manner_5 ?_
  rw [mj_ite01, hP.sl 43 rfl, mj_LE0 (by omega)]
  refine ⟨fun h => ⟨hP.t, fun h2 => ?_, fun h2 => ?_⟩, fun h => ?_⟩
  · obtain ⟨n, h1, rfl, h4⟩ := mj_nn (v := v) (by omega)
    have hn : n < 101 := by omega
    rw [if_pos h, if_pos h2, h4, Int.toNat_natCast]
    simp (disch := first | decide | assumption | omega) only [hP.t, hP.r, hP.a0, hP.a1, hP.a2, hP.a3, hP.si, hP.sl, hP.l15, hP.i1, hP.v1, hP.l1, hP.i5, hP.v5, hP.l5, hP.i3, hP.v3, hP.l3, hP.i2, hP.v2, hP.l2, hP.i4, hP.v4, hP.l4, Option.some.injEq, exists_eq_left', nI_clamp, nI_1, mj_vin, true_and, eq_self]
    refine ⟨?_, ⟨_, rfl, rfl, hP.pI 6 n f (by decide) hn⟩, e1, e2⟩
    have : nI f = 0 ∨ nI f = 1 := by
      have : f = 0 ∨ f = 1 := by omega
      rcases this with rfl | rfl
      · exact Or.inl rfl
      · exact Or.inr rfl
    exact mj_bn this
  · rw [if_pos h, if_neg h2]
    exact ⟨⟨_, rfl, rfl, hP⟩, e1, e2⟩
  · rw [if_neg h]
    exact ⟨⟨_, rfl, rfl, hP⟩, e1, e2⟩
theorem rc_activate (hR : rf_R m A σ μ) (hB : sp_B σ) (hT : σ 1 0 ≤ 100) (hA : σ 32 0 ≤ 500) (v : Int32) (w : Int64) : rc_I G my_M_activate mY_M_activate m A μ [.int v, .long w] (an_activate σ v.toInt w.toInt).1 (an_activate σ v.toInt w.toInt).2 := by
  have hQ := hR.self
  refine mj_of (by decide) rfl (by decide) (Nat.le_of_ble_eq_true rfl) rfl ⟨Nat.le_refl _, Nat.le_refl _⟩ ?_
  refine bk_M_activate_0 ⟨hQ.t, _, rc_no hR hB v, fun x μ' hP e1 e2 => ?_⟩
  obtain ⟨hx, hP⟩ := hP
  subst hx
  unfold an_activate
  have b43 := hB 43 0
  refine bk_M_activate_5 ?_
  rw [mj_ite01, hP.sl 43 rfl, hP.si 32 rfl, mj_jLT, mj_jLE, pk_lT (by omega), show (50000 : Int64).toInt = 50000 from by decide, show (500 : Int32) = nI 500 from rfl, mj_zz (by omega) (by omega)]
  refine ⟨fun h => ⟨hP.t, fun h2 => ?_, fun h2 => ⟨fun h3 => ⟨fun h4 => ?_, fun h4 => ?_⟩, fun h3 => ?_⟩⟩, fun h => ?_⟩
  · rw [if_pos h, if_neg (by omega)]
    exact ⟨⟨_, rfl, rfl, hP⟩, e1, e2⟩
  · obtain ⟨n, h1, rfl, h5⟩ := mj_nn (v := v) (by omega)
    obtain ⟨t, h6, rfl, h7⟩ := mj_LL (v := w) (by omega)
    have hk : σ 32 0 < 500 := by omega
    rw [if_pos h, if_pos (by omega), if_neg h4, h5, h7, Int.toNat_natCast, Int.toNat_natCast]
    simp (disch := first | decide | assumption | omega) only [hP.t, hP.r, hP.a0, hP.a1, hP.a2, hP.a3, hP.si, hP.sl, hP.l15, hP.i1, hP.v1, hP.l1, hP.i5, hP.v5, hP.l5, hP.i3, hP.v3, hP.l3, hP.i2, hP.v2, hP.l2, hP.i4, hP.v4, hP.l4, Option.some.injEq, exists_eq_left', nI_clamp, nI_1, mj_vin, true_and, eq_self]
    exact ⟨⟨_, rfl, rfl, ((hP.pI 33 _ n (by decide) hk).pL 34 _ t (by decide) hk).sI 32 _ rfl⟩, e1, e2⟩
  · rw [if_pos h, if_pos (by omega), if_pos h4]
    exact ⟨⟨_, rfl, rfl, hP⟩, e1, e2⟩
  · rw [if_pos h, if_neg (by omega)]
    exact ⟨⟨_, rfl, rfl, hP⟩, e1, e2⟩
  · rw [if_neg h]
    exact ⟨⟨_, rfl, rfl, hP⟩, e1, e2⟩
theorem rc_interrupt (hR : rf_R m A σ μ) (hB : sp_B σ) (hA : σ 35 0 ≤ 500) (v : Int32) (w u : Int64) : rc_I G my_M_interrupt mY_M_interrupt m A μ [.int v, .long w, .long u] (an_interrupt σ v.toInt w.toInt u.toInt).1 (an_interrupt σ v.toInt w.toInt u.toInt).2 := by
  have hQ := hR.self
  refine mj_of (by decide) rfl (by decide) (Nat.le_of_ble_eq_true rfl) rfl ⟨Nat.le_refl _, Nat.le_refl _⟩ ?_
  unfold an_interrupt
  have b43 := hB 43 0
  refine bk_M_interrupt_0 ?_
  rw [hQ.sl 43 rfl, hQ.si 35 rfl, mj_iLT, mj_iLT, mj_jLT, mj_jLT, mj_jLT, mj_jLE, pk_lT (by omega), show (50000 : Int64).toInt = 50000 from by decide, show (10000 : Int64).toInt = 10000 from by decide, show (1 : Int64).toInt = 1 from by decide, show (1 : Int32).toInt = 1 from by decide, show (15 : Int32).toInt = 15 from by decide, show (500 : Int32) = nI 500 from rfl, mj_zz (by omega) (by omega)]
  refine ⟨fun h => ?_, fun h => ⟨fun h2 => ?_, fun h2 => ⟨hQ.t, fun h3 => ?_, fun h3 => ⟨fun h4 => ?_, fun h4 => ⟨fun h5 => ?_, fun h5 => ⟨fun h6 => ⟨fun h7 => ?_, fun h7 => ?_⟩, fun h6 => ?_⟩⟩⟩⟩⟩⟩
  · rw [if_neg (by omega)]
    exact ⟨⟨_, rfl, rfl, hQ⟩, rfl, rfl⟩
  · rw [if_neg (by omega)]
    exact ⟨⟨_, rfl, rfl, hQ⟩, rfl, rfl⟩
  · rw [if_neg (by omega)]
    exact ⟨⟨_, rfl, rfl, hQ⟩, rfl, rfl⟩
  · rw [if_neg (by omega)]
    exact ⟨⟨_, rfl, rfl, hQ⟩, rfl, rfl⟩
  · rw [if_neg (by omega)]
    exact ⟨⟨_, rfl, rfl, hQ⟩, rfl, rfl⟩
  · obtain ⟨l, g1, rfl, g2⟩ := mj_nn (v := v) (by omega)
    obtain ⟨t, g3, rfl, g4⟩ := mj_LL (v := w) (by omega)
    obtain ⟨d, g5, rfl, g6⟩ := mj_LL (v := u) (by omega)
    have hk : σ 35 0 < 500 := by omega
    rw [if_pos (by omega), if_neg h7, g2, g4, g6, Int.toNat_natCast, Int.toNat_natCast, Int.toNat_natCast]
    simp (disch := first | decide | assumption | omega) only [hQ.t, hQ.r, hQ.a0, hQ.a1, hQ.a2, hQ.a3, hQ.si, hQ.sl, hQ.l15, hQ.i1, hQ.v1, hQ.l1, hQ.i5, hQ.v5, hQ.l5, hQ.i3, hQ.v3, hQ.l3, hQ.i2, hQ.v2, hQ.l2, hQ.i4, hQ.v4, hQ.l4, Option.some.injEq, exists_eq_left', nI_clamp, nI_1, mj_vin, true_and, eq_self]
    exact ⟨⟨_, rfl, rfl, (((hQ.pI 36 _ l (by decide) hk).pL 37 _ t (by decide) hk).pL 38 _ d (by decide) hk).sI 35 _ rfl⟩, (by first | exact ⟨rfl, rfl⟩ | trivial)⟩
  · rw [if_pos (by omega), if_pos h7]
    exact ⟨⟨_, rfl, rfl, hQ⟩, rfl, rfl⟩
  · rw [if_neg (by omega)]
    exact ⟨⟨_, rfl, rfl, hQ⟩, rfl, rfl⟩
theorem mj_b01 {e : Nat} (he : e < 2) : narrow .boolean (.int (nI e)) = .int (nI e) := by
  have : e = 0 ∨ e = 1 := by omega
  rcases this with rfl | rfl
  · exact mj_bn (Or.inl rfl)
  · exact mj_bn (Or.inr rfl)
theorem rl_task93 (hB : sp_B σ) (hT : σ 1 0 + 1 ≤ 100) (r c a e : Nat) (he : e < 2) (hE : ∀ μ', rf_Q m A (an_new σ r c a e) μ0 μ' → mj_nc μ' = mj_nc μ0 → mj_ns μ' = mj_ns μ0 → Ex (some (.int (nI (σ 1 0 + 1)))) μ')
    (hQ : rf_Q m A (ss_u (ss_u σ 1 0 (σ 1 0 + 1)) 2 (σ 1 0 + 1) r) μ0 μ) (e1 : mj_nc μ = mj_nc μ0) (e2 : mj_ns μ = mj_ns μ0) : mj_J G mY_M_task Ex N S 93 [(0, va_rf (some m)), (2, .int (nI c)), (3, .int (nI a)), (4, .int (nI e))] [] μ := by
  have hn : σ 1 0 + 1 < 101 := by omega
  refine bk_M_task_93 ?_
  rw [show mj_i μ m 1 = nI (σ 1 0 + 1) from hQ.si 1 rfl]
  simp (disch := first | decide | assumption | omega) only [hQ.t, hQ.r, hQ.a0, hQ.a1, hQ.a2, hQ.a3, hQ.si, hQ.sl, hQ.l15, hQ.i1, hQ.v1, hQ.l1, hQ.i5, hQ.v5, hQ.l5, hQ.i3, hQ.v3, hQ.l3, hQ.i2, hQ.v2, hQ.l2, hQ.i4, hQ.v4, hQ.l4, Option.some.injEq, exists_eq_left', nI_clamp, nI_1, mj_vin, true_and, eq_self]
  have hQ2 := hQ.pI 3 _ c (by decide) hn
  refine bk_M_task_103 ?_
  rw [show mj_i _ m 1 = nI (σ 1 0 + 1) from hQ2.si 1 rfl]
  simp (disch := first | decide | assumption | omega) only [hQ2.t, hQ2.r, hQ2.a0, hQ2.a1, hQ2.a2, hQ2.a3, hQ2.si, hQ2.sl, hQ2.l15, hQ2.i1, hQ2.v1, hQ2.l1, hQ2.i5, hQ2.v5, hQ2.l5, hQ2.i3, hQ2.v3, hQ2.l3, hQ2.i2, hQ2.v2, hQ2.l2, hQ2.i4, hQ2.v4, hQ2.l4, Option.some.injEq, exists_eq_left', nI_clamp, nI_1, mj_vin, true_and, eq_self]
  have hQ3 := hQ2.pI 4 _ a (by decide) hn
  refine bk_M_task_113 ?_
  rw [show mj_i _ m 1 = nI (σ 1 0 + 1) from hQ3.si 1 rfl]
  simp (disch := first | decide | assumption | omega) only [hQ3.t, hQ3.r, hQ3.a0, hQ3.a1, hQ3.a2, hQ3.a3, hQ3.si, hQ3.sl, hQ3.l15, hQ3.i1, hQ3.v1, hQ3.l1, hQ3.i5, hQ3.v5, hQ3.l5, hQ3.i3, hQ3.v3, hQ3.l3, hQ3.i2, hQ3.v2, hQ3.l2, hQ3.i4, hQ3.v4, hQ3.l4, Option.some.injEq, exists_eq_left', nI_clamp, nI_1, mj_vin, true_and, eq_self]
  exact ⟨mj_b01 he, hE _ ((hQ3.pI 5 _ e (by decide) hn).pI 6 _ 1 (by decide) hn) e1 e2⟩
theorem rc_task (hR : rf_R m A σ μ) (hB : sp_B σ) (hT : σ 1 0 ≤ 100) (v w u : Int32) (e : Nat) (he : e < 2) : rc_I G my_M_task mY_M_task m A μ [.int v, .int w, .int u, .int (nI e)] (an_task σ v.toInt w.toInt u.toInt e).1 (an_task σ v.toInt w.toInt u.toInt e).2 := by
  have hQ := hR.self
  refine mj_of (by decide) rfl (by decide) (Nat.le_of_ble_eq_true rfl) rfl ⟨Nat.le_refl _, Nat.le_refl _⟩ ?_
  unfold an_task
  have b43 := hB 43 0
  refine bk_M_task_0 ?_
  rw [hQ.sl 43 rfl, hQ.si 0 rfl, hQ.si 1 rfl, mj_iLT w, mj_iLT w, mj_iLT v, mj_iLT _ v, mj_iLT u, mj_iLT _ u, mj_iLE u, mj_LE0 (by omega), mj_z0 (by omega), nI_toInt (hB 0 0), show (1 : Int32).toInt = 1 from by decide, show (0 : Int32).toInt = 0 from by decide, show (100 : Int32).toInt = 100 from by decide, show (255 : Int32).toInt = 255 from by decide, show (100 : Int32) = nI 100 from rfl, mj_zz (by omega) (by omega)]
  have go : ¬ σ 1 0 = 100 → 0 ≤ v.toInt → 0 ≤ w.toInt → 0 ≤ u.toInt → (0 ≤ w.toInt ∧ w.toInt < σ 0 0) → ((0 ≤ v.toInt ∧ v.toInt ≤ 255) ∧ 1 ≤ u.toInt ∧ u.toInt ≤ 100 ∧ (e = 0 ∨ u.toInt ≤ 1)) → σ 43 0 = 0 → ∃ b2 : Nat, mj_r μ m 2 = some b2 ∧ mj_t μ b2 = 1000 ∧ vp_in (nI (σ 1 0) + 1) (mj_n μ b2) ∧ mj_J G mY_M_task (fun v_1 μ' => mj_XI (fun x μ' => x = (if 0 ≤ w.toInt ∧ w.toInt < σ 0 0 then (if (0 ≤ v.toInt ∧ v.toInt ≤ 255) ∧ 1 ≤ u.toInt ∧ u.toInt ≤ 100 ∧ (e = 0 ∨ u.toInt ≤ 1) then (if σ 43 0 = 0 then (if σ 1 0 = 100 then (-4, σ) else (nI (σ 1 0 + 1), an_new σ v.toInt.toNat w.toInt.toNat u.toInt.toNat e)) else (-3, σ)) else (-2, σ)) else (-1, σ)).1 ∧ rf_Q m A (if 0 ≤ w.toInt ∧ w.toInt < σ 0 0 then (if (0 ≤ v.toInt ∧ v.toInt ≤ 255) ∧ 1 ≤ u.toInt ∧ u.toInt ≤ 100 ∧ (e = 0 ∨ u.toInt ≤ 1) then (if σ 43 0 = 0 then (if σ 1 0 = 100 then (-4, σ) else (nI (σ 1 0 + 1), an_new σ v.toInt.toNat w.toInt.toNat u.toInt.toNat e)) else (-3, σ)) else (-2, σ)) else (-1, σ)).2 μ μ') v_1 μ' ∧ mj_nc μ' = mj_nc μ ∧ mj_ns μ' = mj_ns μ) (mj_nc μ) (mj_ns μ) 93 [(0, va_rf (some m)), (2, .int w), (3, .int u), (4, .int (nI e))] [] (mj_pI (mj_pI μ m 1 (nI (σ 1 0) + 1)) b2 (Int32.toNatClampNeg (nI (σ 1 0) + 1)) v) := by
    intro hn p1 p2 p3 c1 c2 c3
    obtain ⟨r, g1, rfl, g2⟩ := mj_nn p1
    obtain ⟨c, g3, rfl, g4⟩ := mj_nn p2
    obtain ⟨a, g5, rfl, g6⟩ := mj_nn p3
    have hk : σ 1 0 + 1 < 101 := by omega
    rw [if_pos c1, if_pos c2, if_pos c3, if_neg hn, g2, g4, g6, Int.toNat_natCast, Int.toNat_natCast, Int.toNat_natCast]
    rw [nI_1, nI_clamp (by omega)]
    exact ⟨_, hQ.r 2 (by decide), hQ.a0 2 (by decide), hQ.v 2 (by decide) hk, rl_task93 (μ0 := μ) hB (by omega) r c a e he (fun μ' h1 h2 h3 => ⟨⟨_, rfl, rfl, h1⟩, h2, h3⟩) ((hQ.sI 1 (σ 1 0 + 1) rfl).pI 2 _ r (by decide) hk) rfl rfl⟩
  refine ⟨fun h => ?_, fun h => ⟨hQ.t, fun h2 => ⟨fun h3 => ?_, fun h3 => ⟨fun h4 => ?_, fun h4 => ⟨fun h5 => ?_, fun h5 => ⟨fun h6 => ?_, fun h6 => ⟨fun h7 => ⟨fun h8 => ⟨fun h9 => ?_, fun h9 => ?_⟩, fun h8 => ?_⟩, fun h7 => ⟨fun h8 => ⟨fun h9 => ⟨fun h10 => ?_, fun h10 => ?_⟩, fun h9 => ?_⟩, fun h8 => ?_⟩⟩⟩⟩⟩⟩, fun h2 => ?_⟩⟩
  · rw [if_neg (by omega)]
    exact ⟨⟨_, rfl, rfl, hQ⟩, rfl, rfl⟩
  · rw [if_pos (by omega), if_neg (by omega)]
    exact ⟨⟨_, rfl, rfl, hQ⟩, rfl, rfl⟩
  · rw [if_pos (by omega), if_neg (by omega)]
    exact ⟨⟨_, rfl, rfl, hQ⟩, rfl, rfl⟩
  · rw [if_pos (by omega), if_neg (by omega)]
    exact ⟨⟨_, rfl, rfl, hQ⟩, rfl, rfl⟩
  · rw [if_pos (by omega), if_neg (by omega)]
    exact ⟨⟨_, rfl, rfl, hQ⟩, rfl, rfl⟩
  · exact go h9 (by omega) (by omega) (by omega) (by omega) (by omega) h8
  · rw [if_pos (by omega), if_pos (by omega), if_pos h8, if_pos h9]
    exact ⟨⟨_, rfl, rfl, hQ⟩, rfl, rfl⟩
  · rw [if_pos (by omega), if_pos (by omega), if_neg h8]
    exact ⟨⟨_, rfl, rfl, hQ⟩, rfl, rfl⟩
  · exact go h10 (by omega) (by omega) (by omega) (by omega) (by omega) h9
  · rw [if_pos (by omega), if_pos (by omega), if_pos h9, if_pos h10]
    exact ⟨⟨_, rfl, rfl, hQ⟩, rfl, rfl⟩
  · rw [if_pos (by omega), if_pos (by omega), if_neg h9]
    exact ⟨⟨_, rfl, rfl, hQ⟩, rfl, rfl⟩
  · rw [if_pos (by omega), if_neg (by omega)]
    exact ⟨⟨_, rfl, rfl, hQ⟩, rfl, rfl⟩
  · rw [if_neg (by omega)]
    exact ⟨⟨_, rfl, rfl, hQ⟩, rfl, rfl⟩
end RM
