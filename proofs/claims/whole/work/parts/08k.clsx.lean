theorem lg_dig (x : Nat) : ∀ w, w < 3 → ∃ D : Int64, D = Int32.toInt64 ((2 - nI w) * 20) &&& 63 ∧ (D.toBitVec.smod 64).toNat = 20 * (2 - w) := by
  intro w hw
  have : w = 0 ∨ w = 1 ∨ w = 2 := by omega
  rcases this with rfl | rfl | rfl
  · exact ⟨_, rfl, by decide +kernel⟩
  · exact ⟨_, rfl, by decide +kernel⟩
  · exact ⟨_, rfl, by decide +kernel⟩
theorem lg_get {x w : Nat} (hx : x < 2 ^ 62) (hw : w < 3) : Int64.toInt32 ((lN x >>> (Int32.toInt64 ((2 - nI w) * 20) &&& 63)) &&& 1048575) = nI (x / 2 ^ (20 * (2 - w)) % 2 ^ 20) := by
  obtain ⟨D, hD, hD2⟩ := lg_dig x w hw
  have hy : x / 2 ^ (20 * (2 - w)) < 2 ^ 64 := Nat.lt_of_le_of_lt (Nat.div_le_self _ _) (by omega)
  rw [← hD, pf_shr hD2 hx, show (1048575 : Int64) = lN (2 ^ 20 - 1) from rfl, g_mask rfl (by decide) hy, lN_i]
theorem lg_un (a b d : Nat) (ha : a < 2 ^ 20) (hb : b < 2 ^ 20) (hd : d < 2 ^ 20) : (a * 2 ^ 40 + b * 2 ^ 20 + d) / 2 ^ (20 * (2 - 0)) % 2 ^ 20 = a ∧ (a * 2 ^ 40 + b * 2 ^ 20 + d) / 2 ^ (20 * (2 - 1)) % 2 ^ 20 = b ∧ (a * 2 ^ 40 + b * 2 ^ 20 + d) / 2 ^ (20 * (2 - 2)) % 2 ^ 20 = d ∧ a * 2 ^ 40 + b * 2 ^ 20 + d < 2 ^ 62 := by
  refine ⟨?_, ?_, ?_, ?_⟩
  · show (a * 1099511627776 + b * 1048576 + d) / 1099511627776 % 1048576 = a
    omega
  · show (a * 1099511627776 + b * 1048576 + d) / 1048576 % 1048576 = b
    omega
  · show (a * 1099511627776 + b * 1048576 + d) / 1 % 1048576 = d
    omega
  · show a * 1099511627776 + b * 1048576 + d < 4611686018427387904
    omega
/-- what a log answers -/
def lg_ans (c : cc_S) (j : Nat) (i w : Int) : Int32 :=
  if i = -1 ∧ w = 0 then nI (c 5 2 j) else if 0 ≤ i ∧ i < c 5 2 j ∧ i < c 5 1 j then (if 0 ≤ w ∧ w ≤ 2 then nI (c 20 j i.toNat / 2 ^ (20 * (2 - w.toNat)) % 2 ^ 20) else -2) else -1
section CX
variable {G : mj_G} {B : cl_B} {σ τ : ss_S} {c : cc_S} {μ μ0 : mj_MM} {Ex : Option Value → mj_MM → Prop} {N S : Nat}
theorem lc_answer (hQ : cl_Q B c μ0 μ) (j : Nat) (hj : cL B 5 j) (v w : Int32) (hx : ∀ i, i < c 5 2 j → i < c 5 1 j → c 20 j i < 2 ^ 62) : mj_M G my_G_answer mY_G_answer [va_rf (some (cD B 5 j)), .int v, .int w] (mj_nc μ) (mj_ns μ) μ (mj_XI (fun x μ' => x = lg_ans c j v.toInt w.toInt ∧ μ' = μ)) := by
  have b2 := hQ.b 5 2 j (by decide)
  have b1 := hQ.b 5 1 j (by decide)
  obtain ⟨l1, l2, l3, l4, l5⟩ := hQ.1.2.2.2.2.2.2.1.1 j hj
  have eR : mj_r μ (cD B 5 j) 0 = some (cD B 11 j) := by rw [hQ.r5_0 hj, l2]; rfl
  have en : mj_n μ (cD B 11 j) = c 5 1 j / 512 + 1 := by rw [(hQ.1.2.2.1 11 j l1 (by decide)).1, l3]
  refine mj_of (by decide) rfl (by decide) (Nat.le_of_ble_eq_true rfl) rfl ⟨Nat.le_refl _, Nat.le_refl _⟩ ?_
  have neg : v.toInt < 0 → ¬ (v.toInt = -1 ∧ w.toInt = 0) → lg_ans c j v.toInt w.toInt = -1 := fun h1 h2 => by
    unfold lg_ans
    rw [if_neg h2, if_neg (by omega)]
  have n0 : (v < 0) = (v.toInt < 0) := by rw [mj_iLT, show (0 : Int32).toInt = 0 from by decide]
  have n1 : (v = -1) = (v.toInt = -1) := by rw [mj_iEQ, show (-1 : Int32).toInt = -1 from by decide]
  have w0 : (w = 0) = (w.toInt = 0) := by rw [mj_iEQ, show (0 : Int32).toInt = 0 from by decide]
  refine bk_G_answer_0 ?_
  rw [n1, w0]
  refine ⟨fun h => ?_, fun h => ⟨fun h2 => ⟨fun _ => ?_, fun h3 => ?_⟩, fun h2 => ⟨hQ.t5 hj, ?_⟩⟩⟩
  · rw [n0]
    refine ⟨fun h3 => ?_, fun h3 => ⟨hQ.t5 hj, ?_⟩⟩
    · rw [neg h3 (fun z => h z.1)]
      exact ⟨⟨_, rfl, rfl, rfl⟩, rfl, rfl⟩
    · obtain ⟨n, k1, rfl, k3⟩ := mj_nn (v := v) (by omega)
      rw [hQ.i5_2 hj, hQ.i5_1 hj, mj_le b2 k1, mj_le b1 k1]
      have good : lg_ans c j (nI n).toInt w.toInt = if n < c 5 2 j ∧ n < c 5 1 j then (if 0 ≤ w.toInt ∧ w.toInt ≤ 2 then nI (c 20 j n / 2 ^ (20 * (2 - w.toInt.toNat)) % 2 ^ 20) else -2) else -1 := by
        unfold lg_ans
        rw [k3, if_neg (by omega), Int.toNat_natCast]
        by_cases z : n < c 5 2 j ∧ n < c 5 1 j
        · rw [if_pos z, if_pos (by omega)]
        · rw [if_neg z, if_neg (by omega)]
      rw [good]
      refine ⟨fun h4 => ?_, fun h4 => ⟨fun h5 => ?_, fun h5 => ⟨_, eR, hQ.tb l1, ?_⟩⟩⟩
      · rw [if_neg (by omega)]
        exact ⟨⟨_, rfl, rfl, rfl⟩, rfl, rfl⟩
      · rw [if_neg (by omega)]
        exact ⟨⟨_, rfl, rfl, rfl⟩, rfl, rfl⟩
      · rw [if_pos (by omega), en, show (512 : Int32) = nI 512 from rfl, pk_rem k1 (by decide) (by decide), pk_div k1 (by decide) (by decide), mj_lt (by omega) (by omega)]
        have hb : n / 512 < c 5 1 j / 512 + 1 := by omega
        refine ⟨fun _ => ?_, fun z => absurd hb z⟩
        rw [mj_iLT, mj_iLE, show (0 : Int32).toInt = 0 from by decide, show (2 : Int32).toInt = 2 from by decide]
        refine ⟨fun h6 => ?_, fun h6 => ⟨fun h7 => ⟨vp_in_nI hb (by omega), ?_⟩, fun h7 => ?_⟩⟩
        · rw [if_neg (by omega)]
          exact ⟨⟨_, rfl, rfl, rfl⟩, rfl, rfl⟩
        · rw [if_pos (by omega), nI_clamp (by omega)]
          have hm : n < lg_m c j := by
            unfold lg_m
            split <;> omega
          rcases l5 (n / 512) (by rw [l3]; exact hb) with ⟨g1, g2⟩ | ⟨a, g1, g2, g3, g4, g5, g6⟩
          · exfalso
            omega
          · rw [g1]
            refine ⟨fun z => (by cases z), fun b z => ?_⟩
            cases z
            have h512 : n % 512 < 512 := Nat.mod_lt _ (by decide)
            rw [g3]
            refine ⟨g2, vp_in_nI h512 (by decide), ?_⟩
            obtain ⟨m, m1, rfl, m3⟩ := mj_nn (v := w) (by omega)
            rw [nI_clamp (by omega), g6 (n % 512) h512, show n / 512 * 512 + n % 512 = n by omega, lg_get (hx n (by omega) (by omega)) (by omega), m3, Int.toNat_natCast]
            exact ⟨⟨_, rfl, rfl, rfl⟩, rfl, rfl⟩
        · rw [if_neg (by omega)]
          exact ⟨⟨_, rfl, rfl, rfl⟩, rfl, rfl⟩
  · rw [neg (by omega) (fun z => h2 z.2)]
    exact ⟨⟨_, rfl, rfl, rfl⟩, rfl, rfl⟩
  · rw [n0] at h3
    omega
  · rw [hQ.i5_2 hj]
    refine ⟨⟨_, rfl, ?_, rfl⟩, rfl, rfl⟩
    unfold lg_ans
    rw [if_pos ⟨h, h2⟩]
theorem lq_code (hQ : cl_Q B c μ0 μ) (hP : REP B 0 0 0 σ c) (v w : Int32) : mj_M G my_T_code mY_T_code [va_rf (some (cD B 0 0)), .int v, .int w] (mj_nc μ) (mj_ns μ) μ (mj_XI (fun x μ' => x = an_code σ v.toInt w.toInt ∧ μ' = μ)) := by
  have hx := hP.x
  obtain ⟨c1, c2, c3⟩ := hP.h12
  have hg : cL B 5 0 := hP.lg (by omega)
  have e5 : c 0 5 0 = 1 := hP.h1.1.2.2.2.2.2.1
  refine mj_of (by decide) rfl (by decide) (Nat.le_of_ble_eq_true rfl) rfl ⟨Nat.le_refl _, Nat.le_refl _⟩ ?_
  refine bk_T_code_0 ⟨hQ.t0 hx, cD B 5 0, ?_, hQ.t5 hg, _, lc_answer hQ 0 hg v w (fun i h1 h2 => ?_), fun x μ1 h r1 r2 => bk_T_code_9 ?_⟩
  · rw [hQ.r0_5 hx, e5]
    rfl
  · obtain ⟨g1, g2, g3, g4⟩ := c3 i (by omega) (by omega)
    rw [g1]
    exact (lg_un _ _ _ g2 g3 g4).2.2.2
  · obtain ⟨rfl, rfl⟩ := h
    refine ⟨⟨_, rfl, ?_, rfl⟩, rfl, rfl⟩
    unfold lg_ans an_code
    rw [c1, c2]
    by_cases z : v.toInt = -1 ∧ w.toInt = 0
    · rw [if_pos z, if_pos z]
    · rw [if_neg z, if_neg z]
      by_cases y : 0 ≤ v.toInt ∧ v.toInt < σ 39 0 ∧ v.toInt ≤ 999
      · rw [if_pos y, if_pos (by omega)]
        obtain ⟨g1, g2, g3, g4⟩ := c3 v.toInt.toNat (by omega) (by omega)
        obtain ⟨u1, u2, u3, -⟩ := lg_un _ _ _ g2 g3 g4
        rw [g1]
        by_cases h0 : w.toInt = 0
        · rw [if_pos h0, if_pos (by omega), h0]
          show nI (_ / 2 ^ (20 * (2 - 0)) % 2 ^ 20) = _
          rw [u1]
        · rw [if_neg h0]
          by_cases h1 : w.toInt = 1
          · rw [if_pos h1, if_pos (by omega), h1]
            show nI (_ / 2 ^ (20 * (2 - 1)) % 2 ^ 20) = _
            rw [u2]
          · rw [if_neg h1]
            by_cases h2 : w.toInt = 2
            · rw [if_pos h2, if_pos (by omega), h2]
              show nI (_ / 2 ^ (20 * (2 - 2)) % 2 ^ 20) = _
              rw [u3]
            · rw [if_neg h2, if_neg (by omega)]
      · rw [if_neg y, if_neg (by omega)]
end CX
