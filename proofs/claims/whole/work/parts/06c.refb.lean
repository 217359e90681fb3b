theorem rf_Q.a0 {m : Nat} {A : Nat → Nat} {σ : ss_S} {μ μ' : mj_MM} (h : rf_Q m A σ μ μ') (k : Nat) (hk : rf_k k = 0) : mj_t μ' (A k) = 1000 := by rw [h.a k (by omega), hk]
theorem rf_Q.a1 {m : Nat} {A : Nat → Nat} {σ : ss_S} {μ μ' : mj_MM} (h : rf_Q m A σ μ μ') (k : Nat) (hk : rf_k k = 1) : mj_t μ' (A k) = 1001 := by rw [h.a k (by omega), hk]
theorem rf_Q.a2 {m : Nat} {A : Nat → Nat} {σ : ss_S} {μ μ' : mj_MM} (h : rf_Q m A σ μ μ') (k : Nat) (hk : rf_k k = 2) : mj_t μ' (A k) = 1002 := by rw [h.a k (by omega), hk]
theorem rf_Q.a3 {m : Nat} {A : Nat → Nat} {σ : ss_S} {μ μ' : mj_MM} (h : rf_Q m A σ μ μ') (k : Nat) (hk : rf_k k = 3) : mj_t μ' (A k) = 1003 := by rw [h.a k (by omega), hk]
theorem rf_Q.i1 {m : Nat} {A : Nat → Nat} {σ : ss_S} {μ μ' : mj_MM} (h : rf_Q m A σ μ μ') (k : Nat) {i : Nat} (hk : rf_k k < 9 ∧ rf_k k ≠ 1 ∧ rf_n k = 101) (hi : i < 101) : mj_i μ' (A k) i = nI (σ k i) := h.i k ⟨hk.1, hk.2.1⟩ (by rw [hk.2.2]; exact hi)
theorem rf_Q.v1 {m : Nat} {A : Nat → Nat} {σ : ss_S} {μ μ' : mj_MM} (h : rf_Q m A σ μ μ') (k : Nat) {i : Nat} (hk : rf_k k < 9 ∧ rf_n k = 101) (hi : i < 101) : vp_in (nI i) (mj_n μ' (A k)) = True := eq_true (h.v k hk.1 (by rw [hk.2]; exact hi))
theorem rf_Q.l1 {m : Nat} {A : Nat → Nat} {σ : ss_S} {μ μ' : mj_MM} (h : rf_Q m A σ μ μ') (k : Nat) {i : Nat} (hk : rf_k k = 1 ∧ k ≠ 15 ∧ rf_n k = 101) (hi : i < 101) : mj_l μ' (A k) i = lN (σ k i) := by rw [h.l k hk.1 (by rw [hk.2.2]; exact hi), rf_e, if_neg hk.2.1]
theorem rf_Q.i5 {m : Nat} {A : Nat → Nat} {σ : ss_S} {μ μ' : mj_MM} (h : rf_Q m A σ μ μ') (k : Nat) {i : Nat} (hk : rf_k k < 9 ∧ rf_k k ≠ 1 ∧ rf_n k = 500) (hi : i < 500) : mj_i μ' (A k) i = nI (σ k i) := h.i k ⟨hk.1, hk.2.1⟩ (by rw [hk.2.2]; exact hi)
theorem rf_Q.v5 {m : Nat} {A : Nat → Nat} {σ : ss_S} {μ μ' : mj_MM} (h : rf_Q m A σ μ μ') (k : Nat) {i : Nat} (hk : rf_k k < 9 ∧ rf_n k = 500) (hi : i < 500) : vp_in (nI i) (mj_n μ' (A k)) = True := eq_true (h.v k hk.1 (by rw [hk.2]; exact hi))
theorem rf_Q.l5 {m : Nat} {A : Nat → Nat} {σ : ss_S} {μ μ' : mj_MM} (h : rf_Q m A σ μ μ') (k : Nat) {i : Nat} (hk : rf_k k = 1 ∧ k ≠ 15 ∧ rf_n k = 500) (hi : i < 500) : mj_l μ' (A k) i = lN (σ k i) := by rw [h.l k hk.1 (by rw [hk.2.2]; exact hi), rf_e, if_neg hk.2.1]
theorem rf_Q.i3 {m : Nat} {A : Nat → Nat} {σ : ss_S} {μ μ' : mj_MM} (h : rf_Q m A σ μ μ') (k : Nat) {i : Nat} (hk : rf_k k < 9 ∧ rf_k k ≠ 1 ∧ rf_n k = 33) (hi : i < 33) : mj_i μ' (A k) i = nI (σ k i) := h.i k ⟨hk.1, hk.2.1⟩ (by rw [hk.2.2]; exact hi)
theorem rf_Q.v3 {m : Nat} {A : Nat → Nat} {σ : ss_S} {μ μ' : mj_MM} (h : rf_Q m A σ μ μ') (k : Nat) {i : Nat} (hk : rf_k k < 9 ∧ rf_n k = 33) (hi : i < 33) : vp_in (nI i) (mj_n μ' (A k)) = True := eq_true (h.v k hk.1 (by rw [hk.2]; exact hi))
theorem rf_Q.l3 {m : Nat} {A : Nat → Nat} {σ : ss_S} {μ μ' : mj_MM} (h : rf_Q m A σ μ μ') (k : Nat) {i : Nat} (hk : rf_k k = 1 ∧ k ≠ 15 ∧ rf_n k = 33) (hi : i < 33) : mj_l μ' (A k) i = lN (σ k i) := by rw [h.l k hk.1 (by rw [hk.2.2]; exact hi), rf_e, if_neg hk.2.1]
theorem rf_Q.i2 {m : Nat} {A : Nat → Nat} {σ : ss_S} {μ μ' : mj_MM} (h : rf_Q m A σ μ μ') (k : Nat) {i : Nat} (hk : rf_k k < 9 ∧ rf_k k ≠ 1 ∧ rf_n k = 17) (hi : i < 17) : mj_i μ' (A k) i = nI (σ k i) := h.i k ⟨hk.1, hk.2.1⟩ (by rw [hk.2.2]; exact hi)
theorem rf_Q.v2 {m : Nat} {A : Nat → Nat} {σ : ss_S} {μ μ' : mj_MM} (h : rf_Q m A σ μ μ') (k : Nat) {i : Nat} (hk : rf_k k < 9 ∧ rf_n k = 17) (hi : i < 17) : vp_in (nI i) (mj_n μ' (A k)) = True := eq_true (h.v k hk.1 (by rw [hk.2]; exact hi))
theorem rf_Q.l2 {m : Nat} {A : Nat → Nat} {σ : ss_S} {μ μ' : mj_MM} (h : rf_Q m A σ μ μ') (k : Nat) {i : Nat} (hk : rf_k k = 1 ∧ k ≠ 15 ∧ rf_n k = 17) (hi : i < 17) : mj_l μ' (A k) i = lN (σ k i) := by rw [h.l k hk.1 (by rw [hk.2.2]; exact hi), rf_e, if_neg hk.2.1]
theorem rf_Q.i4 {m : Nat} {A : Nat → Nat} {σ : ss_S} {μ μ' : mj_MM} (h : rf_Q m A σ μ μ') (k : Nat) {i : Nat} (hk : rf_k k < 9 ∧ rf_k k ≠ 1 ∧ rf_n k = 1000) (hi : i < 1000) : mj_i μ' (A k) i = nI (σ k i) := h.i k ⟨hk.1, hk.2.1⟩ (by rw [hk.2.2]; exact hi)
theorem rf_Q.v4 {m : Nat} {A : Nat → Nat} {σ : ss_S} {μ μ' : mj_MM} (h : rf_Q m A σ μ μ') (k : Nat) {i : Nat} (hk : rf_k k < 9 ∧ rf_n k = 1000) (hi : i < 1000) : vp_in (nI i) (mj_n μ' (A k)) = True := eq_true (h.v k hk.1 (by rw [hk.2]; exact hi))
theorem rf_Q.l4 {m : Nat} {A : Nat → Nat} {σ : ss_S} {μ μ' : mj_MM} (h : rf_Q m A σ μ μ') (k : Nat) {i : Nat} (hk : rf_k k = 1 ∧ k ≠ 15 ∧ rf_n k = 1000) (hi : i < 1000) : mj_l μ' (A k) i = lN (σ k i) := by rw [h.l k hk.1 (by rw [hk.2.2]; exact hi), rf_e, if_neg hk.2.1]
theorem rf_Q.l15 {m : Nat} {A : Nat → Nat} {σ : ss_S} {μ μ' : mj_MM} (h : rf_Q m A σ μ μ') {i : Nat} (hi : i < 101) : mj_l μ' (A 15) i = lN (σ 15 i) - 1 := h.l 15 (by decide) hi
theorem mj_vin {i n : Nat} (h : i < n) (hn : n < 2 ^ 31) : vp_in (nI i) n = True := eq_true (vp_in_nI h hn)
theorem mj_z0 {a : Nat} (h : a < 2 ^ 31) : (nI a = 0) = (a = 0) := propext (nI_eq (b := 0) h (by decide))
theorem mj_z1 {a : Nat} (h : a < 2 ^ 31) : (nI a = 1) = (a = 1) := propext (nI_eq (b := 1) h (by decide))
theorem mj_z2 {a : Nat} (h : a < 2 ^ 31) : (nI a = 2) = (a = 2) := propext (nI_eq (b := 2) h (by decide))
theorem mj_z3 {a : Nat} (h : a < 2 ^ 31) : (nI a = 3) = (a = 3) := propext (nI_eq (b := 3) h (by decide))
theorem mj_zz {a b : Nat} (ha : a < 2 ^ 31) (hb : b < 2 ^ 31) : (nI a = nI b) = (a = b) := propext (nI_eq ha hb)
theorem mj_lt {a b : Nat} (ha : a < 2 ^ 31) (hb : b < 2 ^ 31) : (nI a < nI b) = (a < b) := propext (nI_ltI ha hb)
theorem mj_le {a b : Nat} (ha : a < 2 ^ 31) (hb : b < 2 ^ 31) : (nI a ≤ nI b) = (a ≤ b) := propext (nI_leI ha hb)
theorem mj_1p (a : Nat) : 1 + nI a = nI (1 + a) := by rw [show (1 : Int32) = nI 1 from rfl, nI_add]
section RB
variable {G : mj_G} {m : Nat} {A : Nat → Nat} {σ : ss_S} {μ : mj_MM}
theorem rc_begin (hR : rf_R m A σ μ) (hB : sp_B σ) (t : Nat) (ht : t < 101) (hw : σ 13 t + 2 ≤ 2 ^ 31) : rc_V G my_M_begin mY_M_begin m A μ [.int (nI t)] (sp_begin σ t) := by
  have hQ := hR.self
  refine mj_of (by decide) rfl (by decide) (Nat.le_of_ble_eq_true rfl) rfl ⟨Nat.le_refl _, Nat.le_refl _⟩ ?_
  refine bk_M_begin_0 ?_
  have b1 := hB 11 t
  have b2 := hB 4 t
  simp (disch := first | decide | assumption | omega) only [hQ.t, hQ.r, hQ.a0, hQ.a1, hQ.a2, hQ.a3, hQ.si, hQ.sl, hQ.l15, hQ.i1, hQ.v1, hQ.l1, hQ.i5, hQ.v5, hQ.l5, hQ.i3, hQ.v3, hQ.l3, hQ.i2, hQ.v2, hQ.l2, hQ.i4, hQ.v4, hQ.l4, Option.some.injEq, exists_eq_left', nI_clamp, nI_1, mj_vin, true_and, eq_self, mj_z0, mj_1p, mj_lt]
  unfold sp_begin
  refine ⟨fun h => ?_, fun h => ⟨fun h2 => ?_, fun h2 => ?_⟩⟩
  · rw [if_pos h]
    refine ⟨_, rc_ready hR t ht, fun μ' hP e1 e2 => ?_⟩
    refine bk_M_begin_51 ?_
    simp (disch := first | decide | assumption | omega) only [hP.t, hP.r, hP.a0, hP.a1, hP.a2, hP.a3, hP.si, hP.sl, hP.l15, hP.i1, hP.v1, hP.l1, hP.i5, hP.v5, hP.l5, hP.i3, hP.v3, hP.l3, hP.i2, hP.v2, hP.l2, hP.i4, hP.v4, hP.l4, Option.some.injEq, exists_eq_left', nI_clamp, nI_1, mj_vin, true_and, eq_self]
    exact ⟨⟨rfl, ((((hP.pI 17 t 0 (by decide) ht).pI 14 t 0 (by decide) ht).pL 15 t 2 (by decide) ht).pI 16 t 1 (by decide) ht)⟩, e1, e2⟩
  · rw [if_neg h, if_pos h2]
    exact ⟨⟨rfl, hQ.pI 13 t _ (by decide) ht⟩, rfl, rfl⟩
  · rw [if_neg h, if_neg h2]
    exact ⟨_, rc_tell hR hB 1 t, fun μ' hP e1 e2 => bk_M_begin_32 ⟨⟨rfl, hP⟩, e1, e2⟩⟩
end RB
