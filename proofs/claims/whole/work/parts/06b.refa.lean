section RA
variable {G : mj_G} {m : Nat} {A : Nat → Nat} {σ : ss_S} {μ : mj_MM}
/-- a method of the reference that makes nothing -/
abbrev rc_V (G : mj_G) (y : MethodName) (Y : mj_Y) (m : Nat) (A : Nat → Nat) (μ : mj_MM) (as : List Value) (σ' : ss_S) : Prop := mj_M G y Y (va_rf (some m) :: as) (mj_nc μ) (mj_ns μ) μ (mj_XV (fun μ' => rf_Q m A σ' μ μ'))
abbrev rc_I (G : mj_G) (y : MethodName) (Y : mj_Y) (m : Nat) (A : Nat → Nat) (μ : mj_MM) (as : List Value) (r : Int32) (σ' : ss_S) : Prop := mj_M G y Y (va_rf (some m) :: as) (mj_nc μ) (mj_ns μ) μ (mj_XI (fun x μ' => x = r ∧ rf_Q m A σ' μ μ'))
abbrev rc_L (G : mj_G) (y : MethodName) (Y : mj_Y) (m : Nat) (A : Nat → Nat) (μ : mj_MM) (as : List Value) (r : Int64) (σ' : ss_S) : Prop := mj_M G y Y (va_rf (some m) :: as) (mj_nc μ) (mj_ns μ) μ (mj_XL (fun x μ' => x = r ∧ rf_Q m A σ' μ μ'))
theorem rc_no_ok (hR : rf_R m A σ μ) (hB : sp_B σ) (t : Nat) (ht : t < 2 ^ 31) : rc_I G my_M_no mY_M_no m A μ [.int (nI t)] (if 1 ≤ t ∧ t ≤ σ 1 0 then 0 else 1) σ := by
  have hQ := hR.self
  refine mj_of (by decide) rfl (by decide) (Nat.le_of_ble_eq_true rfl) rfl ⟨Nat.le_refl _, Nat.le_refl _⟩ ?_
  have e1 : mj_i μ m 1 = nI (σ 1 0) := hQ.si 1 rfl
  refine bk_M_no_0 ⟨fun h => ?_, fun h => ⟨hQ.t, fun h2 => ?_, fun h2 => ?_⟩⟩
  · have : t < 1 := (nI_ltI (b := 1) ht (by decide)).mp h
    exact ⟨⟨1, rfl, by rw [if_neg (by omega)], hQ⟩, rfl, rfl⟩
  · have h1 : ¬ t < 1 := fun q => h ((nI_ltI (b := 1) ht (by decide)).mpr q)
    rw [e1] at h2
    have := (nI_leI ht (hB 1 0)).mp h2
    exact ⟨⟨0, rfl, by rw [if_pos (by omega)], hQ⟩, rfl, rfl⟩
  · rw [e1] at h2
    have : ¬ t ≤ σ 1 0 := fun q => h2 ((nI_leI ht (hB 1 0)).mpr q)
    exact ⟨⟨1, rfl, by rw [if_neg (by omega)], hQ⟩, rfl, rfl⟩
theorem rc_tell (hR : rf_R m A σ μ) (hB : sp_B σ) (c t : Nat) : rc_V G my_M_tell mY_M_tell m A μ [.int (nI c), .int (nI t)] (sp_tell σ c t) := by
  have hQ := hR.self
  refine mj_of (by decide) rfl (by decide) (Nat.le_of_ble_eq_true rfl) rfl ⟨Nat.le_refl _, Nat.le_refl _⟩ ?_
  have e1 : mj_i μ m 39 = nI (σ 39 0) := hQ.si 39 rfl
  refine bk_M_tell_0 ⟨hQ.t, ?_⟩
  rw [e1, show mj_l μ m 43 = lN (σ 43 0) from hQ.sl 43 rfl, nI_clamp (hB 39 0), nI_1]
  refine ⟨fun h => ?_, fun h => ?_⟩
  · have h1 : 1000 ≤ σ 39 0 := (nI_leI (a := 1000) (by decide) (hB 39 0)).mp h
    refine ⟨⟨rfl, ?_⟩, rfl, rfl⟩
    unfold sp_tell
    rw [if_neg (by omega)]
    exact hQ.sI 39 _ rfl
  · have h1 : σ 39 0 < 1000 := Nat.not_le.mp fun q => h ((nI_leI (a := 1000) (by decide) (hB 39 0)).mpr q)
    refine ⟨_, hQ.r 40 (by decide), hQ.a 40 (by decide), hQ.v 40 (by decide) h1, _, hQ.r 41 (by decide), hQ.a 41 (by decide), hQ.v 41 (by decide) h1, _, hQ.r 42 (by decide), hQ.a 42 (by decide), hQ.v 42 (by decide) h1, ⟨rfl, ?_⟩, rfl, rfl⟩
    unfold sp_tell
    rw [if_pos h1]
    exact (((hQ.pI 40 _ c (by decide) h1).pI 41 _ t (by decide) h1).pL 42 _ (σ 43 0) (by decide) h1).sI 39 _ rfl
theorem rc_ready (hR : rf_R m A σ μ) (t : Nat) (ht : t < 101) : rc_V G my_M_ready mY_M_ready m A μ [.int (nI t)] (sp_ready σ t) := by
  have hQ := hR.self
  refine mj_of (by decide) rfl (by decide) (Nat.le_of_ble_eq_true rfl) rfl ⟨Nat.le_refl _, Nat.le_refl _⟩ ?_
  refine bk_M_ready_0 ⟨hQ.t, _, hQ.r 12 (by decide), hQ.a 12 (by decide), hQ.v 12 (by decide) ht, _, hQ.r 11 (by decide), hQ.a 11 (by decide), hQ.v 11 (by decide) ht, ⟨rfl, ?_⟩, rfl, rfl⟩
  rw [show mj_l μ m 21 = lN (σ 21 0) from hQ.sl 21 rfl, nI_clamp (by omega), lN_1]
  exact ((hQ.sL 21 (σ 21 0 + 1) rfl).pL 12 t (σ 21 0 + 1) (by decide) ht).pI 11 t 1 (by decide) ht
end RA
