/-! What holds between two calls -/
section PE
variable {G : mj_G} {m : Nat} {A : Nat → Nat} {σ : ss_S} {μ μ0 : mj_MM} {Ex : Option Value → mj_MM → Prop} {N S : Nat}
theorem rc_spinB (hR : rf_R m A σ μ) (hB : sp_B σ) (hT : σ 1 0 ≤ 100) (hC : σ 0 0 ≤ 8) (hO : ∀ l, 1 ≤ l → l ≤ 16 → σ 25 l ≤ 100) (v w : Int32) : rc_I G my_M_spin mY_M_spin m A μ [.int v, .int w] (an_spin σ v.toInt w.toInt) σ := by
  have hQ := hR.self
  refine mj_of (by decide) rfl (by decide) (Nat.le_of_ble_eq_true rfl) rfl ⟨Nat.le_refl _, Nat.le_refl _⟩ ?_
  unfold an_spin
  refine bk_M_spin_0 ?_
  rw [mj_iLT v, mj_iLT v, mj_iLT w, mj_iLE w, hQ.si 0 rfl, nI_toInt (hB 0 0), show (0 : Int32).toInt = 0 from by decide, show (1 : Int32).toInt = 1 from by decide, show (16 : Int32).toInt = 16 from by decide]
  refine ⟨fun h => ?_, fun h => ⟨hQ.t, fun h2 => ⟨fun h3 => ?_, fun h3 => ⟨fun h4 => ?_, fun h4 => ?_⟩⟩, fun h2 => ?_⟩⟩
  · rw [if_neg (by omega)]
    exact ⟨⟨_, rfl, rfl, hQ⟩, rfl, rfl⟩
  · rw [if_pos (by omega), if_neg (by omega)]
    exact ⟨⟨_, rfl, rfl, hQ⟩, rfl, rfl⟩
  · obtain ⟨c, g1, rfl, g2⟩ := mj_nn (v := v) (by omega)
    obtain ⟨l, g3, rfl, g4⟩ := mj_nn (v := w) (by omega)
    have hl : l < 17 := by omega
    have ho := hO l (by omega) (by omega)
    have ho1 : σ 25 l < 101 := by omega
    have b3 := hB 3 (σ 25 l)
    rw [if_pos (by omega), if_pos (by omega), g2, g4, Int.toNat_natCast, Int.toNat_natCast]
    have go : ¬ (σ 25 l ≠ 0 ∧ σ 3 (σ 25 l) = c) → mj_J G mY_M_spin (fun v μ' => mj_XI (fun x μ' => x = (if σ 25 l ≠ 0 ∧ σ 3 (σ 25 l) = c then nI (σ 25 l) else -nI (sp_fstc σ c l (σ 1 0))) ∧ rf_Q m A σ μ μ') v μ' ∧ mj_nc μ' = mj_nc μ ∧ mj_ns μ' = mj_ns μ) (mj_nc μ) (mj_ns μ) 67 [(0, va_rf (some m)), (1, .int (nI c)), (2, .int (nI l)), (3, .int 0), (4, .int 1)] [] μ := by
      intro hq
      refine rl_spin (μ0 := μ) hB hT c l (by omega) hl hQ ?_ (σ 1 0) 0 (by omega)
      exact ⟨⟨_, rfl, by rw [if_neg hq], hQ⟩, rfl, rfl⟩
    refine ⟨_, hQ.r 25 (by decide), hQ.a0 25 (by decide), hQ.v 25 (by decide) hl, ?_⟩
    rw [nI_clamp (by omega), hQ.i 25 (by decide) hl, mj_le0 (by omega)]
    refine ⟨fun q => go (fun z => z.1 q), fun q => ⟨hQ.v 25 (by decide) hl, _, hQ.r 3 (by decide), hQ.a0 3 (by decide), hQ.v 3 (by decide) ho1, ?_⟩⟩
    rw [nI_clamp (by omega), hQ.i 3 (by decide) ho1, mj_zz b3 g1]
    refine ⟨fun q2 => go (fun z => q2 z.2), fun q2 => ⟨hQ.v 25 (by decide) hl, ?_⟩⟩
    exact ⟨⟨_, rfl, by rw [if_pos ⟨q, q2⟩], hQ⟩, rfl, rfl⟩
  · rw [if_pos (by omega), if_neg (by omega)]
    exact ⟨⟨_, rfl, rfl, hQ⟩, rfl, rfl⟩
  · rw [if_neg (by omega)]
    exact ⟨⟨_, rfl, rfl, hQ⟩, rfl, rfl⟩
end PE

theorem cz_24 (σ : ss_S) : ∀ n r, 1 ≤ r → r ≤ n → sp_cz σ n 24 r = 0 := by
  intro n
  induction n with
  | zero => exact fun r h1 h2 => by omega
  | succ n ih =>
    intro r h1 h2
    unfold sp_cz
    rw [ss_ue]
    split
    · rfl
    · exact ih r h1 (by omega)
theorem cl_24 (σ : ss_S) (r : Nat) (h1 : 1 ≤ r) (h2 : r ≤ 32) : ∀ k, sp_cl σ k 24 r = cfc (σ 2) (σ 8) (σ 9) (σ 10) r k := by
  intro k
  induction k with
  | zero => exact cz_24 σ 32 r h1 h2
  | succ k ih =>
    unfold sp_cl cfc
    rw [← ih]
    by_cases z : σ 9 k = 6 ∧ sp_cl σ k 24 (σ 10 k) < σ 2 (σ 8 k)
    · rw [if_pos z, ss_ue]
      by_cases y : r = σ 10 k
      · rw [if_pos y, if_pos ⟨z.1, y.symm, by rw [y]; exact z.2⟩]
      · rw [if_neg y, if_neg (fun x => y x.2.1.symm)]
    · rw [if_neg z, if_neg (fun x => z ⟨x.1, by rw [x.2.1]; exact x.2.2⟩)]
/-- what holds between two calls -/
def TB (b : Nat) (σ : ss_S) : Prop := sp_Bd b σ ∧ sp_V σ ∧ gp σ ∧ gq σ ∧ iv σ ∧ (∀ k, k < σ 35 0 → σ 38 k ≤ 10000) ∧ (∀ t, σ 20 t ≤ σ 43 0) ∧ (σ 43 0 = 0 → ∀ t, σ 11 t = 0)
theorem TB.ceil {b : Nat} {σ : ss_S} (h : TB b σ) (hb : 1 ≤ b) : TS b (sp_ceil σ) := by
  obtain ⟨h1, h2, h3, h4, h5, h6, h7, -⟩ := h
  have f : ∀ g j, g ≠ 24 → sp_ceil σ g j = σ g j := fun g j hg => sp_cl_f σ g j hg _
  have hm := mv_eq (σ := σ) (τ := sp_ceil σ) (fun g j hg => f g j (by omega)) h5
  refine ⟨h1.cl hb _, ⟨?_, fun r r1 r2 => ?_, ?_, ?_⟩, hm.1, ?_, ?_⟩
  · rw [ceil_r]
    generalize sp_ceil σ 24 = g
    exact h2
  · show sp_cl σ (σ 7 0) 24 r = _
    rw [cl_24 σ r r1 r2, show sp_ceil σ 2 = σ 2 from funext (fun j => f 2 j (by decide)), show sp_ceil σ 8 = σ 8 from funext (fun j => f 8 j (by decide)), show sp_ceil σ 9 = σ 9 from funext (fun j => f 9 j (by decide)), show sp_ceil σ 10 = σ 10 from funext (fun j => f 10 j (by decide)), f 7 0 (by decide)]
  · rw [ceil_r]
    generalize sp_ceil σ 24 = g
    exact h3
  · rw [ceil_r]
    generalize sp_ceil σ 24 = g
    exact h4
  · rw [f 35 0 (by decide)]
    intro k hk
    rw [f 38 k (by decide)]
    exact h6 k hk
  · intro t
    rw [f 20 t (by decide), f 43 0 (by decide)]
    exact h7 t
theorem TS.run {b : Nat} {σ : ss_S} (h : TS b σ) (hb : 2 ^ 24 ≤ b) (n : Nat) (hn : σ 43 0 + n ≤ 50000) (hb2 : b + 20000 * n ≤ 2 ^ 31) : ∀ j, j ≤ n → TS (b + 20000 * j) (sp_runN σ j).1 ∧ (sp_runN σ j).1 43 0 = σ 43 0 + j ∧ (j < n → MS (sp_runN σ j).1) ∧ BL σ ≤ BL (sp_runN σ j).1 := by
  have key : ∀ j, j < n → TS (b + 20000 * j) (sp_runN σ j).1 → (sp_runN σ j).1 43 0 = σ 43 0 + j → _ := fun j hj t e => t.go (by omega) (by omega) (by omega)
  intro j
  induction j with
  | zero => exact fun _ => ⟨h, rfl, fun z => (h.go (by omega) (by omega) (by omega)).1, Nat.le_refl _⟩
  | succ j ih =>
    intro hj
    obtain ⟨i1, i2, i3, i4⟩ := ih (by omega)
    obtain ⟨k1, k2, k3⟩ := key j (by omega) i1 i2
    have e : (sp_runN σ (j + 1)).1 = (sp_micro (sp_runN σ j).1).1 := rfl
    have k2' : TS (b + 20000 * (j + 1)) (sp_runN σ (j + 1)).1 := by
      rw [e, show b + 20000 * (j + 1) = b + 20000 * j + 20000 from by omega]
      exact k2
    have k3' : (sp_runN σ (j + 1)).1 43 0 = σ 43 0 + (j + 1) := by
      rw [e, k3, i2]
      omega
    refine ⟨k2', k3', fun z => (key (j + 1) z k2' k3').1, Nat.le_trans i4 ?_⟩
    rw [e]
    exact k1.blk
theorem TB.run {b : Nat} {σ : ss_S} (h : TB b σ) (hb : 2 ^ 24 ≤ b) (v : Int) (hb2 : b + 20000 * (50000 - σ 43 0) ≤ 2 ^ 31) : TB (b + 20000 * ((an_run σ v).2 43 0 - σ 43 0)) (an_run σ v).2 ∧ σ 43 0 ≤ (an_run σ v).2 43 0 ∧ BL σ ≤ BL (an_run σ v).2 ∧ (∀ n : Nat, v = n → n + σ 43 0 ≤ 50000 → ∀ j, j < n → MS (sp_runN (sp_ceil σ) j).1) := by
  have hc := h.ceil (by omega)
  have c43 : sp_ceil σ 43 0 = σ 43 0 := sp_cl_f σ 43 0 (by decide) _
  have hrun : ∀ n : Nat, n + σ 43 0 ≤ 50000 → _ := fun n hn => hc.run hb n (by omega) (by omega)
  have hms : ∀ n : Nat, v = n → n + σ 43 0 ≤ 50000 → ∀ j, j < n → MS (sp_runN (sp_ceil σ) j).1 := fun n _ hn j hj => (hrun n hn j (by omega)).2.2.1 hj
  unfold an_run
  by_cases z : 0 ≤ v ∧ v + σ 43 0 ≤ 50000
  · rw [if_pos z]
    obtain ⟨n, rfl⟩ : ∃ n : Nat, v = n := ⟨v.toNat, by omega⟩
    rw [Int.toNat_natCast]
    have hn : n + σ 43 0 ≤ 50000 := by omega
    obtain ⟨i1, i2, -, i4⟩ := hrun n hn n (Nat.le_refl _)
    rw [BL_ceil] at i4
    rw [c43] at i2
    refine ⟨?_, by show σ 43 0 ≤ (sp_runN (sp_ceil σ) n).1 43 0; omega, i4, hms⟩
    show TB (b + 20000 * ((sp_runN (sp_ceil σ) n).1 43 0 - σ 43 0)) (sp_runN (sp_ceil σ) n).1
    rw [i2, Nat.add_sub_cancel_left]
    obtain ⟨t1, ⟨t2, t3, t4, t5⟩, t6, t7, t8⟩ := i1
    refine ⟨t1, t2, t4, t5, t6, t7, t8, fun e => ?_⟩
    have n0 : n = 0 := by omega
    subst n0
    intro t
    show sp_ceil σ 11 t = 0
    rw [show sp_ceil σ 11 t = σ 11 t from sp_cl_f σ 11 t (by decide) _]
    exact h.2.2.2.2.2.2.2 (by omega) t
  · rw [if_neg z]
    refine ⟨?_, Nat.le_refl _, Nat.le_refl _, hms⟩
    show TB (b + 20000 * (σ 43 0 - σ 43 0)) σ
    rw [Nat.sub_self]
    exact h
