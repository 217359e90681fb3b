def sp_is (σ : ss_S) (t : Nat) : Prop := 1 ≤ t ∧ t ≤ σ 1 0
def sp_chain1 (σ : ss_S) (t o : Nat) : ss_S := if 1 ≤ o ∧ o ≤ σ 1 0 then σ else sp_tell σ 8 t
def sp_chain2 (σ : ss_S) (t o : Nat) : ss_S := if o = t then sp_free (sp_chain1 σ t o) t else sp_ends (sp_chain1 σ t o) t
def sp_chain (σ : ss_S) (t o : Nat) : ss_S := if 1 ≤ o ∧ o ≤ σ 1 0 then sp_begin (sp_chain2 σ t o) o else sp_chain2 σ t o
/-- events without some -/
def ev_clr (a x : Nat) : Nat := (nI a &&& (nI x ^^^ (-1))).toBitVec.toNat
/-- the code of FREE, resources up to r looked at -/
def sp_fc (σ : ss_S) (t x : Nat) : Nat → Nat
  | 0 => if σ 22 x = t then 0 else 4
  | r + 1 => if σ 22 (r + 1) = t ∧ σ 23 x < σ 23 (r + 1) then 4 else sp_fc σ t x r
def sp_code (σ : ss_S) (t c : Nat) : ss_S := if c = 0 then σ else sp_tell σ c t
def sp_spin (σ : ss_S) (t x : Nat) : ss_S := ss_u (ss_u (ss_u σ 28 0 (σ 28 0 + 1)) 26 t x) 27 t (σ 28 0 + 1)
/-- a part behind the count of parts done -/
def sp_do (σ : ss_S) (t k x : Nat) : ss_S :=
  if k = 1 then (if 1 ≤ x ∧ x ≤ σ 1 0 then sp_begin σ x else sp_tell σ 8 t)
  else if k = 3 then (if σ 5 t = 0 then sp_tell σ 2 t else if sp_holds σ t ≠ 0 then sp_tell σ 4 t else if (σ 17 t &&& x) = 0 then ss_u (ss_u σ 11 t 3) 18 t x else σ)
  else if k = 4 then (if 1 ≤ x / 65536 ∧ x / 65536 ≤ σ 1 0 then (if σ 5 (x / 65536) ≠ 0 ∧ σ 11 (x / 65536) ≠ 0 then sp_set σ (x / 65536) (x % 65536) else sp_tell σ 5 t) else sp_tell σ 8 t)
  else if k = 5 then (if σ 5 t = 0 then sp_tell (ss_u σ 17 t (σ 17 t)) 2 t else ss_u σ 17 t (ev_clr (σ 17 t) x))
  else if k = 6 then (if σ 22 x = 0 then ss_u (ss_u (ss_u σ 28 0 (σ 28 0 + 1)) 22 x t) 23 x (σ 28 0 + 1) else sp_tell σ 4 t)
  else if k = 7 then sp_code (ss_u σ 22 x (if sp_fc σ t x 32 = 0 then 0 else σ 22 x)) t (sp_fc σ t x 32)
  else if k = 8 then sp_code (ss_u σ 25 x t) t (if σ 25 x = t then 6 else 0)
  else if k = 9 then (if σ 25 x = t then sp_unlock σ x else sp_tell σ 6 t)
  else if k = 10 then ss_u σ 19 t 1
  else if k = 12 then (if σ 3 t ≠ 0 ∨ 0 < σ 29 0 then sp_tell σ 7 t else ss_u (ss_u (ss_u σ 29 0 t) 30 0 (σ 43 0 + x)) 31 0 0)
  else (if σ 3 t ≠ 0 ∨ σ 29 0 = 0 then sp_tell (ss_u σ 29 0 (σ 29 0)) 7 t else ss_u σ 29 0 0)
def sp_act (σ : ss_S) (t k x : Nat) : ss_S :=
  if k = 2 then sp_chain σ t x else if k = 11 then sp_ends σ t
  else if k = 8 ∧ σ 25 x ≠ 0 ∧ σ 25 x ≠ t then sp_spin σ t x
  else sp_do (ss_u σ 14 t (σ 14 t + 1)) t k x
theorem ev_clr_nI (a x : Nat) : nI (ev_clr a x) = nI a &&& (nI x ^^^ (-1)) := by
  unfold ev_clr
  generalize nI a &&& (nI x ^^^ (-1)) = y
  apply Int32.toBitVec_inj.1
  show BitVec.ofNat 32 y.toBitVec.toNat = y.toBitVec
  simp
theorem ev_clr_le {a : Nat} (x : Nat) (ha : a < 2 ^ 31) : ev_clr a x ≤ a := by
  unfold ev_clr
  have h : (nI a &&& (nI x ^^^ (-1))).toBitVec.toNat ≤ (nI a).toBitVec.toNat := by
    rw [Int32.toBitVec_and, BitVec.toNat_and]
    exact Nat.and_le_left
  rw [pk_tn (by omega)] at h
  exact h
section SPF
variable {b : Nat} {σ : ss_S}
theorem sp_ready_f (σ : ss_S) (t g j : Nat) (h : g ≠ 11 ∧ g ≠ 12 ∧ g ≠ 21) : sp_ready σ t g j = σ g j := by
  unfold sp_ready
  rw [ss_uf _ _ _ _ h.1, ss_uf _ _ _ _ h.2.1, ss_uf _ _ _ _ h.2.2]
theorem sp_begin_f (σ : ss_S) (t g j : Nat) (h : g ≠ 11 ∧ g ≠ 12 ∧ g ≠ 13 ∧ g ≠ 14 ∧ g ≠ 15 ∧ g ≠ 16 ∧ g ≠ 17 ∧ g ≠ 21 ∧ g ≠ 39 ∧ g ≠ 40 ∧ g ≠ 41 ∧ g ≠ 42) : sp_begin σ t g j = σ g j := by
  obtain ⟨h1, h2, h3, h4, h5, h6, h7, h8, h9⟩ := h
  unfold sp_begin
  split
  · rw [ss_uf _ _ _ _ h6, ss_uf _ _ _ _ h5, ss_uf _ _ _ _ h4, ss_uf _ _ _ _ h7, sp_ready_f _ _ _ _ ⟨h1, h2, h8⟩]
  · split
    · rw [ss_uf _ _ _ _ h3]
    · rw [sp_tell_f _ _ _ _ _ h9]
theorem sp_ends_f (σ : ss_S) (t g j : Nat) (h : g < 11 ∨ g = 18 ∨ g = 20 ∨ g = 23 ∨ g = 24 ∨ g = 27 ∨ g = 28 ∨ (30 ≤ g ∧ g ≤ 38) ∨ 43 ≤ g) : sp_ends σ t g j = σ g j := by
  unfold sp_ends
  split
  · exact sp_free_f _ _ _ _ (by omega)
  · rw [sp_begin_f _ _ _ _ (by omega), ss_uf _ _ _ _ (by omega), sp_free_f _ _ _ _ (by omega)]
theorem sp_Bd.chain1 (h : sp_Bd b σ) (hb : 1000 ≤ b) {t : Nat} (ht : t < 101) (o : Nat) : sp_Bd (b + 1) (sp_chain1 σ t o) := by
  unfold sp_chain1
  split
  · exact h.mono (by omega)
  · exact h.tell (by omega) (by omega)
theorem sp_chain1_f (σ : ss_S) (t o g j : Nat) (h : g ≠ 39 ∧ g ≠ 40 ∧ g ≠ 41 ∧ g ≠ 42) : sp_chain1 σ t o g j = σ g j := by
  unfold sp_chain1
  split
  · rfl
  · exact sp_tell_f _ _ _ _ _ h
theorem sp_chain2_f (σ : ss_S) (t o g j : Nat) (h : g < 11 ∨ g = 18 ∨ g = 20 ∨ g = 23 ∨ g = 24 ∨ g = 27 ∨ g = 28 ∨ (30 ≤ g ∧ g ≤ 38) ∨ 43 ≤ g) : sp_chain2 σ t o g j = σ g j := by
  unfold sp_chain2
  split
  · rw [sp_free_f _ _ _ _ (by omega), sp_chain1_f _ _ _ _ _ (by omega)]
  · rw [sp_ends_f _ _ _ _ h, sp_chain1_f _ _ _ _ _ (by omega)]
theorem sp_Bd.chain2 (h : sp_Bd b σ) (hb : 1000 ≤ b) (hT : σ 1 0 ≤ 100) {t : Nat} (ht : t < 101) (o : Nat) : sp_Bd (b + 19) (sp_chain2 σ t o) := by
  have h1 := h.chain1 hb ht o
  have hT1 : sp_chain1 σ t o 1 0 ≤ 100 := by rw [sp_chain1_f _ _ _ _ _ (by decide)]; exact hT
  unfold sp_chain2
  split
  · exact (h1.free (by omega) hT1 ht).mono (by omega)
  · exact (h1.ends (by omega) hT1 ht).mono (by omega)
theorem sp_Bd.chain (h : sp_Bd b σ) (hb : 1000 ≤ b) (hT : σ 1 0 ≤ 100) {t : Nat} (ht : t < 101) (o : Nat) : sp_Bd (b + 20) (sp_chain σ t o) := by
  have h2 := h.chain2 hb hT ht o
  unfold sp_chain
  split
  · exact h2.begin (by omega) (by omega)
  · exact h2.mono (by omega)
theorem sp_fc_le (σ : ss_S) (t x : Nat) : ∀ r, sp_fc σ t x r = 0 ∨ sp_fc σ t x r = 4 := by
  intro r
  induction r with
  | zero =>
    unfold sp_fc
    split <;> simp
  | succ r ih =>
    unfold sp_fc
    split
    · exact Or.inr rfl
    · exact ih
end SPF
section RF2
variable {G : mj_G} {m : Nat} {A : Nat → Nat} {σ : ss_S} {μ : mj_MM} {b : Nat}
theorem rc_chain (hR : rf_R m A σ μ) (h : sp_Bd b σ) (hb : 1000 ≤ b) (hb2 : b + 80 ≤ 2 ^ 31) (hT : σ 1 0 ≤ 100) (t o : Nat) (ht : t < 101) (ho : o < 2 ^ 31) : rc_V G my_M_chain mY_M_chain m A μ [.int (nI t), .int (nI o)] (sp_chain σ t o) := by
  have hQ := hR.self
  have hB := h.B (by omega)
  refine mj_of (by decide) rfl (by decide) (Nat.le_of_ble_eq_true rfl) rfl ⟨Nat.le_refl _, Nat.le_refl _⟩ ?_
  have s15 : ∀ μ', rf_Q m A (sp_chain1 σ t o) μ μ' → mj_nc μ' = mj_nc μ → mj_ns μ' = mj_ns μ → mj_J G mY_M_chain (fun v μ' => mj_XV (fun μ' => rf_Q m A (sp_chain σ t o) μ μ') v μ' ∧ mj_nc μ' = mj_nc μ ∧ mj_ns μ' = mj_ns μ) (mj_nc μ) (mj_ns μ) 15 [(0, va_rf (some m)), (1, .int (nI t)), (2, .int (nI o))] [] μ' := by
    intro μ1 hP e1 e2
    have h1 := h.chain1 hb ht o
    have hT1 : sp_chain1 σ t o 1 0 ≤ 100 := by rw [sp_chain1_f _ _ _ _ _ (by decide)]; exact hT
    have h2 := h.chain2 hb hT ht o
    have s33 : ∀ μ', rf_Q m A (sp_chain2 σ t o) μ μ' → mj_nc μ' = mj_nc μ → mj_ns μ' = mj_ns μ → mj_J G mY_M_chain (fun v μ' => mj_XV (fun μ' => rf_Q m A (sp_chain σ t o) μ μ') v μ' ∧ mj_nc μ' = mj_nc μ ∧ mj_ns μ' = mj_ns μ) (mj_nc μ) (mj_ns μ) 33 [(0, va_rf (some m)), (2, .int (nI o))] [] μ' := by
      intro μ2 hP2 q1 q2
      have e10 : sp_chain2 σ t o 1 0 = σ 1 0 := sp_chain2_f _ _ _ _ _ (by omega)
      refine bk_M_chain_33 ⟨hP2.t, _, rc_no_ok hP2.1 (h2.B (by omega)) o ho, fun x μ3 hP3 r1 r2 => ?_⟩
      obtain ⟨hx, hP3⟩ := hP3
      rw [e10] at hx
      refine bk_M_chain_38 ⟨fun hn => ?_, fun hz => ⟨hP3.t, ?_⟩⟩
      · have hno : ¬ (1 ≤ o ∧ o ≤ σ 1 0) := fun q => hn (by rw [hx, if_pos q])
        refine bk_M_chain_46 ⟨⟨rfl, ?_⟩, r1.trans q1, r2.trans q2⟩
        unfold sp_chain
        rw [if_neg hno]
        exact hP2.trans hP3
      · have hok : 1 ≤ o ∧ o ≤ σ 1 0 := by
          refine Classical.byContradiction fun q => ?_
          rw [if_neg q] at hx
          rw [hx] at hz
          exact absurd hz (by decide)
        have hw := h2 13 o
        refine ⟨_, rc_begin hP3.1 (h2.B (by omega)) o (by omega) (by omega), fun μ4 hP4 u1 u2 => bk_M_chain_46 ⟨⟨rfl, ?_⟩, (u1.trans r1).trans q1, (u2.trans r2).trans q2⟩⟩
        unfold sp_chain
        rw [if_pos hok]
        exact (hP2.trans hP3).trans hP4
    refine bk_M_chain_15 ?_
    simp (disch := first | decide | assumption | omega) only [hP.t, hP.r, hP.a0, hP.a1, hP.a2, hP.a3, hP.si, hP.sl, hP.l15, hP.i1, hP.v1, hP.l1, hP.i5, hP.v5, hP.l5, hP.i3, hP.v3, hP.l3, hP.i2, hP.v2, hP.l2, hP.i4, hP.v4, hP.l4, Option.some.injEq, exists_eq_left', nI_clamp, nI_1, mj_vin, true_and, eq_self, mj_zz]
    refine ⟨fun hne => ?_, fun he => ?_⟩
    · refine ⟨_, rc_ends hP.1 h1 (by omega) (by omega) hT1 t ht, fun μ2 hP2 q1 q2 => s33 μ2 ?_ (q1.trans e1) (q2.trans e2)⟩
      unfold sp_chain2
      rw [if_neg hne]
      exact hP.trans hP2
    · refine ⟨_, rc_free hP.1 h1 (by omega) (by omega) hT1 t ht, fun μ2 hP2 q1 q2 => bk_M_chain_25 (s33 μ2 ?_ (q1.trans e1) (q2.trans e2))⟩
      unfold sp_chain2
      rw [if_pos he]
      exact hP.trans hP2
  refine bk_M_chain_0 ⟨hQ.t, _, rc_no_ok hR hB o ho, fun x μ1 hP e1 e2 => ?_⟩
  obtain ⟨hx, hP⟩ := hP
  refine bk_M_chain_5 ⟨fun hz => s15 μ1 ?_ e1 e2, fun hn => ⟨hP.t, _, rc_tell hP.1 hB 8 t, fun μ2 hP2 q1 q2 => s15 μ2 ?_ (q1.trans e1) (q2.trans e2)⟩⟩
  · have hok : 1 ≤ o ∧ o ≤ σ 1 0 := by
      refine Classical.byContradiction fun q => ?_
      rw [if_neg q] at hx
      rw [hx] at hz
      exact absurd hz (by decide)
    unfold sp_chain1
    rw [if_pos hok]
    exact hP
  · have hno : ¬ (1 ≤ o ∧ o ≤ σ 1 0) := fun q => hn (by rw [hx, if_pos q])
    unfold sp_chain1
    rw [if_neg hno]
    exact hP.trans hP2
end RF2
