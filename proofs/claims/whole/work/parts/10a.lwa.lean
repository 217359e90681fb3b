/-! The law: both objects side by side -/
section LA
variable {G : mj_G} {B : cl_B} {σ τ : ss_S} {c : cc_S} {μ μ' μ0 : mj_MM} {m : Nat} {A : Nat → Nat}
theorem rf_R.keep (h : rf_R m A σ μ) (hF : ∀ a, (a = m ∨ ∃ k, rf_k k < 9 ∧ a = A k) → mj_t μ' a = mj_t μ a ∧ mj_n μ' a = mj_n μ a ∧ (∀ k, mj_i μ' a k = mj_i μ a k) ∧ (∀ k, mj_r μ' a k = mj_r μ a k) ∧ ∀ k, mj_l μ' a k = mj_l μ a k) : rf_R m A σ μ' := by
  obtain ⟨h1, h2, h3, h4, h5, h6, h7⟩ := h
  have fm := hF m (Or.inl rfl)
  have fA := fun k (hk : rf_k k < 9) => hF (A k) (Or.inr ⟨k, hk, rfl⟩)
  refine ⟨fm.1.trans h1, fun k hk => ⟨?_, ?_, ?_⟩, h3, fun k i hk hk1 hi => ?_, fun k i hk hi => ?_, fun k hk => ?_, fun k hk => ?_⟩
  · rw [fm.2.2.2.1]
    exact (h2 k hk).1
  · rw [(fA k hk).1]
    exact (h2 k hk).2.1
  · rw [(fA k hk).2.1]
    exact (h2 k hk).2.2
  · rw [(fA k hk).2.2.1]
    exact h4 k i hk hk1 hi
  · rw [(fA k (by omega)).2.2.2.2]
    exact h5 k i hk hi
  · rw [fm.2.2.1]
    exact h6 k hk
  · rw [fm.2.2.2.2]
    exact h7 k hk
theorem cl_R.keep (h : cl_R B c μ) (ht : ∀ a, mj_t μ' a = mj_t μ a) (hn : ∀ a, mj_n μ' a = mj_n μ a) (hr : ∀ a k, mj_r μ' a k = mj_r μ a k) (hil : ∀ a k, ¬ cZ B a → mj_i μ' a k = mj_i μ a k ∧ mj_l μ' a k = mj_l μ a k) : cl_R B c μ' := by
  obtain ⟨a1, a2, a3, a4, a5, a6, a7, a8, a9, a10⟩ := h
  refine ⟨fun K i hl => ?_, a2, fun K i hl hK => ?_, fun K p i hl hp => ?_, fun K p i hl hp => ?_, fun j i hl hi => ?_, ⟨fun j hl => ?_, fun j b j' b' a h1 h2 h3 h4 h5 h6 => ?_⟩, a8, fun a ha => ?_, a10⟩
  · rw [ht]
    exact a1 K i hl
  · rw [hn]
    exact a3 K i hl hK
  · rw [(hil _ p (fun z => (a9 _ z).2 K i hl rfl)).1]
    exact a4 K p i hl hp
  · rw [hr]
    exact a5 K p i hl hp
  · rw [hr]
    exact a6 j i hl hi
  · obtain ⟨g1, g2, g3, g4, g5⟩ := a7.1 j hl
    refine ⟨g1, g2, g3, g4, fun b hb => ?_⟩
    rw [hr]
    rcases g5 b hb with z | ⟨x, z1, z2, z3, z4, z5, z6⟩
    · exact Or.inl z
    · refine Or.inr ⟨x, z1, ?_, ?_, z4, z5, fun i hi => ?_⟩
      · rw [ht]
        exact z2
      · rw [hn]
        exact z3
      · rw [(hil x i z4).2]
        exact z6 i hi
  · rw [hr] at h5 h6
    exact a7.2 j b j' b' a h1 h2 h3 h4 h5 h6
  · rw [ht]
    exact a9 a ha
def zOf (B : cl_B) (m : Nat) (A : Nat → Nat) : Prop := ∀ a, cZ B a ↔ a = m ∨ ∃ k, rf_k k < 9 ∧ a = A k
/-- both hold the same numbers, before the i-th cell of the script -/
def LI (i h m : Nat) (σ : ss_S) (μ : mj_MM) : Prop := ∃ (B : cl_B) (A : Nat → Nat), cD B 0 0 = h ∧ zOf B m A ∧ CR B 0 0 0 σ μ μ ∧ rf_R m A σ μ ∧ TB (2 ^ 24 + 20000 * σ 43 0 + i) σ ∧ mj_nc μ ≤ 300 + 2 * i + BL σ ∧ mj_ns μ ≤ 420000 + 22 * i + 512 * BL σ
/-- the class has gone on to σ', the reference is at σ -/
def LM (i h m : Nat) (σ σ' : ss_S) (μ : mj_MM) : Prop := ∃ (B : cl_B) (A : Nat → Nat), cD B 0 0 = h ∧ zOf B m A ∧ CR B 0 0 0 σ' μ μ ∧ rf_R m A σ μ ∧ TB (2 ^ 24 + 20000 * σ 43 0 + i) σ ∧ mj_nc μ ≤ 300 + 2 * (i + 6) + BL σ' ∧ mj_ns μ ≤ 420000 + 22 * (i + 6) + 512 * BL σ'
theorem LM.of {i h : Nat} {B' : cl_B} {σ' : ss_S} (hZ : zOf B m A) (hR : rf_R m A σ μ) (hT : TB (2 ^ 24 + 20000 * σ 43 0 + i) σ) (eZ : cZ B' = cZ B) (eD : cD B' 0 0 = h) (hC : CR B' 0 0 0 σ' μ μ') (h1 : mj_nc μ' ≤ 300 + 2 * (i + 6) + BL σ') (h2 : mj_ns μ' ≤ 420000 + 22 * (i + 6) + 512 * BL σ') : LM i h m σ σ' μ' := by
  obtain ⟨c', hQ, hP⟩ := hC
  have hZ' : zOf B' m A := fun a => by
    rw [eZ]
    exact hZ a
  exact ⟨B', A, eD, hZ', ⟨c', hQ.1.self, hP⟩, hR.keep (fun a ha => hQ.2 a ((hZ' a).mpr ha)), hT, h1, h2⟩
theorem LM.same {i h : Nat} (H : LI i h m σ μ) : LM i h m σ σ μ := by
  obtain ⟨B, A, h1, h2, h3, h4, h5, h6, h7⟩ := H
  exact ⟨B, A, h1, h2, h3, h4, h5, by omega, by omega⟩
/-- what the reference's contract must say at a state -/
theorem LM.ref {i h : Nat} {σ' : ss_S} (H : LM i h m σ σ' μ) : mj_t μ m = 11 ∧ TB (2 ^ 24 + 20000 * σ 43 0 + i) σ ∧ (sp_V σ' ∧ uq σ') ∧ ∃ A, rf_R m A σ μ ∧ ∀ μ', TB (2 ^ 24 + 20000 * σ' 43 0 + (i + 6)) σ' → rf_Q m A σ' μ μ' → mj_nc μ' = mj_nc μ → mj_ns μ' = mj_ns μ → LI (i + 6) h m σ' μ' := by
  obtain ⟨B, A, h1, h2, ⟨c, hQ, hP⟩, h4, h5, h6, h7⟩ := H
  refine ⟨h4.1, h5, ⟨hP.v, hP.uq⟩, A, h4, fun μ' t q e1 e2 => ⟨B, A, h1, h2, ⟨c, (hQ.1.keep q.2.1 q.2.2.1 q.2.2.2.1 (fun a k ha => ?_)).self, hP⟩, q.1, t, by omega, by omega⟩⟩
  refine q.2.2.2.2 a k (fun z => ha ((h2 a).mpr (Or.inl z))) (fun j hj z => ha ((h2 a).mpr (Or.inr ⟨j, hj, z⟩)))
theorem TB.mono {b b' : Nat} (h : TB b σ) (hb : b ≤ b') : TB b' σ := ⟨h.1.mono hb, h.2⟩
theorem BL_cg {σ τ : ss_S} (h0 : τ 0 0 = σ 0 0) (h39 : τ 39 0 = σ 39 0) (h43 : τ 43 0 = σ 43 0) (h44 : ∀ i, τ 44 i = σ 44 i) : BL τ = BL σ := by
  have e : τ 44 = σ 44 := funext h44
  unfold BL
  rw [h0, h39, h43, e]
end LA
