def sp_al (σ : ss_S) : Nat → ss_S
  | 0 => σ
  | k + 1 => if σ 34 k = σ 43 0 then sp_begin (sp_al σ k) (σ 33 k) else sp_al σ k
def sp_ins (c : Nat) : Nat → ss_S → Nat → ss_S × Nat
  | 0, σ, s => (σ, s)
  | n + 1, σ, s => if (sp_step σ c).2 = 0 then ((sp_step σ c).1, s) else sp_ins c n (sp_step σ c).1 1
def sp_row (F : Nat) (σ : ss_S) : Nat → ss_S × Nat
  | 0 => (σ, 0)
  | c + 1 => sp_ins c F (sp_row F σ c).1 (sp_row F σ c).2
def sp_rounds (F C : Nat) : Nat → ss_S → ss_S
  | 0, σ => σ
  | n + 1, σ => if (sp_row F σ C).2 = 0 then (sp_row F σ C).1 else sp_rounds F C n (sp_row F σ C).1
def sp_nine (σ : ss_S) : ss_S := if σ 29 0 ≠ 0 ∧ σ 31 0 = 0 ∧ σ 30 0 ≤ σ 43 0 then ss_u (sp_tell σ 9 (σ 29 0)) 31 0 1 else σ
/-- the interrupt of a core (its place and one), WHO, and a core's microsecond behind the choice -/
def sp_ci (σ : ss_S) (c : Nat) : Nat := if c = 0 then sp_atHand σ else 0
def sp_who (σ : ss_S) (c t : Nat) : Nat := if sp_ci σ c = 0 then t else 1000 + σ 36 (sp_ci σ c - 1)
def sp_before (σ : ss_S) (c : Nat) : Nat := if σ 43 0 = 0 then 0 else σ 44 (50000 * c + σ 43 0 - 1)
def sp_put (σ : ss_S) (c t : Nat) : ss_S := ss_u σ 44 (50000 * c + σ 43 0) (sp_who σ c t)
def sp_go (σ : ss_S) (c t : Nat) : ss_S :=
  if sp_ci σ c = 0 then (if t = 0 then sp_put σ c t else sp_pass (sp_put σ c t) t) else ss_u (sp_put σ c t) 38 (sp_ci σ c - 1) (σ 38 (sp_ci σ c - 1) - 1)
def sp_core (σ : ss_S) (c sw : Nat) : ss_S × Nat :=
  (sp_go (sp_choose σ c) c (sp_chosen σ c), if sp_who (sp_choose σ c) c (sp_chosen σ c) = sp_before (sp_put (sp_choose σ c) c (sp_chosen σ c)) c then sw else sw + 1)
def sp_pc (σ : ss_S) : Nat → ss_S × Nat
  | 0 => (σ, 0)
  | c + 1 => sp_core (sp_pc σ c).1 c (sp_pc σ c).2
def sp_mid (σ : ss_S) : ss_S := sp_nine (sp_rounds 2000 (σ 0 0) 2000 (sp_al σ (σ 32 0)))
def sp_micro (σ : ss_S) : ss_S × Nat := (ss_u (sp_pc (sp_mid σ) (σ 0 0)).1 43 0 ((sp_pc (sp_mid σ) (σ 0 0)).1 43 0 + 1), (sp_pc (sp_mid σ) (σ 0 0)).2)
/-- a task that is to pass: it spins, starts, runs a part, or has one -/
def sp_pok (σ : ss_S) (t : Nat) : Prop := σ 26 t ≠ 0 ∨ σ 16 t ≠ 0 ∨ σ 15 t ≠ 0 ∨ sp_next σ t ≠ none
theorem sp_step_01 (σ : ss_S) (c : Nat) : (sp_step σ c).2 = 0 ∨ (sp_step σ c).2 = 1 := by
  unfold sp_step
  split
  · exact Or.inl rfl
  · unfold sp_step1
    split
    · exact Or.inl rfl
    · split
      · exact Or.inr rfl
      · split
        · exact Or.inl rfl
        · exact Or.inr rfl
theorem sp_ins_01 (c : Nat) : ∀ n σ s, (s = 0 ∨ s = 1) → (sp_ins c n σ s).2 = 0 ∨ (sp_ins c n σ s).2 = 1 := by
  intro n
  induction n with
  | zero => exact fun σ s h => h
  | succ n ih =>
    intro σ s h
    unfold sp_ins
    split
    · exact h
    · exact ih _ 1 (Or.inr rfl)
theorem sp_row_01 (F : Nat) (σ : ss_S) : ∀ c, (sp_row F σ c).2 = 0 ∨ (sp_row F σ c).2 = 1 := by
  intro c
  induction c with
  | zero => exact Or.inl rfl
  | succ c ih => exact sp_ins_01 c F _ _ ih
theorem sp_al_f (σ : ss_S) (g j : Nat) (h : g ≠ 11 ∧ g ≠ 12 ∧ g ≠ 13 ∧ g ≠ 14 ∧ g ≠ 15 ∧ g ≠ 16 ∧ g ≠ 17 ∧ g ≠ 21 ∧ g ≠ 39 ∧ g ≠ 40 ∧ g ≠ 41 ∧ g ≠ 42) : ∀ k, sp_al σ k g j = σ g j := by
  intro k
  induction k with
  | zero => rfl
  | succ k ih =>
    unfold sp_al
    split
    · rw [sp_begin_f _ _ _ _ h, ih]
    · exact ih
theorem sp_Bd.al {σ : ss_S} {b : Nat} (h : sp_Bd b σ) (hb : 1000 ≤ b) (hV : sp_V σ) : ∀ k, k ≤ σ 32 0 → sp_Bd (b + k) (sp_al σ k) := by
  intro k
  induction k with
  | zero => exact fun _ => h
  | succ k ih =>
    intro hk
    have i1 := ih (by omega)
    unfold sp_al
    split
    · exact i1.begin (by omega) (hV.2.2.2.2.2.2.1 k (by omega))
    · exact i1.mono (by omega)
theorem sp_hand_rest (σ : ss_S) : ∀ n, sp_hand σ n ≠ 0 → 0 < σ 38 (sp_hand σ n - 1) := by
  intro n
  induction n with
  | zero => exact fun h => absurd rfl h
  | succ n ih =>
    intro h
    unfold sp_hand at h ⊢
    split at h
    · rename_i q
      rw [if_pos q]
      exact q.1.2.1
    · rename_i q
      rw [if_neg q]
      exact ih h
theorem mj_short : ∀ v, v < 1100 → (nI v).toInt16.toInt32 = nI v := by decide +kernel
/-- a family of states in which steps end: at most n of them are left -/
def sp_Fam (C : Nat) (P : Nat → ss_S → Prop) : Prop :=
  (∀ n τ, P n τ → τ 0 0 = C ∧ ∃ b, sp_Bd b τ ∧ 2 ^ 24 ≤ b ∧ b + 100 ≤ 2 ^ 31 ∧ sp_V τ) ∧ (∀ n τ c, P n τ → c < C → (sp_step τ c).2 = 0 → P n (sp_step τ c).1) ∧ (∀ n τ c, P n τ → c < C → (sp_step τ c).2 ≠ 0 → ∃ n', n' < n ∧ P n' (sp_step τ c).1)
theorem sp_Fam.ins {C : Nat} {P : Nat → ss_S → Prop} (hF : sp_Fam C P) {c : Nat} (hc : c < C) : ∀ f n τ s, P n τ → n < f → ∃ n', n' ≤ n ∧ P n' (sp_ins c f τ s).1 ∧ ((sp_ins c f τ s).2 = s ∨ n' < n) := by
  intro f
  induction f with
  | zero => exact fun n τ s _ h => absurd h (by omega)
  | succ f ih =>
    intro n τ s h hn
    unfold sp_ins
    split
    · rename_i q
      exact ⟨n, Nat.le_refl n, hF.2.1 n τ c h hc q, Or.inl rfl⟩
    · rename_i q
      obtain ⟨n1, h1, h2⟩ := hF.2.2 n τ c h hc q
      obtain ⟨n2, h3, h4, -⟩ := ih n1 _ 1 h2 (by omega)
      exact ⟨n2, by omega, h4, Or.inr (by omega)⟩
theorem sp_Fam.row {C : Nat} {P : Nat → ss_S → Prop} (hF : sp_Fam C P) {F n : Nat} {σ : ss_S} (h : P n σ) (hn : n < F) : ∀ c, c ≤ C → ∃ n', n' ≤ n ∧ P n' (sp_row F σ c).1 ∧ ((sp_row F σ c).2 = 0 ∨ n' < n) := by
  intro c
  induction c with
  | zero => exact fun _ => ⟨n, Nat.le_refl n, h, Or.inl rfl⟩
  | succ c ih =>
    intro hc
    obtain ⟨n1, h1, h2, h3⟩ := ih (by omega)
    obtain ⟨n2, h4, h5, h6⟩ := hF.ins (c := c) (by omega) F n1 (sp_row F σ c).1 (sp_row F σ c).2 h2 (by omega)
    refine ⟨n2, by omega, h5, ?_⟩
    show (sp_ins c F _ _).2 = 0 ∨ n2 < n
    rcases h6 with h6 | h6
    · rw [h6]
      rcases h3 with h3 | h3
      · exact Or.inl h3
      · exact Or.inr (by omega)
    · exact Or.inr (by omega)
theorem sp_Fam.rounds {C : Nat} {P : Nat → ss_S → Prop} (hF : sp_Fam C P) {F : Nat} : ∀ f n σ, P n σ → n < f → n < F → ∃ n', n' ≤ n ∧ P n' (sp_rounds F C f σ) := by
  intro f
  induction f with
  | zero => exact fun n σ _ h => absurd h (by omega)
  | succ f ih =>
    intro n σ h hn hF2
    obtain ⟨n1, h1, h2, h3⟩ := hF.row h hF2 C (Nat.le_refl C)
    unfold sp_rounds
    split
    · exact ⟨n1, h1, h2⟩
    · rename_i q
      obtain ⟨n2, h4, h5⟩ := ih n1 _ h2 (by omega) (by omega)
      exact ⟨n2, by omega, h5⟩
section RJ
variable {G : mj_G} {m : Nat} {A : Nat → Nat} {σ : ss_S} {μ μ0 : mj_MM} {b C : Nat} {Ex : Option Value → mj_MM → Prop} {N S : Nat} {P : Nat → ss_S → Prop}
theorem rl_al (h : sp_Bd b σ) (hb : 1000 ≤ b) (hb2 : b + 600 ≤ 2 ^ 31) (hV : sp_V σ) (he : ∀ μ', rf_Q m A (sp_al σ (σ 32 0)) μ0 μ' → mj_nc μ' = mj_nc μ0 → mj_ns μ' = mj_ns μ0 → mj_J G mY_M_microsecond Ex N S 42 [(0, va_rf (some m)), (1, .int 1)] [] μ') :
    ∀ d k μ, k + d = σ 32 0 → rf_Q m A (sp_al σ k) μ0 μ → mj_nc μ = mj_nc μ0 → mj_ns μ = mj_ns μ0 → mj_J G mY_M_microsecond Ex N S 2 [(0, va_rf (some m)), (1, .int (nI k))] [] μ := by
  have h32 := hV.2.2.2.1
  intro d
  induction d with
  | zero =>
    intro k μ hk hQ e1 e2
    have : k = σ 32 0 := by omega
    subst this
    have e32 : sp_al σ (σ 32 0) 32 0 = σ 32 0 := sp_al_f σ 32 0 (by decide) _
    refine bk_M_microsecond_2 ?_
    simp (disch := first | decide | assumption | omega) only [hQ.t, hQ.r, hQ.a0, hQ.a1, hQ.a2, hQ.a3, hQ.si, hQ.sl, hQ.l15, hQ.i1, hQ.v1, hQ.l1, hQ.i5, hQ.v5, hQ.l5, hQ.i3, hQ.v3, hQ.l3, hQ.i2, hQ.v2, hQ.l2, hQ.i4, hQ.v4, hQ.l4, Option.some.injEq, exists_eq_left', nI_clamp, nI_1, mj_vin, true_and, eq_self, e32, mj_le]
    exact ⟨fun _ => he μ hQ e1 e2, fun q => absurd (by omega) q⟩
  | succ d ih =>
    intro k μ hk hQ e1 e2
    have v33 := hV.2.2.2.2.2.2.1 k (by omega)
    have hbd := h.al hb hV k (by omega)
    have hB := hbd.B (by omega)
    have e32 : sp_al σ k 32 0 = σ 32 0 := sp_al_f σ 32 0 (by decide) _
    have e33 : sp_al σ k 33 k = σ 33 k := sp_al_f σ 33 k (by decide) _
    have e34 : sp_al σ k 34 k = σ 34 k := sp_al_f σ 34 k (by decide) _
    have e43 : sp_al σ k 43 0 = σ 43 0 := sp_al_f σ 43 0 (by decide) _
    have b1 := h 34 k
    have b2 := h 43 0
    have nx : ∀ μ', rf_Q m A (sp_al σ (k + 1)) μ0 μ' → mj_nc μ' = mj_nc μ0 → mj_ns μ' = mj_ns μ0 → mj_J G mY_M_microsecond Ex N S 34 [(0, va_rf (some m)), (1, .int (nI k))] [] μ' := by
      intro μ' hP r1 r2
      refine bk_M_microsecond_34 ?_
      rw [nI_1]
      exact ih (k + 1) μ' (by omega) hP r1 r2
    have eqL : (lN (σ 34 k) = lN (σ 43 0)) = (σ 34 k = σ 43 0) := propext (pk_lEQ (by omega) (by omega))
    refine bk_M_microsecond_2 ?_
    simp (disch := first | decide | assumption | omega) only [hQ.t, hQ.r, hQ.a0, hQ.a1, hQ.a2, hQ.a3, hQ.si, hQ.sl, hQ.l15, hQ.i1, hQ.v1, hQ.l1, hQ.i5, hQ.v5, hQ.l5, hQ.i3, hQ.v3, hQ.l3, hQ.i2, hQ.v2, hQ.l2, hQ.i4, hQ.v4, hQ.l4, Option.some.injEq, exists_eq_left', nI_clamp, nI_1, mj_vin, true_and, eq_self, e32, e33, e34, e43, mj_le, eqL]
    refine ⟨fun q => absurd q (by omega), fun _ => ⟨fun q => nx μ ?_ e1 e2, fun q => ⟨_, rc_begin hQ.1 hB (σ 33 k) v33 (by have := hbd 13 (σ 33 k); omega), fun μ2 hP r1 r2 => nx μ2 ?_ (r1.trans e1) (r2.trans e2)⟩⟩⟩
    · unfold sp_al
      rw [if_neg q]
      exact hQ
    · unfold sp_al
      rw [if_pos q]
      exact hQ.trans hP
theorem rl_ins (hF : sp_Fam C P) (hC : C ≤ 8) (c : Nat) (hc : c < C) : ∀ f n τ s μ, P n τ → n < f → (s = 0 ∨ s = 1) → rf_Q m A τ μ0 μ → mj_nc μ = mj_nc μ0 → mj_ns μ = mj_ns μ0 →
    (∀ μ', rf_Q m A (sp_ins c f τ s).1 μ0 μ' → mj_nc μ' = mj_nc μ0 → mj_ns μ' = mj_ns μ0 → mj_J G mY_M_microsecond Ex N S 50 [(0, va_rf (some m)), (1, .int (nI (sp_ins c f τ s).2)), (2, .int (nI (c + 1)))] [] μ') →
    mj_J G mY_M_microsecond Ex N S 58 [(0, va_rf (some m)), (1, .int (nI s)), (2, .int (nI c))] [] μ := by
  intro f
  induction f with
  | zero => exact fun n τ s μ _ h => absurd h (by omega)
  | succ f ih =>
    intro n τ s μ hp hn hs hQ e1 e2 he
    obtain ⟨h0, b, hbd, hb, hb2, hV⟩ := hF.1 n τ hp
    refine bk_M_microsecond_58 ⟨hQ.t, _, rc_step hQ.1 hbd hb hb2 hV c (by omega), fun x μ2 hP r1 r2 => ?_⟩
    obtain ⟨hx, hP⟩ := hP
    subst hx
    have hP := hQ.trans hP
    have h01 := sp_step_01 τ c
    unfold sp_ins at he
    refine bk_M_microsecond_63 ?_
    rw [mj_z0 (by omega), nI_1]
    refine ⟨fun q => ?_, fun q => bk_M_microsecond_68 ?_⟩
    · rw [if_pos q] at he
      exact he μ2 hP (r1.trans e1) (r2.trans e2)
    · rw [if_neg q] at he
      obtain ⟨n1, hn1, hp1⟩ := hF.2.2 n τ c hp hc q
      exact ih n1 _ 1 μ2 hp1 (by omega) (Or.inr rfl) hP (r1.trans e1) (r2.trans e2) he
theorem rl_row (hF : sp_Fam C P) (hC : C ≤ 8) {f n : Nat} (hp : P n σ) (hn : n < f)
    (he : ∀ μ', rf_Q m A (sp_row f σ C).1 μ0 μ' → mj_nc μ' = mj_nc μ0 → mj_ns μ' = mj_ns μ0 → mj_J G mY_M_microsecond Ex N S 42 [(0, va_rf (some m)), (1, .int (nI (sp_row f σ C).2))] [] μ') :
    ∀ d c μ, c + d = C → rf_Q m A (sp_row f σ c).1 μ0 μ → mj_nc μ = mj_nc μ0 → mj_ns μ = mj_ns μ0 → mj_J G mY_M_microsecond Ex N S 50 [(0, va_rf (some m)), (1, .int (nI (sp_row f σ c).2)), (2, .int (nI c))] [] μ := by
  intro d
  induction d with
  | zero =>
    intro c μ hc hQ e1 e2
    have : c = C := by omega
    subst this
    obtain ⟨n1, -, h2, -⟩ := hF.row hp hn c (Nat.le_refl c)
    have h0 := (hF.1 _ _ h2).1
    refine bk_M_microsecond_50 ?_
    simp (disch := first | decide | assumption | omega) only [hQ.t, hQ.r, hQ.a0, hQ.a1, hQ.a2, hQ.a3, hQ.si, hQ.sl, hQ.l15, hQ.i1, hQ.v1, hQ.l1, hQ.i5, hQ.v5, hQ.l5, hQ.i3, hQ.v3, hQ.l3, hQ.i2, hQ.v2, hQ.l2, hQ.i4, hQ.v4, hQ.l4, Option.some.injEq, exists_eq_left', nI_clamp, nI_1, mj_vin, true_and, eq_self, h0, mj_le]
    exact ⟨fun _ => he μ hQ e1 e2, fun q => absurd (by omega) q⟩
  | succ d ih =>
    intro c μ hc hQ e1 e2
    obtain ⟨n1, hn1, h2, -⟩ := hF.row hp hn c (by omega)
    have h0 := (hF.1 _ _ h2).1
    refine bk_M_microsecond_50 ?_
    simp (disch := first | decide | assumption | omega) only [hQ.t, hQ.r, hQ.a0, hQ.a1, hQ.a2, hQ.a3, hQ.si, hQ.sl, hQ.l15, hQ.i1, hQ.v1, hQ.l1, hQ.i5, hQ.v5, hQ.l5, hQ.i3, hQ.v3, hQ.l3, hQ.i2, hQ.v2, hQ.l2, hQ.i4, hQ.v4, hQ.l4, Option.some.injEq, exists_eq_left', nI_clamp, nI_1, mj_vin, true_and, eq_self, h0, mj_le]
    exact ⟨fun q => absurd q (by omega), fun _ => rl_ins hF hC c (by omega) f n1 _ _ μ h2 (by omega) (sp_row_01 f σ c) hQ e1 e2 (fun μ' hP r1 r2 => ih (c + 1) μ' (by omega) hP r1 r2)⟩
theorem rl_rounds (hF : sp_Fam C P) (hC : C ≤ 8) (F : Nat) : ∀ f n τ μ, P n τ → n < f → n < F → rf_Q m A τ μ0 μ → mj_nc μ = mj_nc μ0 → mj_ns μ = mj_ns μ0 →
    (∀ μ', rf_Q m A (sp_rounds F C f τ) μ0 μ' → mj_nc μ' = mj_nc μ0 → mj_ns μ' = mj_ns μ0 → mj_J G mY_M_microsecond Ex N S 42 [(0, va_rf (some m)), (1, .int 0)] [] μ') →
    mj_J G mY_M_microsecond Ex N S 42 [(0, va_rf (some m)), (1, .int 1)] [] μ := by
  intro f
  induction f with
  | zero => exact fun n τ μ _ h => absurd h (by omega)
  | succ f ih =>
    intro n τ μ hp hn hn2 hQ e1 e2 he
    obtain ⟨n1, hn1, h2, h3⟩ := hF.row hp hn2 C (Nat.le_refl C)
    refine bk_M_microsecond_42 ⟨fun q => absurd q (by decide), fun _ => bk_M_microsecond_48 ?_⟩
    refine rl_row hF hC hp hn2 (fun μ' hP r1 r2 => ?_) C 0 μ (by omega) hQ e1 e2
    have h01 := sp_row_01 F τ C
    unfold sp_rounds at he
    rcases h01 with h01 | h01
    · rw [if_pos h01] at he
      rw [h01]
      exact he μ' hP r1 r2
    · rw [if_neg (by omega)] at he
      rw [h01]
      exact ih n1 _ μ' h2 (by omega) (by omega) hP r1 r2 he
end RJ
