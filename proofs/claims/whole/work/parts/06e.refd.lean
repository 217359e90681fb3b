/-- does a task hold something (0 or 1): resources up to n; locks up to n behind them -/
def sp_hr (σ : ss_S) (t : Nat) : Nat → Nat
  | 0 => 0
  | n + 1 => if sp_hr σ t n ≠ 0 ∨ σ 22 (n + 1) = t then 1 else 0
def sp_hl (σ : ss_S) (t : Nat) : Nat → Nat
  | 0 => sp_hr σ t 32
  | n + 1 => if sp_hl σ t n ≠ 0 ∨ σ 25 (n + 1) = t then 1 else 0
def sp_holds (σ : ss_S) (t : Nat) : Nat := sp_hl σ t 16
theorem sp_hr_le (σ : ss_S) (t : Nat) : ∀ n, sp_hr σ t n = 0 ∨ sp_hr σ t n = 1 := by
  intro n
  cases n with
  | zero => exact Or.inl rfl
  | succ n =>
    unfold sp_hr
    split
    · exact Or.inr rfl
    · exact Or.inl rfl
theorem sp_hl_le (σ : ss_S) (t : Nat) : ∀ n, sp_hl σ t n = 0 ∨ sp_hl σ t n = 1 := by
  intro n
  cases n with
  | zero => exact sp_hr_le σ t 32
  | succ n =>
    unfold sp_hl
    split
    · exact Or.inr rfl
    · exact Or.inl rfl
theorem sp_fst_le (σ : ss_S) (l : Nat) : ∀ n, sp_fst σ l n ≤ n := by
  intro n
  induction n with
  | zero => exact Nat.le_refl 0
  | succ n ih =>
    unfold sp_fst
    split
    · exact Nat.le_refl _
    · omega
theorem sp_fst_u (σ : ss_S) (l f i v : Nat) (h : f ≠ 26 ∧ f ≠ 27) : ∀ n, sp_fst (ss_u σ f i v) l n = sp_fst σ l n := by
  intro n
  induction n with
  | zero => rfl
  | succ n ih =>
    unfold sp_fst
    rw [ih, ss_uf _ _ _ _ (Ne.symm h.1), ss_uf _ _ _ _ (Ne.symm h.2), ss_uf _ _ _ _ (Ne.symm h.2)]
theorem sp_hand_le (σ : ss_S) : ∀ n, sp_hand σ n ≤ n := by
  intro n
  induction n with
  | zero => exact Nat.le_refl 0
  | succ n ih =>
    unfold sp_hand
    split
    · exact Nat.le_refl _
    · omega
theorem mj_c6 : (6 : Int32) = nI 6 := rfl
theorem mj_c7 : (7 : Int32) = nI 7 := rfl
theorem mj_c16 : (16 : Int32) = nI 16 := rfl
theorem mj_c32 : (32 : Int32) = nI 32 := rfl
theorem mj_LT {a b : Nat} (ha : a < 2 ^ 63) (hb : b < 2 ^ 63) : (lN a < lN b) = (a < b) := propext (pk_lLT ha hb)
theorem mj_LE {a b : Nat} (ha : a < 2 ^ 63) (hb : b < 2 ^ 63) : (lN a ≤ lN b) = (a ≤ b) := propext (pk_lLE ha hb)
theorem mj_LE0 {a : Nat} (ha : a < 2 ^ 63) : (lN a ≤ 0) = (a = 0) := by
  rw [show (0 : Int64) = lN 0 from rfl, mj_LE ha (by decide)]
  apply propext
  omega
section RD
variable {G : mj_G} {m : Nat} {A : Nat → Nat} {σ : ss_S} {μ : mj_MM}
theorem rl_unlock (hR : rf_R m A σ μ) (hB : sp_B σ) (hT : σ 1 0 ≤ 100) (l : Nat) (hl : l < 17) {Ex : Option Value → mj_MM → Prop} {N S : Nat}
    (he0 : sp_fst σ l (σ 1 0) = 0 → Ex none μ) (he1 : sp_fst σ l (σ 1 0) ≠ 0 → ∀ μ', rf_Q m A (ss_u (ss_u (ss_u σ 25 l (sp_fst σ l (σ 1 0))) 26 (sp_fst σ l (σ 1 0)) 0) 14 (sp_fst σ l (σ 1 0)) (σ 14 (sp_fst σ l (σ 1 0)) + 1)) μ μ' → mj_nc μ' = mj_nc μ → mj_ns μ' = mj_ns μ → Ex none μ') :
    ∀ d n, n + d = σ 1 0 → mj_J G mY_M_unlock Ex N S 11 [(0, va_rf (some m)), (1, .int (nI l)), (2, .int (nI (sp_fst σ l n))), (3, .int (nI (n + 1)))] [] μ := by
  have hQ := hR.self
  intro d
  induction d with
  | zero =>
    intro n hn
    have : n = σ 1 0 := by omega
    subst this
    have hf := sp_fst_le σ l (σ 1 0)
    refine bk_M_unlock_11 ?_
    generalize sp_fst σ l (σ 1 0) = f at he0 he1 hf ⊢
    have hf1 : f < 101 := by omega
    have h3 := (((hQ.pI 25 l f (by decide) hl).pI 26 f 0 (by decide) hf1))
    simp (disch := first | decide | assumption | omega) only [hQ.t, hQ.r, hQ.a0, hQ.a1, hQ.a2, hQ.a3, hQ.si, hQ.sl, hQ.l15, hQ.i1, hQ.v1, hQ.l1, hQ.i5, hQ.v5, hQ.l5, hQ.i3, hQ.v3, hQ.l3, hQ.i2, hQ.v2, hQ.l2, hQ.i4, hQ.v4, hQ.l4, Option.some.injEq, exists_eq_left', nI_clamp, nI_1, mj_vin, true_and, eq_self, mj_lt, mj_z0]
    refine ⟨fun _ => ⟨fun h => ?_, fun h => he0 h⟩, fun h => absurd (by omega) h⟩
    rw [show (0 : Int32) = nI 0 from rfl]
    simp (disch := first | decide | assumption | omega) only [h3.t, h3.r, h3.a0, h3.a1, h3.a2, h3.a3, h3.si, h3.sl, h3.l15, h3.i1, h3.v1, h3.l1, h3.i5, h3.v5, h3.l5, h3.i3, h3.v3, h3.l3, h3.i2, h3.v2, h3.l2, h3.i4, h3.v4, h3.l4, Option.some.injEq, exists_eq_left', nI_clamp, nI_1, mj_vin, true_and, eq_self]
    exact he1 h _ (h3.pI 14 f _ (by decide) hf1) rfl rfl
  | succ d ih =>
    intro n hn
    have b1 := hB 26 (n + 1)
    have b2 := hB 27 (n + 1)
    have b3 := hB 27 (sp_fst σ l n)
    have hf := sp_fst_le σ l n
    have n1 := ih (n + 1) (by omega)
    refine bk_M_unlock_11 ?_
    simp (disch := first | decide | assumption | omega) only [hQ.t, hQ.r, hQ.a0, hQ.a1, hQ.a2, hQ.a3, hQ.si, hQ.sl, hQ.l15, hQ.i1, hQ.v1, hQ.l1, hQ.i5, hQ.v5, hQ.l5, hQ.i3, hQ.v3, hQ.l3, hQ.i2, hQ.v2, hQ.l2, hQ.i4, hQ.v4, hQ.l4, Option.some.injEq, exists_eq_left', nI_clamp, nI_1, mj_vin, true_and, eq_self, mj_zz, mj_z0, mj_lt, mj_LE]
    refine ⟨fun h => absurd h (by omega), fun _ => ?_⟩
    unfold sp_fst at n1
    refine ⟨fun h => ?_, fun h => ⟨fun h2 => ?_, fun h2 => ⟨fun h3 => ?_, fun h3 => ?_⟩⟩⟩
    · rw [if_neg (fun q => h q.1)] at n1
      exact n1
    · rw [if_pos ⟨h, Or.inl h2⟩] at n1
      exact n1
    · rw [if_neg (fun q => by rcases q.2 with q | q <;> omega)] at n1
      exact n1
    · rw [if_pos ⟨h, Or.inr (by omega)⟩] at n1
      exact n1
theorem rc_unlock (hR : rf_R m A σ μ) (hB : sp_B σ) (hT : σ 1 0 ≤ 100) (l : Nat) (hl : l < 17) : rc_V G my_M_unlock mY_M_unlock m A μ [.int (nI l)] (sp_unlock σ l) := by
  have hQ := hR.self
  refine mj_of (by decide) rfl (by decide) (Nat.le_of_ble_eq_true rfl) rfl ⟨Nat.le_refl _, Nat.le_refl _⟩ ?_
  refine bk_M_unlock_0 ?_
  simp (disch := first | decide | assumption | omega) only [hQ.t, hQ.r, hQ.a0, hQ.a1, hQ.a2, hQ.a3, hQ.si, hQ.sl, hQ.l15, hQ.i1, hQ.v1, hQ.l1, hQ.i5, hQ.v5, hQ.l5, hQ.i3, hQ.v3, hQ.l3, hQ.i2, hQ.v2, hQ.l2, hQ.i4, hQ.v4, hQ.l4, Option.some.injEq, exists_eq_left', nI_clamp, nI_1, mj_vin, true_and, eq_self]
  rw [show (0 : Int32) = nI 0 from rfl]
  have hQ2 := hQ.pI 25 l 0 (by decide) hl
  have hB2 : sp_B (ss_u σ 25 l 0) := by
    intro f i
    unfold ss_u
    split
    · split
      · decide
      · exact hB f i
    · exact hB f i
  have ef : sp_fst (ss_u σ 25 l 0) l (ss_u σ 25 l 0 1 0) = sp_fst σ l (σ 1 0) := sp_fst_u σ l 25 l 0 (by decide) _
  refine rl_unlock hQ2.1 hB2 hT l hl (fun h => ?_) (fun h μ' hP e1 e2 => ?_) (σ 1 0) 0 (by show 0 + σ 1 0 = σ 1 0; omega)
  · rw [ef] at h
    unfold sp_unlock
    rw [if_pos h]
    exact ⟨⟨rfl, hQ2⟩, rfl, rfl⟩
  · rw [ef] at h hP
    unfold sp_unlock
    rw [if_neg h]
    exact ⟨⟨rfl, hQ2.trans hP⟩, e1, e2⟩
theorem rl_holdsA (hR : rf_R m A σ μ) (hB : sp_B σ) (t : Nat) (ht : t < 101) {Ex : Option Value → mj_MM → Prop} {N S : Nat} (he : Ex (some (.int (nI (sp_holds σ t)))) μ) :
    ∀ d n, n + d = 16 → mj_J G mY_M_holdsSome Ex N S 38 [(0, va_rf (some m)), (1, .int (nI t)), (2, .int (nI (sp_hl σ t n))), (3, .int (nI (n + 1)))] [] μ := by
  have hQ := hR.self
  intro d
  induction d with
  | zero =>
    intro n hn
    have : n = 16 := by omega
    subst this
    refine bk_M_holdsSome_38 ⟨fun _ => ⟨?_, he⟩, fun h => absurd (by decide) h⟩
    rcases sp_hl_le σ t 16 with h | h
    · left; rw [h]; rfl
    · right; rw [h]; rfl
  | succ d ih =>
    intro n hn
    have h1 : ¬ (16 : Int32) < nI (n + 1) := fun q => by
      have := (nI_ltI (a := 16) (by decide) (by omega)).mp q
      omega
    have b1 := hB 25 (n + 1)
    have n1 := ih (n + 1) (by omega)
    refine bk_M_holdsSome_38 ⟨fun h => absurd h h1, fun _ => ?_⟩
    unfold sp_hl at n1
    have hb := sp_hl_le σ t n
    generalize sp_hl σ t n = x at n1 hb ⊢
    simp (disch := first | decide | assumption | omega) only [hQ.t, hQ.r, hQ.a0, hQ.a1, hQ.a2, hQ.a3, hQ.si, hQ.sl, hQ.l15, hQ.i1, hQ.v1, hQ.l1, hQ.i5, hQ.v5, hQ.l5, hQ.i3, hQ.v3, hQ.l3, hQ.i2, hQ.v2, hQ.l2, hQ.i4, hQ.v4, hQ.l4, Option.some.injEq, exists_eq_left', nI_clamp, nI_1, mj_vin, true_and, eq_self, mj_zz, mj_z0]
    refine ⟨fun h => ?_, fun h => ⟨fun h2 => ?_, fun h2 => ?_⟩⟩
    · rw [if_pos (Or.inl h)] at n1
      exact n1
    · rw [if_neg (fun q => by rcases q with q | q; exact q h; exact h2 q)] at n1
      exact n1
    · rw [if_pos (Or.inr h2)] at n1
      exact n1
theorem rl_holdsB (hR : rf_R m A σ μ) (hB : sp_B σ) (t : Nat) (ht : t < 101) {Ex : Option Value → mj_MM → Prop} {N S : Nat} (he : Ex (some (.int (nI (sp_holds σ t)))) μ) :
    ∀ d n, n + d = 32 → mj_J G mY_M_holdsSome Ex N S 4 [(0, va_rf (some m)), (1, .int (nI t)), (2, .int (nI (sp_hr σ t n))), (3, .int (nI (n + 1)))] [] μ := by
  have hQ := hR.self
  intro d
  induction d with
  | zero =>
    intro n hn
    have : n = 32 := by omega
    subst this
    exact bk_M_holdsSome_4 ⟨fun _ => rl_holdsA hR hB t ht he 16 0 rfl, fun h => absurd (by decide) h⟩
  | succ d ih =>
    intro n hn
    have h1 : ¬ (32 : Int32) < nI (n + 1) := fun q => by
      have := (nI_ltI (a := 32) (by decide) (by omega)).mp q
      omega
    have b1 := hB 22 (n + 1)
    have n1 := ih (n + 1) (by omega)
    refine bk_M_holdsSome_4 ⟨fun h => absurd h h1, fun _ => ?_⟩
    unfold sp_hr at n1
    have hb := sp_hr_le σ t n
    generalize sp_hr σ t n = x at n1 hb ⊢
    simp (disch := first | decide | assumption | omega) only [hQ.t, hQ.r, hQ.a0, hQ.a1, hQ.a2, hQ.a3, hQ.si, hQ.sl, hQ.l15, hQ.i1, hQ.v1, hQ.l1, hQ.i5, hQ.v5, hQ.l5, hQ.i3, hQ.v3, hQ.l3, hQ.i2, hQ.v2, hQ.l2, hQ.i4, hQ.v4, hQ.l4, Option.some.injEq, exists_eq_left', nI_clamp, nI_1, mj_vin, true_and, eq_self, mj_zz, mj_z0]
    refine ⟨fun h => ?_, fun h => ⟨fun h2 => ?_, fun h2 => ?_⟩⟩
    · rw [if_pos (Or.inl h)] at n1
      exact n1
    · rw [if_neg (fun q => by rcases q with q | q; exact q h; exact h2 q)] at n1
      exact n1
    · rw [if_pos (Or.inr h2)] at n1
      exact n1
theorem rc_holdsSome (hR : rf_R m A σ μ) (hB : sp_B σ) (t : Nat) (ht : t < 101) : rc_I G my_M_holdsSome mY_M_holdsSome m A μ [.int (nI t)] (nI (sp_holds σ t)) σ := by
  have hQ := hR.self
  refine mj_of (by decide) rfl (by decide) (Nat.le_of_ble_eq_true rfl) rfl ⟨Nat.le_refl _, Nat.le_refl _⟩ ?_
  refine bk_M_holdsSome_0 ?_
  exact rl_holdsB hR hB t ht ⟨⟨_, rfl, rfl, hQ⟩, rfl, rfl⟩ 32 0 rfl
theorem rl_nextPart (hR : rf_R m A σ μ) (hB : sp_B σ) (hP : σ 7 0 ≤ 500) (t : Nat) (ht : t < 101) {Ex : Option Value → mj_MM → Prop} {N S : Nat}
    (he0 : sp_next σ t = none → Ex (some (.int (-1))) μ) (he1 : ∀ k, sp_next σ t = some k → Ex (some (.int (nI k))) μ) :
    ∀ d k n, k + d = σ 7 0 → n ≤ σ 14 t → n ≤ k → sp_nth σ t d k (σ 14 t - n) = sp_next σ t → mj_J G mY_M_nextPart Ex N S 4 [(0, va_rf (some m)), (1, .int (nI t)), (2, .int (nI n)), (3, .int (nI k))] [] μ := by
  have hQ := hR.self
  intro d
  induction d with
  | zero =>
    intro k n hk hn hnk h
    have : k = σ 7 0 := by omega
    subst this
    refine bk_M_nextPart_4 ?_
    simp (disch := first | decide | assumption | omega) only [hQ.t, hQ.r, hQ.a0, hQ.a1, hQ.a2, hQ.a3, hQ.si, hQ.sl, hQ.l15, hQ.i1, hQ.v1, hQ.l1, hQ.i5, hQ.v5, hQ.l5, hQ.i3, hQ.v3, hQ.l3, hQ.i2, hQ.v2, hQ.l2, hQ.i4, hQ.v4, hQ.l4, Option.some.injEq, exists_eq_left', nI_clamp, nI_1, mj_vin, true_and, eq_self, mj_le]
    refine ⟨fun _ => he0 (by rw [← h]; rfl), fun h => absurd (by omega) h⟩
  | succ d ih =>
    intro k n hk hn hnk h
    have b1 := hB 8 k
    have b2 := hB 14 t
    refine bk_M_nextPart_4 ?_
    simp (disch := first | decide | assumption | omega) only [hQ.t, hQ.r, hQ.a0, hQ.a1, hQ.a2, hQ.a3, hQ.si, hQ.sl, hQ.l15, hQ.i1, hQ.v1, hQ.l1, hQ.i5, hQ.v5, hQ.l5, hQ.i3, hQ.v3, hQ.l3, hQ.i2, hQ.v2, hQ.l2, hQ.i4, hQ.v4, hQ.l4, Option.some.injEq, exists_eq_left', nI_clamp, nI_1, mj_vin, true_and, eq_self, mj_zz, mj_le]
    refine ⟨fun h => absurd h (by omega), fun _ => ?_⟩
    unfold sp_nth at h
    refine ⟨fun h2 => ?_, fun h2 => ⟨fun h3 => ?_, fun h3 => ?_⟩⟩
    · rw [if_neg h2] at h
      exact ih (k + 1) n (by omega) hn (by omega) h
    · rw [if_pos h2, if_neg (by omega)] at h
      exact ih (k + 1) (n + 1) (by omega) (by omega) (by omega) (by rw [← h, Nat.sub_sub])
    · rw [if_pos h2, if_pos (by omega)] at h
      exact he1 k h.symm
theorem rc_nextPart (hR : rf_R m A σ μ) (hB : sp_B σ) (hP : σ 7 0 ≤ 500) (t : Nat) (ht : t < 101) : rc_I G my_M_nextPart mY_M_nextPart m A μ [.int (nI t)] (match sp_next σ t with | none => -1 | some k => nI k) σ := by
  have hQ := hR.self
  refine mj_of (by decide) rfl (by decide) (Nat.le_of_ble_eq_true rfl) rfl ⟨Nat.le_refl _, Nat.le_refl _⟩ ?_
  refine bk_M_nextPart_0 ?_
  exact rl_nextPart hR hB hP t ht (fun h => ⟨⟨_, rfl, by rw [h], hQ⟩, rfl, rfl⟩) (fun k h => ⟨⟨_, rfl, by rw [h], hQ⟩, rfl, rfl⟩) (σ 7 0) 0 0 (by omega) (Nat.zero_le _) (Nat.le_refl 0) rfl
theorem rl_atHand (hR : rf_R m A σ μ) (hB : sp_B σ) (hI : σ 35 0 ≤ 500) {Ex : Option Value → mj_MM → Prop} {N S : Nat} (he : Ex (some (.int (nI (sp_atHand σ) - 1))) μ) :
    ∀ d n, n + d = σ 35 0 → mj_J G mY_M_atHand Ex N S 4 [(0, va_rf (some m)), (1, .int (nI (sp_hand σ n) - 1)), (2, .int (nI n))] [] μ := by
  have hQ := hR.self
  intro d
  induction d with
  | zero =>
    intro n hn
    have : n = σ 35 0 := by omega
    subst this
    refine bk_M_atHand_4 ?_
    simp (disch := first | decide | assumption | omega) only [hQ.t, hQ.r, hQ.a0, hQ.a1, hQ.a2, hQ.a3, hQ.si, hQ.sl, hQ.l15, hQ.i1, hQ.v1, hQ.l1, hQ.i5, hQ.v5, hQ.l5, hQ.i3, hQ.v3, hQ.l3, hQ.i2, hQ.v2, hQ.l2, hQ.i4, hQ.v4, hQ.l4, Option.some.injEq, exists_eq_left', nI_clamp, nI_1, mj_vin, true_and, eq_self, mj_le]
    exact ⟨fun _ => he, fun h => absurd (by omega) h⟩
  | succ d ih =>
    intro n hn
    have b1 := hB 37 n
    have b2 := hB 38 n
    have b3 := hB 36 n
    have b4 := hB 29 0
    have b5 := hB 43 0
    have hf := sp_hand_le σ n
    have n1 := ih (n + 1) (by omega)
    refine bk_M_atHand_4 ?_
    unfold sp_hand at n1
    have key : nI (n + 1) - 1 = nI n := nI_pred n
    rcases Nat.eq_zero_or_pos (sp_hand σ n) with h0 | h0
    · rw [h0] at n1 ⊢
      have e0 : (nI 0 - 1 < 0) = True := eq_true (by decide)
      simp (disch := first | decide | assumption | omega) only [hQ.t, hQ.r, hQ.a0, hQ.a1, hQ.a2, hQ.a3, hQ.si, hQ.sl, hQ.l15, hQ.i1, hQ.v1, hQ.l1, hQ.i5, hQ.v5, hQ.l5, hQ.i3, hQ.v3, hQ.l3, hQ.i2, hQ.v2, hQ.l2, hQ.i4, hQ.v4, hQ.l4, Option.some.injEq, exists_eq_left', nI_clamp, nI_1, mj_vin, true_and, eq_self, mj_z0, mj_le, mj_LT, mj_LE0, e0, mj_c7, mj_lt]
      refine ⟨fun h => absurd h (by omega), fun _ => ⟨fun h => ?_, fun h => ⟨fun h2 => ?_, fun h2 => ⟨fun h3 => ⟨fun _ => ?_, fun h => absurd trivial h⟩, fun h3 => ⟨fun h4 => ?_, fun h4 => ⟨fun _ => ?_, fun h => absurd trivial h⟩⟩⟩⟩⟩⟩
      · rw [if_neg (fun q => by omega)] at n1
        exact n1
      · rw [if_neg (fun q => by omega)] at n1
        exact n1
      · rw [if_pos ⟨⟨by omega, by omega, Or.inl h3⟩, Or.inl rfl⟩, key] at n1
        exact n1
      · rw [if_neg (fun q => by omega)] at n1
        exact n1
      · rw [if_pos ⟨⟨by omega, by omega, Or.inr h4⟩, Or.inl rfl⟩, key] at n1
        exact n1
    · obtain ⟨g, hg⟩ : ∃ g, sp_hand σ n = g + 1 := ⟨sp_hand σ n - 1, by omega⟩
      rw [hg] at n1 hf ⊢
      rw [show g + 1 - 1 = g from rfl] at n1
      have b6 := hB 36 g
      have e0 : (nI g < 0) = False := eq_false (nI_pos (by omega))
      rw [nI_pred]
      simp (disch := first | decide | assumption | omega) only [hQ.t, hQ.r, hQ.a0, hQ.a1, hQ.a2, hQ.a3, hQ.si, hQ.sl, hQ.l15, hQ.i1, hQ.v1, hQ.l1, hQ.i5, hQ.v5, hQ.l5, hQ.i3, hQ.v3, hQ.l3, hQ.i2, hQ.v2, hQ.l2, hQ.i4, hQ.v4, hQ.l4, Option.some.injEq, exists_eq_left', nI_clamp, nI_1, mj_vin, true_and, eq_self, mj_z0, mj_le, mj_LT, mj_LE0, e0, mj_c7, mj_lt]
      refine ⟨fun h => absurd h (by omega), fun _ => ⟨fun h => ?_, fun h => ⟨fun h2 => ?_, fun h2 => ⟨fun h3 => ⟨fun h => h.elim, fun _ => ⟨fun h4 => ?_, fun h4 => ?_⟩⟩, fun h3 => ⟨fun h4 => ?_, fun h4 => ⟨fun h => h.elim, fun _ => ⟨fun h5 => ?_, fun h5 => ?_⟩⟩⟩⟩⟩⟩⟩
      · rw [if_neg (fun q => by omega), nI_pred] at n1
        exact n1
      · rw [if_neg (fun q => by omega), nI_pred] at n1
        exact n1
      · rw [if_neg (fun q => by omega), nI_pred] at n1
        exact n1
      · rw [if_pos ⟨⟨by omega, by omega, Or.inl h3⟩, Or.inr (by omega)⟩, key] at n1
        exact n1
      · rw [if_neg (fun q => by omega), nI_pred] at n1
        exact n1
      · rw [if_neg (fun q => by omega), nI_pred] at n1
        exact n1
      · rw [if_pos ⟨⟨by omega, by omega, Or.inr h4⟩, Or.inr (by omega)⟩, key] at n1
        exact n1
theorem rc_atHand (hR : rf_R m A σ μ) (hB : sp_B σ) (hI : σ 35 0 ≤ 500) : rc_I G my_M_atHand mY_M_atHand m A μ [] (nI (sp_atHand σ) - 1) σ := by
  have hQ := hR.self
  refine mj_of (by decide) rfl (by decide) (Nat.le_of_ble_eq_true rfl) rfl ⟨Nat.le_refl _, Nat.le_refl _⟩ ?_
  refine bk_M_atHand_0 ?_
  exact rl_atHand hR hB hI ⟨⟨_, rfl, rfl, hQ⟩, rfl, rfl⟩ (σ 35 0) 0 (by omega)
end RD
