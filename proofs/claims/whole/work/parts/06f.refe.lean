/-! bounds -/
def sp_Bd (b : Nat) (σ : ss_S) : Prop := ∀ f i, σ f i < b
section BD
variable {b : Nat} {σ : ss_S}
theorem sp_Bd.u (h : sp_Bd b σ) (f i : Nat) {v : Nat} (hv : v < b) : sp_Bd b (ss_u σ f i v) := by
  intro g j
  unfold ss_u
  split
  · split
    · exact hv
    · exact h g j
  · exact h g j
theorem sp_Bd.mono {b' : Nat} (h : sp_Bd b σ) (hb : b ≤ b') : sp_Bd b' σ := fun f i => Nat.lt_of_lt_of_le (h f i) hb
theorem sp_Bd.B (h : sp_Bd b σ) (hb : b ≤ 2 ^ 31) : sp_B σ := fun f i => Nat.lt_of_lt_of_le (h f i) hb
theorem sp_Bd.tell (h : sp_Bd b σ) {c t : Nat} (hc : c < b) (ht : t < b) : sp_Bd (b + 1) (sp_tell σ c t) := by
  have h1 := h.mono (Nat.le_succ b)
  have h2 := h 39 0
  have h3 := h 43 0
  unfold sp_tell
  split
  · exact (((h1.u 40 _ (by omega)).u 41 _ (by omega)).u 42 _ (by omega)).u 39 0 (by omega)
  · exact h1.u 39 0 (by omega)
theorem sp_Bd.ready (h : sp_Bd b σ) (hb : 1000 ≤ b) (t : Nat) : sp_Bd (b + 1) (sp_ready σ t) := by
  have h1 := h.mono (Nat.le_succ b)
  have h2 := h 21 0
  exact ((h1.u 21 0 (by omega)).u 12 t (by omega)).u 11 t (by omega)
theorem sp_Bd.begin (h : sp_Bd b σ) (hb : 1000 ≤ b) {t : Nat} (ht : t < 101) : sp_Bd (b + 1) (sp_begin σ t) := by
  have h1 := h.mono (Nat.le_succ b)
  have h2 := h 13 t
  unfold sp_begin
  split
  · exact ((((h.ready hb t).u 17 t (by omega)).u 14 t (by omega)).u 15 t (by omega)).u 16 t (by omega)
  · split
    · exact h1.u 13 t (by omega)
    · exact h.tell (by omega) (by omega)
theorem sp_Bd.unlock (h : sp_Bd b σ) (hb : 1000 ≤ b) (hT : σ 1 0 ≤ 100) (l : Nat) : sp_Bd (b + 1) (sp_unlock σ l) := by
  have h1 := h.mono (Nat.le_succ b)
  have hf := sp_fst_le σ l (σ 1 0)
  have h2 := h 14 (sp_fst σ l (σ 1 0))
  unfold sp_unlock
  split
  · exact h1.u 25 l (by omega)
  · exact (((h1.u 25 l (by omega)).u 25 l (by omega)).u 26 _ (by omega)).u 14 _ (by omega)
end BD
/-- resources up to n given back (every place is written) -/
def sp_frR (σ : ss_S) (t : Nat) : Nat → ss_S
  | 0 => σ
  | n + 1 => ss_u (sp_frR σ t n) 22 (n + 1) (if sp_frR σ t n 22 (n + 1) = t then 0 else sp_frR σ t n 22 (n + 1))
def sp_fr2 (σ : ss_S) (t : Nat) : ss_S := sp_freeL (sp_frR σ t 32) t 16
def sp_fr3 (σ : ss_S) (t : Nat) : ss_S := ss_u (sp_fr2 σ t) 29 0 (if sp_fr2 σ t 29 0 = t then 0 else sp_fr2 σ t 29 0)
def sp_held (σ : ss_S) (t : Nat) : Nat := if sp_holds σ t ≠ 0 ∨ σ 29 0 = t then 1 else 0
def sp_fr4 (σ : ss_S) (t : Nat) : ss_S := if sp_held σ t ≠ 0 then sp_tell (sp_fr3 σ t) 3 t else sp_fr3 σ t
def sp_free (σ : ss_S) (t : Nat) : ss_S := ss_u (ss_u (sp_fr4 σ t) 11 t 0) 19 t 0
def sp_ends (σ : ss_S) (t : Nat) : ss_S := if sp_free σ t 13 t = 0 then sp_free σ t else sp_begin (ss_u (sp_free σ t) 13 t (sp_free σ t 13 t - 1)) t
section FR
variable {b : Nat} {σ : ss_S}
theorem sp_frR_f (σ : ss_S) (t g j : Nat) (h : g ≠ 22) : ∀ n, sp_frR σ t n g j = σ g j := by
  intro n
  induction n with
  | zero => rfl
  | succ n ih =>
    unfold sp_frR
    rw [ss_uf _ _ _ _ h, ih]
theorem sp_unlock_f (σ : ss_S) (l g j : Nat) (h : g ≠ 25 ∧ g ≠ 26 ∧ g ≠ 14) : sp_unlock σ l g j = σ g j := by
  unfold sp_unlock
  split
  · rw [ss_uf _ _ _ _ h.1]
  · rw [ss_uf _ _ _ _ h.2.2, ss_uf _ _ _ _ h.2.1, ss_uf _ _ _ _ h.1, ss_uf _ _ _ _ h.1]
theorem sp_freeL_f (σ : ss_S) (t g j : Nat) (h : g ≠ 25 ∧ g ≠ 26 ∧ g ≠ 14) : ∀ n, sp_freeL σ t n g j = σ g j := by
  intro n
  induction n with
  | zero => rfl
  | succ n ih =>
    unfold sp_freeL
    split
    · rw [sp_unlock_f _ _ _ _ h, ih]
    · exact ih
theorem sp_tell_f (σ : ss_S) (c t g j : Nat) (h : g ≠ 39 ∧ g ≠ 40 ∧ g ≠ 41 ∧ g ≠ 42) : sp_tell σ c t g j = σ g j := by
  unfold sp_tell
  split
  · rw [ss_uf _ _ _ _ h.1, ss_uf _ _ _ _ h.2.2.2, ss_uf _ _ _ _ h.2.2.1, ss_uf _ _ _ _ h.2.1]
  · rw [ss_uf _ _ _ _ h.1]
theorem sp_free_f (σ : ss_S) (t g j : Nat) (h : g ≠ 11 ∧ g ≠ 14 ∧ g ≠ 19 ∧ g ≠ 22 ∧ g ≠ 25 ∧ g ≠ 26 ∧ g ≠ 29 ∧ g ≠ 39 ∧ g ≠ 40 ∧ g ≠ 41 ∧ g ≠ 42) : sp_free σ t g j = σ g j := by
  obtain ⟨h1, h2, h3, h4, h5, h6, h7, h8⟩ := h
  unfold sp_free
  rw [ss_uf _ _ _ _ h3, ss_uf _ _ _ _ h1]
  have e : sp_fr3 σ t g j = σ g j := by
    unfold sp_fr3 sp_fr2
    rw [ss_uf _ _ _ _ h7, sp_freeL_f _ _ _ _ ⟨h5, h6, h2⟩, sp_frR_f _ _ _ _ h4]
  unfold sp_fr4
  split
  · rw [sp_tell_f _ _ _ _ _ h8, e]
  · exact e
theorem sp_Bd.frR (h : sp_Bd b σ) (hb : 1000 ≤ b) (t : Nat) : ∀ n, sp_Bd b (sp_frR σ t n) := by
  intro n
  induction n with
  | zero => exact h
  | succ n ih =>
    unfold sp_frR
    refine ih.u 22 _ ?_
    have := ih 22 (n + 1)
    split <;> omega
theorem sp_Bd.freeL (h : sp_Bd b σ) (hb : 1000 ≤ b) (hT : σ 1 0 ≤ 100) (t : Nat) : ∀ n, sp_Bd (b + n) (sp_freeL σ t n) := by
  intro n
  induction n with
  | zero => exact h
  | succ n ih =>
    unfold sp_freeL
    split
    · exact ih.unlock (by omega) (by rw [sp_freeL_f _ _ _ _ (by decide)]; exact hT) _
    · exact ih.mono (by omega)
theorem sp_Bd.fr3 (h : sp_Bd b σ) (hb : 1000 ≤ b) (hT : σ 1 0 ≤ 100) (t : Nat) : sp_Bd (b + 16) (sp_fr3 σ t) := by
  have h1 : sp_Bd (b + 16) (sp_fr2 σ t) := (h.frR hb t 32).freeL hb (by rw [sp_frR_f _ _ _ _ (by decide)]; exact hT) t 16
  unfold sp_fr3
  refine h1.u 29 0 ?_
  have := h1 29 0
  split <;> omega
theorem sp_Bd.free (h : sp_Bd b σ) (hb : 1000 ≤ b) (hT : σ 1 0 ≤ 100) {t : Nat} (ht : t < 101) : sp_Bd (b + 17) (sp_free σ t) := by
  have h3 := h.fr3 hb hT t
  unfold sp_free
  refine ((?_ : sp_Bd (b + 17) (sp_fr4 σ t)).u 11 t (by omega)).u 19 t (by omega)
  unfold sp_fr4
  split
  · exact h3.tell (by omega) (by omega)
  · exact h3.mono (by omega)
theorem sp_Bd.ends (h : sp_Bd b σ) (hb : 1000 ≤ b) (hT : σ 1 0 ≤ 100) {t : Nat} (ht : t < 101) : sp_Bd (b + 18) (sp_ends σ t) := by
  have h1 := h.free hb hT ht
  have h2 := h1 13 t
  unfold sp_ends
  split
  · exact h1.mono (by omega)
  · exact (h1.u 13 t (by omega)).begin (by omega) ht
end FR
section RE
variable {G : mj_G} {m : Nat} {A : Nat → Nat} {σ : ss_S} {μ : mj_MM} {b : Nat}
theorem rl_freeA {μ0 : mj_MM} (h : sp_Bd b σ) (hb : 1000 ≤ b) (hb2 : b ≤ 2 ^ 31) (t x : Nat) (ht : t < 101) {Ex : Option Value → mj_MM → Prop} {N S : Nat}
    (he : ∀ μ', rf_Q m A (sp_frR σ t 32) μ0 μ' → mj_nc μ' = mj_nc μ0 → mj_ns μ' = mj_ns μ0 → mj_J G mY_M_free Ex N S 64 [(0, va_rf (some m)), (1, .int (nI t)), (2, .int (nI x)), (3, .int 1)] [] μ') :
    ∀ d n μ, n + d = 32 → rf_Q m A (sp_frR σ t n) μ0 μ → mj_nc μ = mj_nc μ0 → mj_ns μ = mj_ns μ0 → mj_J G mY_M_free Ex N S 24 [(0, va_rf (some m)), (1, .int (nI t)), (2, .int (nI x)), (3, .int (nI (n + 1)))] [] μ := by
  intro d
  induction d with
  | zero =>
    intro n μ hn hQ e1 e2
    have : n = 32 := by omega
    subst this
    exact bk_M_free_24 ⟨fun _ => he μ hQ e1 e2, fun h => absurd (by decide) h⟩
  | succ d ih =>
    intro n μ hn hQ e1 e2
    have h1 : ¬ (32 : Int32) < nI (n + 1) := fun q => by
      have := (nI_ltI (a := 32) (by decide) (by omega)).mp q
      omega
    have b1 := h.frR hb t n 22 (n + 1)
    refine bk_M_free_24 ⟨fun h => absurd h h1, fun _ => ?_⟩
    simp (disch := first | decide | assumption | omega) only [hQ.t, hQ.r, hQ.a0, hQ.a1, hQ.a2, hQ.a3, hQ.si, hQ.sl, hQ.l15, hQ.i1, hQ.v1, hQ.l1, hQ.i5, hQ.v5, hQ.l5, hQ.i3, hQ.v3, hQ.l3, hQ.i2, hQ.v2, hQ.l2, hQ.i4, hQ.v4, hQ.l4, Option.some.injEq, exists_eq_left', nI_clamp, nI_1, mj_vin, true_and, eq_self, mj_zz]
    refine ⟨fun h2 => ?_, fun h2 => ?_⟩
    · refine ih (n + 1) _ (by omega) ?_ e1 e2
      have := hQ.pI 22 (n + 1) (sp_frR σ t n 22 (n + 1)) (by decide) (by show _ < 33; omega)
      rw [show sp_frR σ t (n + 1) = ss_u (sp_frR σ t n) 22 (n + 1) (sp_frR σ t n 22 (n + 1)) from by show ss_u _ _ _ (if _ then _ else _) = _; rw [if_neg h2]]
      exact this
    · refine ih (n + 1) _ (by omega) ?_ e1 e2
      have := hQ.pI 22 (n + 1) 0 (by decide) (by show _ < 33; omega)
      rw [show sp_frR σ t (n + 1) = ss_u (sp_frR σ t n) 22 (n + 1) 0 from by show ss_u _ _ _ (if _ then _ else _) = _; rw [if_pos h2]]
      exact this
theorem rl_freeB {μ0 : mj_MM} (h : sp_Bd b σ) (hb : 1000 ≤ b) (hb2 : b + 40 ≤ 2 ^ 31) (hT : σ 1 0 ≤ 100) (t x : Nat) (ht : t < 101) (hx : x = 0 ∨ x = 1) {Ex : Option Value → mj_MM → Prop} {N S : Nat}
    (he : ∀ μ', rf_Q m A (ss_u (ss_u (if x ≠ 0 then sp_tell (ss_u (sp_freeL σ t 16) 29 0 (if sp_freeL σ t 16 29 0 = t then 0 else sp_freeL σ t 16 29 0)) 3 t else ss_u (sp_freeL σ t 16) 29 0 (if sp_freeL σ t 16 29 0 = t then 0 else sp_freeL σ t 16 29 0)) 11 t 0) 19 t 0) μ0 μ' → mj_nc μ' = mj_nc μ0 → mj_ns μ' = mj_ns μ0 → Ex none μ') :
    ∀ d n μ, n + d = 16 → rf_Q m A (sp_freeL σ t n) μ0 μ → mj_nc μ = mj_nc μ0 → mj_ns μ = mj_ns μ0 → mj_J G mY_M_free Ex N S 64 [(0, va_rf (some m)), (1, .int (nI t)), (2, .int (nI x)), (3, .int (nI (n + 1)))] [] μ := by
  intro d
  induction d with
  | zero =>
    intro n μ hn hQ e1 e2
    have : n = 16 := by omega
    subst this
    have hbd := h.freeL hb hT t 16
    have b1 := hbd 29 0
    have fin : ∀ μ' σ', rf_Q m A σ' μ0 μ' → mj_nc μ' = mj_nc μ0 → mj_ns μ' = mj_ns μ0 → (σ' = if x ≠ 0 then sp_tell (ss_u (sp_freeL σ t 16) 29 0 (if sp_freeL σ t 16 29 0 = t then 0 else sp_freeL σ t 16 29 0)) 3 t else ss_u (sp_freeL σ t 16) 29 0 (if sp_freeL σ t 16 29 0 = t then 0 else sp_freeL σ t 16 29 0)) → mj_J G mY_M_free Ex N S 121 [(0, va_rf (some m)), (1, .int (nI t))] [] μ' := by
      intro μ' σ' hP q1 q2 hs
      subst hs
      refine bk_M_free_121 ?_
      simp (disch := first | decide | assumption | omega) only [hP.t, hP.r, hP.a0, hP.a1, hP.a2, hP.a3, hP.si, hP.sl, hP.l15, hP.i1, hP.v1, hP.l1, hP.i5, hP.v5, hP.l5, hP.i3, hP.v3, hP.l3, hP.i2, hP.v2, hP.l2, hP.i4, hP.v4, hP.l4, Option.some.injEq, exists_eq_left', nI_clamp, nI_1, mj_vin, true_and, eq_self]
      exact he _ ((hP.pI 11 t 0 (by decide) ht).pI 19 t 0 (by decide) ht) q1 q2
    have hb3 : ∀ v, v < b + 16 → sp_B (ss_u (sp_freeL σ t 16) 29 0 v) := fun v hv => (hbd.u 29 0 hv).B (by omega)
    refine bk_M_free_64 ⟨fun _ => ?_, fun h => absurd (by decide) h⟩
    simp (disch := first | decide | assumption | omega) only [hQ.t, hQ.r, hQ.a0, hQ.a1, hQ.a2, hQ.a3, hQ.si, hQ.sl, hQ.l15, hQ.i1, hQ.v1, hQ.l1, hQ.i5, hQ.v5, hQ.l5, hQ.i3, hQ.v3, hQ.l3, hQ.i2, hQ.v2, hQ.l2, hQ.i4, hQ.v4, hQ.l4, Option.some.injEq, exists_eq_left', nI_clamp, nI_1, mj_vin, true_and, eq_self, mj_zz, mj_z0]
    refine ⟨fun h2 => ⟨fun h3 => ?_, fun h3 => ?_⟩, fun h2 => ⟨fun h3 => ?_, fun h3 => ?_⟩⟩
    · refine fin _ _ (hQ.sI 29 _ rfl) e1 e2 ?_
      rw [if_neg (fun q => q h3), if_neg h2]
    · have hQ2 := hQ.sI 29 (sp_freeL σ t 16 29 0) rfl
      refine ⟨_, rc_tell hQ2.1 (hb3 _ b1) 3 t, fun μ' hP q1 q2 => fin _ _ (hQ2.trans hP) (q1.trans e1) (q2.trans e2) ?_⟩
      rw [if_pos h3, if_neg h2]
    · refine fin _ _ (hQ.sI 29 0 rfl) e1 e2 ?_
      rw [if_neg (fun q => q h3), if_pos h2]
    · have hQ2 := hQ.sI 29 0 rfl
      refine ⟨_, rc_tell hQ2.1 (hb3 0 (by omega)) 3 t, fun μ' hP q1 q2 => fin _ _ (hQ2.trans hP) (q1.trans e1) (q2.trans e2) ?_⟩
      rw [if_pos h3, if_pos h2]
  | succ d ih =>
    intro n μ hn hQ e1 e2
    have h1 : ¬ (16 : Int32) < nI (n + 1) := fun q => by
      have := (nI_ltI (a := 16) (by decide) (by omega)).mp q
      omega
    have hbd := h.freeL hb hT t n
    have b1 := hbd 25 (n + 1)
    have nx : ∀ μ', rf_Q m A (sp_freeL σ t (n + 1)) μ0 μ' → mj_nc μ' = mj_nc μ0 → mj_ns μ' = mj_ns μ0 → mj_J G mY_M_free Ex N S 85 [(0, va_rf (some m)), (1, .int (nI t)), (2, .int (nI x)), (3, .int (nI (n + 1)))] [] μ' := by
      intro μ' hP q1 q2
      refine bk_M_free_85 ?_
      rw [nI_1]
      exact ih (n + 1) μ' (by omega) hP q1 q2
    refine bk_M_free_64 ⟨fun h => absurd h h1, fun _ => ?_⟩
    simp (disch := first | decide | assumption | omega) only [hQ.t, hQ.r, hQ.a0, hQ.a1, hQ.a2, hQ.a3, hQ.si, hQ.sl, hQ.l15, hQ.i1, hQ.v1, hQ.l1, hQ.i5, hQ.v5, hQ.l5, hQ.i3, hQ.v3, hQ.l3, hQ.i2, hQ.v2, hQ.l2, hQ.i4, hQ.v4, hQ.l4, Option.some.injEq, exists_eq_left', nI_clamp, nI_1, mj_vin, true_and, eq_self, mj_zz]
    refine ⟨fun h2 => ?_, fun h2 => ?_⟩
    · refine nx μ ?_ e1 e2
      unfold sp_freeL
      rw [if_neg h2]
      exact hQ
    · refine ⟨_, rc_unlock hQ.1 (hbd.B (by omega)) (by rw [sp_freeL_f _ _ _ _ (by decide)]; exact hT) (n + 1) (by omega), fun μ' hP q1 q2 => nx μ' ?_ (q1.trans e1) (q2.trans e2)⟩
      unfold sp_freeL
      rw [if_pos h2]
      exact hQ.trans hP
theorem rc_free (hR : rf_R m A σ μ) (h : sp_Bd b σ) (hb : 1000 ≤ b) (hb2 : b + 40 ≤ 2 ^ 31) (hT : σ 1 0 ≤ 100) (t : Nat) (ht : t < 101) : rc_V G my_M_free mY_M_free m A μ [.int (nI t)] (sp_free σ t) := by
  have hQ := hR.self
  have hB := h.B (by omega)
  have b1 := hB 29 0
  refine mj_of (by decide) rfl (by decide) (Nat.le_of_ble_eq_true rfl) rfl ⟨Nat.le_refl _, Nat.le_refl _⟩ ?_
  refine bk_M_free_0 ⟨hQ.t, _, rc_holdsSome hR hB t ht, fun x μ' hP e1 e2 => ?_⟩
  obtain ⟨rfl, hP⟩ := hP
  have key : ∀ x, x = sp_held σ t → mj_J G mY_M_free (fun v μ' => mj_XV (fun μ' => rf_Q m A (sp_free σ t) μ μ') v μ' ∧ mj_nc μ' = mj_nc μ ∧ mj_ns μ' = mj_ns μ) (mj_nc μ) (mj_ns μ) 24 [(0, va_rf (some m)), (1, .int (nI t)), (2, .int (nI x)), (3, .int 1)] [] μ' := by
    intro x hx
    refine rl_freeA (μ0 := μ) h hb (by omega) t x ht (fun μ2 hP2 q1 q2 => ?_) 32 0 μ' rfl hP e1 e2
    refine rl_freeB (μ0 := μ) (h.frR hb t 32) hb hb2 (by rw [sp_frR_f _ _ _ _ (by decide)]; exact hT) t x ht (by rw [hx]; unfold sp_held; split <;> simp) (fun μ3 hP3 r1 r2 => ⟨⟨rfl, ?_⟩, r1, r2⟩) 16 0 μ2 rfl hP2 q1 q2
    rw [hx] at hP3
    exact hP3
  refine bk_M_free_5 ?_
  have hle := sp_hl_le σ t 16
  have hlt : sp_holds σ t < 2 ^ 31 := by unfold sp_holds; omega
  simp (disch := first | decide | assumption | omega) only [hP.t, hP.r, hP.a0, hP.a1, hP.a2, hP.a3, hP.si, hP.sl, hP.l15, hP.i1, hP.v1, hP.l1, hP.i5, hP.v5, hP.l5, hP.i3, hP.v3, hP.l3, hP.i2, hP.v2, hP.l2, hP.i4, hP.v4, hP.l4, Option.some.injEq, exists_eq_left', nI_clamp, nI_1, mj_vin, true_and, eq_self, mj_zz, mj_z0]
  refine ⟨fun h2 => ?_, fun h2 => ⟨fun h3 => ?_, fun h3 => ?_⟩⟩
  · exact key 1 (by unfold sp_held; rw [if_pos (Or.inl h2)])
  · exact key 0 (by unfold sp_held; rw [if_neg (fun q => q.elim (fun q => q h2) h3)])
  · exact key 1 (by unfold sp_held; rw [if_pos (Or.inr h3)])
theorem rc_ends (hR : rf_R m A σ μ) (h : sp_Bd b σ) (hb : 1000 ≤ b) (hb2 : b + 40 ≤ 2 ^ 31) (hT : σ 1 0 ≤ 100) (t : Nat) (ht : t < 101) : rc_V G my_M_ends mY_M_ends m A μ [.int (nI t)] (sp_ends σ t) := by
  have hQ := hR.self
  refine mj_of (by decide) rfl (by decide) (Nat.le_of_ble_eq_true rfl) rfl ⟨Nat.le_refl _, Nat.le_refl _⟩ ?_
  refine bk_M_ends_0 ⟨hQ.t, _, rc_free hR h hb hb2 hT t ht, fun μ' hP e1 e2 => ?_⟩
  have hbd := h.free hb hT ht
  have b1 := hbd 13 t
  refine bk_M_ends_5 ?_
  simp (disch := first | decide | assumption | omega) only [hP.t, hP.r, hP.a0, hP.a1, hP.a2, hP.a3, hP.si, hP.sl, hP.l15, hP.i1, hP.v1, hP.l1, hP.i5, hP.v5, hP.l5, hP.i3, hP.v3, hP.l3, hP.i2, hP.v2, hP.l2, hP.i4, hP.v4, hP.l4, Option.some.injEq, exists_eq_left', nI_clamp, nI_1, mj_vin, true_and, eq_self, mj_z0]
  unfold sp_ends
  refine ⟨fun h2 => ?_, fun h2 => ?_⟩
  · rw [if_neg h2]
    have hm : nI (sp_free σ t 13 t) - 1 = nI (sp_free σ t 13 t - 1) := by
      obtain ⟨k, hk⟩ : ∃ k, sp_free σ t 13 t = k + 1 := ⟨sp_free σ t 13 t - 1, by omega⟩
      rw [hk, nI_pred]
      rfl
    rw [hm]
    have hP2 := hP.pI 13 t (sp_free σ t 13 t - 1) (by decide) ht
    refine ⟨_, rc_begin hP2.1 ((hbd.u 13 t (by omega)).B (by omega)) t ht (by rw [ss_us]; omega), fun μ2 hP3 q1 q2 => bk_M_ends_30 ⟨⟨rfl, hP2.trans hP3⟩, q1.trans e1, q2.trans e2⟩⟩
  · rw [if_pos h2]
    exact ⟨⟨rfl, hP⟩, e1, e2⟩
end RE
