/-! Rounds of looks, as the class makes them -/
def ci (k : Nat) : Nat → ss_S → Nat → ss_S × Nat
  | 0, σ, s => (σ, s)
  | n + 1, σ, s => if (sp_look σ k).2 = 0 then ((sp_look σ k).1, s) else ci k n (sp_dn (sp_look σ k).1 (sp_look σ k).2) 1
def cr (F : Nat) (σ : ss_S) : Nat → ss_S × Nat
  | 0 => (σ, 0)
  | k + 1 => ci k F (cr F σ k).1 (cr F σ k).2
def cR (F C : Nat) : Nat → ss_S → ss_S
  | 0, σ => σ
  | n + 1, σ => if (cr F σ C).2 = 0 then (cr F σ C).1 else cR F C n (cr F σ C).1
def pU (P : Nat → ss_S → Prop) : Prop := ∀ n τ, P n τ → uq τ ∧ r24 τ ∧ gp τ
theorem ci_ins {C : Nat} {P : Nat → ss_S → Prop} (hF : sp_Fam C P) (hU : pU P) {k : Nat} (hk : k < C) : ∀ F n σ s F' s', P n σ → n < F → n < F' → (s ≠ 0 → s' ≠ 0) →
    (ci k F σ s).1 = (sp_ins k F' σ s').1 ∧ stl (ci k F σ s).1 k ∧ (∃ n', n' ≤ n ∧ P n' (ci k F σ s).1 ∧ ((ci k F σ s).2 = s ∨ n' < n)) ∧ ((ci k F σ s).2 ≠ 0 → (sp_ins k F' σ s').2 ≠ 0) ∧ ((ci k F σ s).2 = 0 → s = 0 ∧ ∀ k', k' ≠ k → ag k' (ci k F σ s).1 σ) := by
  intro F
  induction F with
  | zero => exact fun n σ s F' s' _ h => absurd h (by omega)
  | succ F ih =>
    intro n σ s F' s' hp hn hn' hs
    obtain ⟨F', rfl⟩ : ∃ f, F' = f + 1 := ⟨F' - 1, by omega⟩
    obtain ⟨u1, u2, u3⟩ := hU n σ hp
    unfold ci sp_ins
    rcases look_spec u1 u3 k with ⟨a1, a2, a3, a4, a5, a6⟩ | ⟨a1, a2, a3, a4⟩
    · rw [if_neg a1, a2, if_neg (by show (1 : Nat) ≠ 0; decide)]
      obtain ⟨n1, p1, p2⟩ := hF.2.2 n σ k hp hk (by rw [a2]; show (1 : Nat) ≠ 0; decide)
      rw [a2] at p2
      obtain ⟨b1, b2, ⟨n2, b3, b4, b5⟩, b6, b7⟩ := ih n1 _ 1 F' 1 p2 (by omega) (by omega) (fun z => z)
      refine ⟨b1, b2, ⟨n2, by omega, b4, Or.inr (by omega)⟩, b6, fun z => ?_⟩
      exact absurd (b7 z).1 (by decide)
    · rw [if_pos a1]
      rcases a3 with a3 | a3
      · rw [a3, if_pos rfl]
        have p1 := hF.2.1 n σ k hp hk (by rw [a3])
        rw [a3] at p1
        exact ⟨rfl, a2, ⟨n, Nat.le_refl _, p1, Or.inl rfl⟩, hs, fun z => ⟨z, a4⟩⟩
      · obtain ⟨n1, p1, p2⟩ := hF.2.2 n σ k hp hk (by rw [a3]; show (1 : Nat) ≠ 0; decide)
        rw [a3] at p2
        rw [a3, if_neg (by show (1 : Nat) ≠ 0; decide)]
        obtain ⟨F'', rfl⟩ : ∃ f, F' = f + 1 := ⟨F' - 1, by omega⟩
        have e : sp_ins k (F'' + 1) (sp_look σ k).1 1 = ((sp_look σ k).1, 1) := by
          unfold sp_ins
          have a2' : sp_step (sp_look σ k).1 k = ((sp_look σ k).1, 0) := a2
          rw [a2', if_pos rfl]
        show (sp_look σ k).1 = (sp_ins k (F'' + 1) (sp_look σ k).1 1).1 ∧ _ ∧ _ ∧ (s ≠ 0 → (sp_ins k (F'' + 1) (sp_look σ k).1 1).2 ≠ 0) ∧ _
        rw [e]
        exact ⟨rfl, a2, ⟨n1, by omega, p2, Or.inl rfl⟩, fun _ => (by show (1 : Nat) ≠ 0; decide), fun z => ⟨z, a4⟩⟩
theorem cr_row {C : Nat} {P : Nat → ss_S → Prop} (hF : sp_Fam C P) (hU : pU P) {F F' n : Nat} {σ : ss_S} (hp : P n σ) (hn : n < F) (hn' : n < F') : ∀ k, k ≤ C →
    (cr F σ k).1 = (sp_row F' σ k).1 ∧ (∃ n', n' ≤ n ∧ P n' (cr F σ k).1 ∧ ((cr F σ k).2 = 0 ∨ n' < n)) ∧ ((cr F σ k).2 ≠ 0 → (sp_row F' σ k).2 ≠ 0) ∧ ((cr F σ k).2 = 0 → ∀ k', k' < k → stl (cr F σ k).1 k') := by
  intro k
  induction k with
  | zero => exact fun _ => ⟨rfl, ⟨n, Nat.le_refl _, hp, Or.inl rfl⟩, fun z => absurd rfl z, fun _ k' h => by omega⟩
  | succ k ih =>
    intro hk
    obtain ⟨i1, ⟨n1, i2, i3, i4⟩, i5, i6⟩ := ih (by omega)
    obtain ⟨b1, b2, ⟨n2, b3, b4, b5⟩, b6, b7⟩ := ci_ins hF hU (show k < C by omega) F n1 (cr F σ k).1 (cr F σ k).2 F' (sp_row F' σ k).2 i3 (by omega) (by omega) i5
    show (ci k F (cr F σ k).1 (cr F σ k).2).1 = (sp_ins k F' (sp_row F' σ k).1 (sp_row F' σ k).2).1 ∧ (∃ n', n' ≤ n ∧ P n' (ci k F (cr F σ k).1 (cr F σ k).2).1 ∧ ((ci k F (cr F σ k).1 (cr F σ k).2).2 = 0 ∨ n' < n)) ∧ ((ci k F (cr F σ k).1 (cr F σ k).2).2 ≠ 0 → (sp_ins k F' (sp_row F' σ k).1 (sp_row F' σ k).2).2 ≠ 0) ∧ ((ci k F (cr F σ k).1 (cr F σ k).2).2 = 0 → ∀ k', k' < k + 1 → stl (ci k F (cr F σ k).1 (cr F σ k).2).1 k')
    rw [← i1]
    refine ⟨b1, ⟨n2, by omega, b4, ?_⟩, b6, fun z k' hk' => ?_⟩
    · rcases b5 with y | y
      · rw [y]
        rcases i4 with x | x
        · exact Or.inl x
        · exact Or.inr (by omega)
      · exact Or.inr (by omega)
    · obtain ⟨z1, z2⟩ := b7 z
      by_cases q : k' = k
      · rw [q]
        exact b2
      · exact (i6 z1 k' (by omega)).cg (z2 k' q)
theorem stl_row {τ : ss_S} {C : Nat} (h : ∀ k, k < C → stl τ k) (F : Nat) : ∀ k, k ≤ C → sp_row (F + 1) τ k = (τ, 0) := by
  intro k
  induction k with
  | zero => exact fun _ => rfl
  | succ k ih =>
    intro hk
    show sp_ins k (F + 1) (sp_row (F + 1) τ k).1 (sp_row (F + 1) τ k).2 = _
    rw [ih (by omega)]
    show sp_ins k (F + 1) τ 0 = _
    unfold sp_ins
    have a : sp_step τ k = (τ, 0) := h k (by omega)
    rw [a, if_pos rfl]
theorem stl_rounds {τ : ss_S} {C : Nat} (h : ∀ k, k < C → stl τ k) (F : Nat) : ∀ N, sp_rounds (F + 1) C N τ = τ := by
  intro N
  cases N with
  | zero => rfl
  | succ N =>
    unfold sp_rounds
    rw [stl_row h F C (Nat.le_refl _), if_pos rfl]
theorem cR_rounds {C : Nat} {P : Nat → ss_S → Prop} (hF : sp_Fam C P) (hU : pU P) {F F' : Nat} : ∀ N n σ N', P n σ → n < N → n < N' → n < F → n < F' → cR F C N σ = sp_rounds F' C N' σ ∧ (∀ k, k < C → stl (cR F C N σ) k) ∧ ∃ n', n' ≤ n ∧ P n' (cR F C N σ) := by
  intro N
  induction N with
  | zero => exact fun n σ N' _ h => absurd h (by omega)
  | succ N ih =>
    intro n σ N' hp hN hN' hFn hFn'
    obtain ⟨N', rfl⟩ : ∃ f, N' = f + 1 := ⟨N' - 1, by omega⟩
    obtain ⟨F', rfl⟩ : ∃ f, F' = f + 1 := ⟨F' - 1, by omega⟩
    obtain ⟨b1, ⟨n1, b2, b3, b4⟩, b5, b6⟩ := cr_row hF hU hp hFn hFn' C (Nat.le_refl _)
    unfold cR sp_rounds
    rw [← b1]
    by_cases q : (cr F σ C).2 = 0
    · rw [if_pos q]
      have hs := b6 q
      refine ⟨?_, hs, n1, b2, b3⟩
      by_cases z : (sp_row (F' + 1) σ C).2 = 0
      · rw [if_pos z]
      · rw [if_neg z, stl_rounds hs]
    · rw [if_neg q, if_neg (b5 q)]
      obtain ⟨c1, c2, n2, c3, c4⟩ := ih n1 _ N' b3 (by omega) (by omega) (by omega) (by omega)
      exact ⟨c1, c2, n2, by omega, c4⟩
theorem sp_code_39 (σ : ss_S) (t x : Nat) : σ 39 0 ≤ sp_code σ t x 39 0 := by
  unfold sp_code
  split
  · exact Nat.le_refl _
  · rw [sp_tell_39]
    omega
theorem sp_do_39 (σ : ss_S) (t k x : Nat) : σ 39 0 ≤ sp_do σ t k x 39 0 := by
  have ht : ∀ τ : ss_S, ∀ a b, τ 39 0 = σ 39 0 → σ 39 0 ≤ sp_tell τ a b 39 0 := fun τ a b h => by
    rw [sp_tell_39]
    omega
  unfold sp_do
  by_cases k1 : k = 1
  · rw [if_pos k1]
    split
    · exact (sp_begin_39 σ x).1
    · exact ht σ _ _ rfl
  rw [if_neg k1]
  by_cases k1 : k = 3
  · rw [if_pos k1]
    split
    · exact ht σ _ _ rfl
    · split
      · exact ht σ _ _ rfl
      · split
        · exact Nat.le_refl _
        · exact Nat.le_refl _
  rw [if_neg k1]
  by_cases k1 : k = 4
  · rw [if_pos k1]
    split
    · split
      · rw [sp_set_f _ _ _ _ _ (by decide)]
        exact Nat.le_refl _
      · exact ht σ _ _ rfl
    · exact ht σ _ _ rfl
  rw [if_neg k1]
  by_cases k1 : k = 5
  · rw [if_pos k1]
    split
    · exact ht _ _ _ rfl
    · exact Nat.le_refl _
  rw [if_neg k1]
  by_cases k1 : k = 6
  · rw [if_pos k1]
    split
    · exact Nat.le_refl _
    · exact ht σ _ _ rfl
  rw [if_neg k1]
  by_cases k1 : k = 7
  · rw [if_pos k1]
    exact sp_code_39 (ss_u σ 22 x _) t _
  rw [if_neg k1]
  by_cases k1 : k = 8
  · rw [if_pos k1]
    exact sp_code_39 (ss_u σ 25 x _) t _
  rw [if_neg k1]
  by_cases k1 : k = 9
  · rw [if_pos k1]
    split
    · rw [sp_unlock_f _ _ _ _ (by decide)]
      exact Nat.le_refl _
    · exact ht σ _ _ rfl
  rw [if_neg k1]
  by_cases k1 : k = 10
  · rw [if_pos k1]
    exact Nat.le_refl _
  rw [if_neg k1]
  by_cases k1 : k = 12
  · rw [if_pos k1]
    split
    · exact ht σ _ _ rfl
    · exact Nat.le_refl _
  rw [if_neg k1]
  split
  · exact ht _ _ _ rfl
  · exact Nat.le_refl _
theorem sp_free_39 (σ : ss_S) (t : Nat) : σ 39 0 ≤ sp_free σ t 39 0 := by
  unfold sp_free
  rw [ss_uf _ _ _ _ (by decide), ss_uf _ _ _ _ (by decide)]
  have := sp_fr3_f σ t 39 0 (by decide)
  unfold sp_fr4
  split
  · rw [sp_tell_39]
    omega
  · omega
theorem sp_chain_39 (σ : ss_S) (t x : Nat) : σ 39 0 ≤ sp_chain σ t x 39 0 := by
  have h1 : σ 39 0 ≤ sp_chain1 σ t x 39 0 := by
    unfold sp_chain1
    split
    · exact Nat.le_refl _
    · rw [sp_tell_39]
      omega
  have h2 : σ 39 0 ≤ sp_chain2 σ t x 39 0 := by
    unfold sp_chain2
    split
    · exact Nat.le_trans h1 (sp_free_39 _ _)
    · exact Nat.le_trans h1 (sp_ends_39 _ _).1
  unfold sp_chain
  split
  · exact Nat.le_trans h2 (sp_begin_39 _ _).1
  · exact h2
theorem sp_dn_39 (σ : ss_S) (t : Nat) : σ 39 0 ≤ sp_dn σ t 39 0 := by
  unfold sp_dn
  cases sp_next σ t with
  | none => exact (sp_ends_39 σ t).1
  | some k =>
    show σ 39 0 ≤ sp_act σ t (σ 9 k) (σ 10 k) 39 0
    unfold sp_act
    split
    · exact sp_chain_39 σ t _
    · split
      · exact (sp_ends_39 σ t).1
      · split
        · exact Nat.le_refl _
        · exact sp_do_39 (ss_u σ 14 t _) t _ _
theorem lk_f (τ : ss_S) (t g j : Nat) (h : g ≠ 26 ∧ g ≠ 27 ∧ g ≠ 28) : (lk τ t).1 g j = τ g j := by
  unfold lk
  split
  · rfl
  · cases sp_next τ t with
    | none => rfl
    | some q =>
      show (if τ 9 q = 0 then (τ, 0) else if τ 9 q = 8 ∧ τ 25 (τ 10 q) ≠ 0 ∧ τ 25 (τ 10 q) ≠ t then (sp_spin τ t (τ 10 q), 0) else (τ, t)).1 g j = _
      split
      · rfl
      · split
        · exact sp_spin_f _ _ _ _ _ h
        · rfl
theorem sp_look_f (σ : ss_S) (k g j : Nat) (h : g ≠ 11 ∧ g ≠ 19 ∧ g ≠ 26 ∧ g ≠ 27 ∧ g ≠ 28) : (sp_look σ k).1 g j = σ g j := by
  unfold sp_look
  split
  · rfl
  · rw [lk_f _ _ _ _ h.2.2, sp_choose_f _ _ _ _ ⟨h.1, h.2.1⟩]
theorem ci_39 (k : Nat) : ∀ F σ s, σ 39 0 ≤ (ci k F σ s).1 39 0 := by
  intro F
  induction F with
  | zero => exact fun σ s => Nat.le_refl _
  | succ F ih =>
    intro σ s
    unfold ci
    have e := sp_look_f σ k 39 0 (by decide)
    split
    · exact Nat.le_of_eq e.symm
    · have h1 := sp_dn_39 (sp_look σ k).1 (sp_look σ k).2
      have h2 := ih (sp_dn (sp_look σ k).1 (sp_look σ k).2) 1
      omega
theorem cr_39 (F : Nat) (σ : ss_S) : ∀ k k', k ≤ k' → (cr F σ k).1 39 0 ≤ (cr F σ k').1 39 0 := by
  intro k k'
  induction k' with
  | zero =>
    intro h
    have : k = 0 := by omega
    rw [this]
    exact Nat.le_refl _
  | succ n ih =>
    intro h
    by_cases q : k = n + 1
    · rw [q]
      exact Nat.le_refl _
    · exact Nat.le_trans (ih (by omega)) (ci_39 n F _ _)
theorem cR_39 (F C : Nat) : ∀ N σ, σ 39 0 ≤ cR F C N σ 39 0 := by
  intro N
  induction N with
  | zero => exact fun σ => Nat.le_refl _
  | succ N ih =>
    intro σ
    have h1 := cr_39 F σ 0 C (Nat.zero_le _)
    unfold cR
    split
    · exact h1
    · exact Nat.le_trans h1 (ih _)
theorem ci_01 (k : Nat) : ∀ F σ s, s < 2 → (ci k F σ s).2 < 2 := by
  intro F
  induction F with
  | zero => exact fun σ s h => h
  | succ F ih =>
    intro σ s h
    unfold ci
    split
    · exact h
    · exact ih _ 1 (by decide)
theorem cr_01 (F : Nat) (σ : ss_S) : ∀ k, (cr F σ k).2 < 2 := by
  intro k
  induction k with
  | zero => exact Nat.zero_lt_two
  | succ k ih => exact ci_01 k F _ _ ih
theorem tb_s {σ τ : ss_S} : tb σ σ = 0 := tb_0 rfl
section CM
variable {G : mj_G} {B : cl_B} {e t0 t1 b : Nat} {σ : ss_S} {c : cc_S} {μ μ0 : mj_MM} {Ex : Option Value → mj_MM → Prop} {N S C : Nat} {P : Nat → ss_S → Prop} {fin : ss_S}
theorem rl_inC (hF : sp_Fam C P) (hU : pU P) (k r : Nat) (hk : k < C) : ∀ F n σ s i c μ, P n σ → n < F → i + n < 1000 → s < 2 → cl_Q B c μ0 μ → REP B e 0 0 (sp_look σ k).1 c → mj_nc μ + tb (sp_look σ k).1 fin = N → mj_ns μ + 512 * tb (sp_look σ k).1 fin = S → (ci k F σ s).1 39 0 ≤ fin 39 0 →
    (∀ c' μ', cl_Q B c' μ0 μ' → REP B e 0 0 (ci k F σ s).1 c' → mj_nc μ' + tb (ci k F σ s).1 fin = N → mj_ns μ' + 512 * tb (ci k F σ s).1 fin = S → mj_J G mY_T_takeSteps Ex N S 29 [(0, va_rf (some (cD B 0 0))), (1, .int (nI (ci k F σ s).2)), (2, .int (nI r)), (3, va_rf (some (cD B 10 1))), (4, .int (nI C)), (5, .int (nI (k + 1)))] [] μ') →
    mj_J G mY_T_takeSteps Ex N S 53 [(0, va_rf (some (cD B 0 0))), (1, .int (nI s)), (2, .int (nI r)), (3, va_rf (some (cD B 10 1))), (4, .int (nI C)), (5, .int (nI k)), (6, va_rf (some (cD B 1 k))), (7, va_rf (cl_ref B 8 (enc (sp_look σ k).2))), (8, .int (nI i))] [] μ := by
  intro F
  induction F with
  | zero => exact fun n σ s i c μ _ h => absurd h (by omega)
  | succ F ih =>
    intro n σ s i c μ hp hn hi hs hQ hP eN eS h39 he
    obtain ⟨u1, u2, u3⟩ := hU n σ hp
    obtain ⟨v0, b, vb, vb1, vb2, vV⟩ := hF.1 n σ hp
    have hx := hP.x
    by_cases q : (sp_look σ k).2 = 0
    · have ec : ci k (F + 1) σ s = ((sp_look σ k).1, s) := by
        unfold ci
        rw [if_pos q]
      rw [ec] at he
      rw [q]
      refine bk_T_takeSteps_53 ⟨fun _ => ?_, fun b z => (by cases z)⟩
      rw [nI_1]
      exact he c μ hQ hP eN eS
    · have ec : ci k (F + 1) σ s = ci k F (sp_dn (sp_look σ k).1 (sp_look σ k).2) 1 := by
        conv => lhs; unfold ci
        rw [if_neg q]
      rw [ec] at he h39
      obtain ⟨a1, a2, a3, a4, a5, a6⟩ := (look_spec u1 u3 k).resolve_right (fun z => q z.1)
      have a7 := (sp_choose_after u1 k).2.2.2
      have h39l : (sp_look σ k).1 39 0 = σ 39 0 := sp_look_f σ k 39 0 (by decide)
      have h21l : (sp_look σ k).1 21 0 = σ 21 0 := sp_look_f σ k 21 0 (by decide)
      have h1l : (sp_look σ k).1 1 0 = σ 1 0 := sp_look_f σ k 1 0 (by decide)
      have h0l : (sp_look σ k).1 0 0 = σ 0 0 := sp_look_f σ k 0 0 (by decide)
      have b39 := vb 39 0
      have b21 := vb 21 0
      obtain ⟨n1, p1, p2⟩ := hF.2.2 n σ k hp hk (by rw [a2]; show (1 : Nat) ≠ 0; decide)
      rw [a2] at p2
      have eT : sp_choose σ k = (sp_look σ k).1 := by rw [a3]
      have et : sp_chosen σ k = (sp_look σ k).2 := by rw [a3]
      rw [eT, et] at a4 a5 a6 a7
      clear a3 eT et a2
      obtain ⟨w1, w2, w3, w4⟩ := a7 a1
      have m1 := sp_dn_39 (sp_look σ k).1 (sp_look σ k).2
      have m2 := ci_39 k F (sp_dn (sp_look σ k).1 (sp_look σ k).2) 1
      generalize (sp_look σ k).1 = τ at *
      generalize (sp_look σ k).2 = t at *
      have p2' : P n1 (sp_dn τ t) := p2
      have tt := tb_t (σ := τ) (σ1 := sp_dn τ t) (σ' := fin) m1 (by omega)
      rw [enc_s a1]
      refine bk_T_takeSteps_53 ⟨fun z => (by cases z), fun b z => ⟨fun y => ?_, fun y => ⟨hQ.t0 hx, _, _, _, lc_doNext hQ hP t (by omega) w3 w4 a4 a5 a6 (by omega) (by omega), by omega, fun μ1 h r1 r2 => ?_⟩⟩⟩
      · rw [show (1000 : Int32) = nI 1000 from rfl, mj_le (by decide) (by omega)] at y
        omega
      · obtain ⟨c1, hQ1, hP1⟩ := h
        obtain ⟨u1', u2', u3'⟩ := hU n1 _ p2'
        have e0 := (hF.1 n1 _ p2').1
        refine bk_T_takeSteps_72 ⟨hQ1.t0 hx, _, lc_tws hQ1 hP1 u2' k (by omega), fun x μ2 h r3 r4 => ?_⟩
        obtain ⟨rfl, c2, hQ2, hP2⟩ := h
        have e39 : (sp_look (sp_dn τ t) k).1 39 0 = sp_dn τ t 39 0 := sp_look_f (sp_dn τ t) k 39 0 (by decide)
        have etb : tb (sp_look (sp_dn τ t) k).1 fin = tb (sp_dn τ t) fin := by
          unfold tb
          rw [e39]
        refine bk_T_takeSteps_78 ?_
        rw [nI_1]
        exact ih n1 (sp_dn τ t) 1 (i + 1) c2 μ2 p2' (by omega) (by omega) (by decide) hQ2 hP2 (by rw [etb]; omega) (by rw [etb]; omega) h39 he
theorem rl_rowC (hF : sp_Fam C P) (hU : pU P) (hC : C ≤ 8) (r n : Nat) (hp : P n σ) (hn : n < 1000) (hfin : (cr 1000 σ C).1 39 0 ≤ fin 39 0)
    (he : ∀ c' μ', cl_Q B c' μ0 μ' → REP B e 0 0 (cr 1000 σ C).1 c' → mj_nc μ' + tb (cr 1000 σ C).1 fin = N → mj_ns μ' + 512 * tb (cr 1000 σ C).1 fin = S → mj_J G mY_T_takeSteps Ex N S 4 [(0, va_rf (some (cD B 0 0))), (1, .int (nI (cr 1000 σ C).2)), (2, .int (nI (r + 1)))] [] μ') :
    ∀ d k c μ, k + d = C → cl_Q B c μ0 μ → REP B e 0 0 (cr 1000 σ k).1 c → mj_nc μ + tb (cr 1000 σ k).1 fin = N → mj_ns μ + 512 * tb (cr 1000 σ k).1 fin = S →
    mj_J G mY_T_takeSteps Ex N S 29 [(0, va_rf (some (cD B 0 0))), (1, .int (nI (cr 1000 σ k).2)), (2, .int (nI r)), (3, va_rf (some (cD B 10 1))), (4, .int (nI C)), (5, .int (nI k))] [] μ := by
  intro d
  induction d with
  | zero =>
    intro k c μ hk hQ hP eN eS
    have : k = C := by omega
    subst this
    refine bk_T_takeSteps_29 ⟨fun _ => ?_, fun z => absurd (by rw [mj_le (by omega) (by omega)]; omega) z⟩
    rw [nI_1]
    exact he c μ hQ hP eN eS
  | succ d ih =>
    intro k c μ hk hQ hP eN eS
    obtain ⟨b1, ⟨n1, b2, b3, b4⟩, b5, b6⟩ := cr_row hF hU (F := 1000) (F' := 1000) hp hn hn k (by omega)
    obtain ⟨u1, u2, u3⟩ := hU n1 _ b3
    have e0 := (hF.1 n1 _ b3).1
    have hx := hP.x
    have a1 : cL B 10 1 := hP.b.2.2.1.2.1
    have na : cN B 10 1 = C := hP.b.2.2.2.1.2.1.trans e0
    have en : mj_n μ (cD B 10 1) = C := by rw [(hQ.1.2.2.1 10 1 a1 (by decide)).1, na]
    have m39 := cr_39 1000 σ (k + 1) C (by omega)
    refine bk_T_takeSteps_29 ⟨fun z => absurd z (by rw [mj_le (by omega) (by omega)]; omega), fun _ => ⟨_, rfl, hQ.ta1 a1, by rw [en]; exact vp_in_nI (by omega) (by omega), hQ.t0 hx, ?_⟩⟩
    have ea : mj_r μ (cD B 10 1) k = some (cD B 1 k) := by
      rw [hQ.e1 a1 (by omega), hP.h1.2.2.2.1 k (by omega)]
      rfl
    rw [nI_clamp (by omega), ea]
    refine ⟨_, lc_tws hQ hP u2 k (by omega), fun x μ2 h r3 r4 => bk_T_takeSteps_48 ?_⟩
    obtain ⟨rfl, c2, hQ2, hP2⟩ := h
    have e39 : (sp_look (cr 1000 σ k).1 k).1 39 0 = (cr 1000 σ k).1 39 0 := sp_look_f _ k 39 0 (by decide)
    have etb : tb (sp_look (cr 1000 σ k).1 k).1 fin = tb (cr 1000 σ k).1 fin := by
      unfold tb
      rw [e39]
    exact rl_inC hF hU k r (by omega) 1000 n1 (cr 1000 σ k).1 (cr 1000 σ k).2 0 c2 μ2 b3 (by omega) (by omega) (cr_01 1000 σ k) hQ2 hP2 (by rw [etb]; omega) (by rw [etb]; omega) (Nat.le_trans m39 hfin) (fun c' μ' h1 h2 h3 h4 => ih (k + 1) c' μ' (by omega) h1 h2 h3 h4)
theorem rl_roundsC (hF : sp_Fam C P) (hU : pU P) (hC : C ≤ 8) : ∀ M n σ r c μ, r + M = 1000 → P n σ → n < M → n < 1000 → cl_Q B c μ0 μ → REP B e 0 0 σ c → mj_nc μ + tb σ fin = N → mj_ns μ + 512 * tb σ fin = S → cR 1000 C M σ 39 0 ≤ fin 39 0 →
    (∀ c' μ', cl_Q B c' μ0 μ' → REP B e 0 0 (cR 1000 C M σ) c' → mj_nc μ' + tb (cR 1000 C M σ) fin = N → mj_ns μ' + 512 * tb (cR 1000 C M σ) fin = S → Ex none μ') →
    mj_J G mY_T_takeSteps Ex N S 4 [(0, va_rf (some (cD B 0 0))), (1, .int (nI 1)), (2, .int (nI r))] [] μ := by
  intro M
  induction M with
  | zero => exact fun n σ r c μ _ _ h => absurd h (by omega)
  | succ M ih =>
    intro n σ r c μ hr hp hn hn1 hQ hP eN eS h39 he
    have hx := hP.x
    have e0 := (hF.1 n _ hp).1
    have a1 : cL B 10 1 := hP.b.2.2.1.2.1
    have na : cN B 10 1 = C := hP.b.2.2.2.1.2.1.trans e0
    have en : mj_n μ (cD B 10 1) = C := by rw [(hQ.1.2.2.1 10 1 a1 (by decide)).1, na]
    have eR : mj_r μ (cD B 0 0) 1 = some (cD B 10 1) := by rw [hQ.r0_1 hx, hP.h1.1.2.1]; rfl
    obtain ⟨b1, ⟨n1, b2, b3, b4⟩, b5, b6⟩ := cr_row hF hU (F := 1000) (F' := 1000) hp hn1 hn1 C (Nat.le_refl _)
    have hle : (cr 1000 σ C).1 39 0 ≤ fin 39 0 := by
      refine Nat.le_trans ?_ h39
      unfold cR
      split
      · exact Nat.le_refl _
      · exact cR_39 _ _ _ _
    refine bk_T_takeSteps_4 ⟨fun z => absurd z (by decide), fun _ => ⟨fun z => ?_, fun _ => ⟨hQ.t0 hx, _, eR, hQ.ta1 a1, ?_⟩⟩⟩
    · rw [show (1000 : Int32) = nI 1000 from rfl, mj_le (by decide) (by omega)] at z
      omega
    · rw [eR, en]
      refine rl_rowC (σ := σ) hF hU hC r n hp hn1 hle (fun c' μ' h1 h2 h3 h4 => ?_) C 0 c μ (by omega) hQ hP eN eS
      by_cases q : (cr 1000 σ C).2 = 0
      · rw [q]
        have ec : cR 1000 C (M + 1) σ = (cr 1000 σ C).1 := by
          unfold cR
          rw [if_pos q]
        rw [ec] at he
        exact bk_T_takeSteps_4 ⟨fun _ => he c' μ' h1 h2 h3 h4, fun z => absurd rfl z⟩
      · have h01 := cr_01 1000 σ C
        have ec : cR 1000 C (M + 1) σ = cR 1000 C M (cr 1000 σ C).1 := by
          conv => lhs; unfold cR
          rw [if_neg q]
        rw [ec] at he h39
        rw [show (cr 1000 σ C).2 = 1 by omega]
        exact ih n1 _ (r + 1) c' μ' (by omega) b3 (by omega) (by omega) h1 h2 h3 h4 h39 he
theorem lc_takeSteps (hQ : cl_Q B c μ0 μ) (hP : REP B e 0 0 σ c) (hF : sp_Fam (σ 0 0) P) (hU : pU P) (n : Nat) (hp : P n σ) (hn : n < 1000) : lc_V G my_T_takeSteps mY_T_takeSteps B e 0 0 σ (sp_rounds 2000 (σ 0 0) 2000 σ) μ0 μ [] := by
  have hC := hP.v.2.1.2
  have er := (cR_rounds hF hU (F := 1000) (F' := 2000) 1000 n σ 2000 hp hn (by omega) hn (by omega)).1
  rw [← er]
  refine mj_of (by decide) rfl (by decide) (Nat.le_of_ble_eq_true rfl) rfl ⟨Nat.le_add_right _ _, Nat.le_add_right _ _⟩ ?_
  refine bk_T_takeSteps_0 ?_
  refine rl_roundsC (fin := cR 1000 (σ 0 0) 1000 σ) hF hU hC 1000 n σ 0 c μ (by omega) hp hn hn hQ hP rfl rfl (Nat.le_refl _) (fun c' μ' h1 h2 h3 h4 => ?_)
  rw [tb_0 rfl] at h3 h4
  exact ⟨⟨rfl, c', h1, h2⟩, by omega, by omega⟩
end CM
