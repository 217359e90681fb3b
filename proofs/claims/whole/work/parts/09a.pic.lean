section PC
variable {σ τ : ss_S} {b : Nat}
theorem sp_Bd.set (h : sp_Bd b σ) (hb : 2 ^ 24 ≤ b) (t : Nat) {e : Nat} (h17 : ∀ i, σ 17 i < 65536) (he : e < 65536) : sp_Bd (b + 1) (sp_set σ t e) := by
  have hor : (σ 17 t ||| e) < 2 ^ 16 := Nat.or_lt_two_pow (n := 16) (h17 t) he
  have h1 : sp_Bd b (ss_u σ 17 t (σ 17 t ||| e)) := h.u 17 t (by omega)
  unfold sp_set
  split
  · exact h1.ready (by omega) t
  · exact h1.mono (by omega)
theorem sp_fc_4 (σ : ss_S) (t x : Nat) : ∀ r, sp_fc σ t x r ≤ 4 := by
  intro r
  induction r with
  | zero =>
    unfold sp_fc
    split <;> omega
  | succ r ih =>
    unfold sp_fc
    split
    · omega
    · exact ih
theorem sp_Bd.code (h : sp_Bd b σ) (hb : 2 ^ 24 ≤ b) {t c : Nat} (ht : t < 101) (hc : c < 100) : sp_Bd (b + 1) (sp_code σ t c) := by
  unfold sp_code
  split
  · exact h.mono (by omega)
  · exact h.tell (by omega) (by omega)
theorem sp_Bd.do (h : sp_Bd b σ) (hb : 2 ^ 24 ≤ b) (hV : sp_V σ) {t : Nat} (ht : t < 101) (k x : Nat) (hx : x < 2 ^ 23) : sp_Bd (b + 20) (sp_do σ t k x) := by
  have hT := hV.1
  have h17 : ∀ i, σ 17 i < 65536 := hV.2.2.2.2.2.2.2.2.1
  have hnow : σ 43 0 ≤ 50000 := hV.2.2.2.2.2.2.2.2.2
  have tl : ∀ c, c < 100 → sp_Bd (b + 20) (sp_tell σ c t) := fun c hc => (h.tell (by omega) (by omega)).mono (by omega)
  unfold sp_do
  by_cases k1 : k = 1
  · rw [if_pos k1]
    split
    · exact (h.begin (by omega) (by omega)).mono (by omega)
    · exact tl 8 (by decide)
  rw [if_neg k1]
  by_cases k1 : k = 3
  · rw [if_pos k1]
    split
    · exact tl 2 (by decide)
    · split
      · exact tl 4 (by decide)
      · split
        · exact ((h.u 11 t (by omega)).u 18 t (by omega)).mono (by omega)
        · exact h.mono (by omega)
  rw [if_neg k1]
  by_cases k1 : k = 4
  · rw [if_pos k1]
    split
    · split
      · exact (h.set hb _ h17 (Nat.mod_lt _ (by decide))).mono (by omega)
      · exact tl 5 (by decide)
    · exact tl 8 (by decide)
  rw [if_neg k1]
  by_cases k1 : k = 5
  · rw [if_pos k1]
    split
    · exact ((h.u 17 t (h 17 t)).tell (by omega) (by omega)).mono (by omega)
    · have := h17 t
      have := ev_clr_le (a := σ 17 t) x (by omega)
      exact (h.u 17 t (by omega)).mono (by omega)
  rw [if_neg k1]
  have h28 := h 28 0
  by_cases k1 : k = 6
  · rw [if_pos k1]
    split
    · exact ((((h.mono (by omega : b ≤ b + 20)).u 28 0 (by omega)).u 22 x (by omega)).u 23 x (by omega))
    · exact tl 4 (by decide)
  rw [if_neg k1]
  by_cases k1 : k = 7
  · rw [if_pos k1]
    have := sp_fc_4 σ t x 32
    refine ((h.u 22 x ?_).code hb ht (by omega)).mono (by omega)
    split
    · omega
    · exact h 22 x
  rw [if_neg k1]
  by_cases k1 : k = 8
  · rw [if_pos k1]
    refine ((h.u 25 x (by omega)).code hb ht ?_).mono (by omega)
    split <;> decide
  rw [if_neg k1]
  by_cases k1 : k = 9
  · rw [if_pos k1]
    split
    · exact (h.unlock (by omega) hT x).mono (by omega)
    · exact tl 6 (by decide)
  rw [if_neg k1]
  by_cases k1 : k = 10
  · rw [if_pos k1]
    exact (h.u 19 t (by omega)).mono (by omega)
  rw [if_neg k1]
  by_cases k1 : k = 12
  · rw [if_pos k1]
    split
    · exact tl 7 (by decide)
    · exact (((h.u 29 0 (by omega)).u 30 0 (by omega)).u 31 0 (by omega)).mono (by omega)
  rw [if_neg k1]
  split
  · exact ((h.u 29 0 (h 29 0)).tell (by omega) (by omega)).mono (by omega)
  · exact (h.u 29 0 (by omega)).mono (by omega)
theorem sp_V.cg (h : sp_V σ) (hs : ∀ f j, sg f → τ f j = σ f j) (h17 : ∀ i, τ 17 i < 65536) : sp_V τ := by
  obtain ⟨a1, a2, a3, a4, a5, a6, a7, a8, a9, a10⟩ := h
  have e : ∀ f, sg f → τ f 0 = σ f 0 := fun f hf => hs f 0 hf
  refine ⟨by rw [e 1 (by decide)]; exact a1, by rw [e 0 (by decide)]; exact a2, by rw [e 7 (by decide)]; exact a3, by rw [e 32 (by decide)]; exact a4, by rw [e 35 (by decide)]; exact a5, fun k hk => ?_, fun k hk => ?_, fun k hk => ?_, h17, by rw [e 43 (by decide)]; exact a10⟩
  · rw [e 7 (by decide)] at hk
    rw [hs 8 k (by decide), hs 9 k (by decide), hs 10 k (by decide)]
    exact a6 k hk
  · rw [e 32 (by decide)] at hk
    rw [hs 33 k (by decide)]
    exact a7 k hk
  · rw [e 35 (by decide)] at hk
    rw [hs 36 k (by decide)]
    exact a8 k hk
theorem sp_Bd.act (h : sp_Bd b σ) (hb : 2 ^ 24 ≤ b) (hV : sp_V σ) {t : Nat} (ht : t < 101) (k x : Nat) (hx : x < 2 ^ 23) : sp_Bd (b + 25) (sp_act σ t k x) := by
  have h28 := h 28 0
  have h14 := h 14 t
  unfold sp_act
  split
  · exact (h.chain (by omega) hV.1 ht x).mono (by omega)
  · split
    · exact (h.ends (by omega) hV.1 ht).mono (by omega)
    · split
      · exact (((h.mono (by omega : b ≤ b + 25)).u 28 0 (by omega)).u 26 t (by omega)).u 27 t (by omega)
      · have h1 : sp_Bd (b + 1) (ss_u σ 14 t (σ 14 t + 1)) := (h.mono (by omega)).u 14 t (by omega)
        exact (h1.do (by omega) (hV.cg (fun f j hf => ss_uf _ _ _ _ (by omega)) (fun i => by rw [ss_uf _ _ _ _ (by decide)]; exact hV.2.2.2.2.2.2.2.2.1 i)) ht k x hx).mono (by omega)
/-- an UNLOCK is of a lock -/
def gq (σ : ss_S) : Prop := ∀ k, k < σ 7 0 → σ 9 k = 9 → σ 10 k ≠ 0
def sf (σ : ss_S) : Prop := sp_V σ ∧ r24 σ ∧ gp σ ∧ gq σ
theorem sf.cg (h : sf σ) (hs : ∀ f j, sg f → τ f j = σ f j) (h17 : ∀ i, τ 17 i < 65536) : sf τ := by
  obtain ⟨h1, h2, h3, h4⟩ := h
  have e2 : τ 2 = σ 2 := funext (fun j => hs 2 j (by decide))
  have e8 : τ 8 = σ 8 := funext (fun j => hs 8 j (by decide))
  have e9 : τ 9 = σ 9 := funext (fun j => hs 9 j (by decide))
  have e10 : τ 10 = σ 10 := funext (fun j => hs 10 j (by decide))
  have e24 : τ 24 = σ 24 := funext (fun j => hs 24 j (by decide))
  refine ⟨h1.cg hs h17, ?_, ?_, ?_⟩
  · unfold r24 at h2 ⊢
    rw [e2, e8, e9, e10, e24, hs 7 0 (by decide)]
    exact h2
  · unfold gp at h3 ⊢
    rw [e9, e10, hs 7 0 (by decide)]
    exact h3
  · unfold gq at h4 ⊢
    rw [e9, e10, hs 7 0 (by decide)]
    exact h4
/-- one step: what it keeps -/
theorem mv.step (hs : sf σ) (hi : iv σ) (k : Nat) : (iv (sp_step σ k).1 ∧ ∀ t, wt (sp_step σ k).1 t ≤ wt σ t) ∧ ((sp_step σ k).2 ≠ 0 → ∃ t, (1 ≤ t ∧ t ≤ σ 1 0) ∧ wt (sp_step σ k).1 t < wt σ t) ∧ (∀ b, 2 ^ 24 ≤ b → sp_Bd b σ → sp_Bd (b + (if (sp_step σ k).2 = 0 then 0 else 25)) (sp_step σ k).1) := by
  have hc := mv.choose σ k hi
  have hV := hs.1.choose k
  have ha := (sp_choose_after hi.2.1 k).2.2.2
  have hf := sp_choose_f σ k
  have hbc : ∀ b, 2 ^ 24 ≤ b → sp_Bd b σ → sp_Bd b (sp_choose σ k) := fun b hb h => h.choose (by omega) k
  have hst : sp_step σ k = if k = 0 ∧ sp_atHand σ ≠ 0 then (σ, 0) else sp_step1 (sp_choose σ k) (sp_chosen σ k) := rfl
  by_cases q : k = 0 ∧ sp_atHand σ ≠ 0
  · rw [if_pos q] at hst
    rw [hst]
    exact ⟨⟨hi, fun _ => Nat.le_refl _⟩, fun z => absurd rfl z, fun b _ h => h⟩
  rw [if_neg q] at hst
  rw [hst]
  have g1 := hs.2.2.1
  have g2 := hs.2.2.2
  have e7 := hf 7 0 (by decide)
  have e9 := fun j => hf 9 j (by decide)
  have e10 := fun j => hf 10 j (by decide)
  generalize sp_choose σ k = τ at hc hV ha hbc e7 e9 e10
  generalize sp_chosen σ k = t at ha
  clear hf hst
  by_cases z : (sp_step1 τ t).2 = 0
  · have := (sp_step1_0 z).1
    rw [this]
    exact ⟨hc, fun y => absurd rfl y, hbc⟩
  · unfold sp_step1 at z ⊢
    by_cases y : t = 0 ∨ τ 16 t ≠ 0 ∨ τ 26 t ≠ 0
    · rw [if_pos y] at z
      exact absurd rfl z
    · rw [if_neg y] at z ⊢
      have ht0 : t ≠ 0 := by omega
      have h16 : τ 16 t = 0 := by omega
      have h26 : τ 26 t = 0 := by omega
      obtain ⟨v, -, h11, h19⟩ := ha ht0
      have hT := hs.1.1
      cases hn : sp_next τ t with
      | none =>
        obtain ⟨m1, m2⟩ := mv.ends τ t h26
        have m1' := m1 hc.1
        have m2' := m2 hc.1
        have u : ∀ b, 2 ^ 24 ≤ b → sp_Bd b σ → sp_Bd (b + 25) (sp_ends τ t) := fun b hb h => ((hbc b hb h).ends (by omega) hV.1 (t := t) (by omega)).mono (by omega)
        have w : wt τ t = pn τ t - τ 14 t + 1 := by
          unfold wt
          rw [if_neg (by omega), if_neg (by omega)]
        have w' : wt (sp_ends τ t) t < wt σ t := by
          have := hc.2 t
          omega
        generalize sp_ends τ t = υ at u m1' w'
        exact ⟨⟨m1'.1, fun j => Nat.le_trans (m1'.2 j) (hc.2 j)⟩, fun _ => ⟨t, v, w'⟩, u⟩
      | some p =>
        rw [hn] at z
        show (_ ∧ _) ∧ _
        by_cases y9 : τ 9 p = 0
        · have zz : (if τ 9 p = 0 then (τ, 0) else (sp_act τ t (τ 9 p) (τ 10 p), 1)).2 ≠ 0 := z
          rw [if_pos y9] at zz
          exact absurd rfl zz
        · have ep : p < τ 7 0 := sp_nx_lt hn
          have ep' : p < σ 7 0 := by omega
          obtain ⟨m1, m2⟩ := mv.act τ t p hn h11 h19 h16 h26 (fun z8 => by rw [e9] at z8; rw [e10]; exact g1 p ep' z8) (fun z8 => by rw [e9] at z8; rw [e10]; exact g2 p ep' z8)
          have m1' := m1 hc.1
          have m2' := m2 hc.1
          show (iv (if τ 9 p = 0 then (τ, 0) else (sp_act τ t (τ 9 p) (τ 10 p), 1)).1 ∧ ∀ j, wt (if τ 9 p = 0 then (τ, 0) else (sp_act τ t (τ 9 p) (τ 10 p), 1)).1 j ≤ wt σ j) ∧ ((if τ 9 p = 0 then (τ, 0) else (sp_act τ t (τ 9 p) (τ 10 p), 1)).2 ≠ 0 → ∃ j, (1 ≤ j ∧ j ≤ σ 1 0) ∧ wt (if τ 9 p = 0 then (τ, 0) else (sp_act τ t (τ 9 p) (τ 10 p), 1)).1 j < wt σ j) ∧ ∀ b, 2 ^ 24 ≤ b → sp_Bd b σ → sp_Bd (b + (if (if τ 9 p = 0 then (τ, 0) else (sp_act τ t (τ 9 p) (τ 10 p), 1)).2 = 0 then 0 else 25)) (if τ 9 p = 0 then (τ, 0) else (sp_act τ t (τ 9 p) (τ 10 p), 1)).1
          rw [if_neg y9]
          refine ⟨⟨m1'.1, fun j => Nat.le_trans (m1'.2 j) (hc.2 j)⟩, fun _ => ⟨t, v, Nat.lt_of_lt_of_le m2' (hc.2 t)⟩, fun b hb h => ?_⟩
          have hx : τ 10 p < 2 ^ 23 := (hV.2.2.2.2.2.1 p ep).2.2.2.2.2.2
          exact (hbc b hb h).act hb hV (by omega) _ _ hx
end PC
