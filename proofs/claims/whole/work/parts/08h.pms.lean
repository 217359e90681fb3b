/-! Pure: one microsecond, from what a state must bring along -/
abbrev sg (g : Nat) : Prop := g < 11 ∨ g = 20 ∨ g = 24 ∨ (32 ≤ g ∧ g ≤ 38) ∨ g = 43 ∨ g = 44
theorem sp_code_f (σ : ss_S) (t x g j : Nat) (h : sg g) : sp_code σ t x g j = σ g j := by
  unfold sp_code
  split
  · rfl
  · exact sp_tell_f _ _ _ _ _ (by omega)
theorem sp_do_f (σ : ss_S) (t k x g j : Nat) (h : sg g) : sp_do σ t k x g j = σ g j := by
  have ht : ∀ a b, sp_tell σ a b g j = σ g j := fun a b => sp_tell_f _ _ _ _ _ (by omega)
  unfold sp_do
  by_cases k1 : k = 1
  · rw [if_pos k1]
    split
    · exact sp_begin_f _ _ _ _ (by omega)
    · exact ht _ _
  rw [if_neg k1]
  by_cases k1 : k = 3
  · rw [if_pos k1]
    split
    · exact ht _ _
    · split
      · exact ht _ _
      · split
        · rw [ss_uf _ _ _ _ (by omega), ss_uf _ _ _ _ (by omega)]
        · rfl
  rw [if_neg k1]
  by_cases k1 : k = 4
  · rw [if_pos k1]
    split
    · split
      · exact sp_set_f _ _ _ _ _ (by omega)
      · exact ht _ _
    · exact ht _ _
  rw [if_neg k1]
  by_cases k1 : k = 5
  · rw [if_pos k1]
    split
    · rw [sp_tell_f _ _ _ _ _ (by omega), ss_uf _ _ _ _ (by omega)]
    · rw [ss_uf _ _ _ _ (by omega)]
  rw [if_neg k1]
  by_cases k1 : k = 6
  · rw [if_pos k1]
    split
    · rw [ss_uf _ _ _ _ (by omega), ss_uf _ _ _ _ (by omega), ss_uf _ _ _ _ (by omega)]
    · exact ht _ _
  rw [if_neg k1]
  by_cases k1 : k = 7
  · rw [if_pos k1, sp_code_f _ _ _ _ _ h, ss_uf _ _ _ _ (by omega)]
  rw [if_neg k1]
  by_cases k1 : k = 8
  · rw [if_pos k1, sp_code_f _ _ _ _ _ h, ss_uf _ _ _ _ (by omega)]
  rw [if_neg k1]
  by_cases k1 : k = 9
  · rw [if_pos k1]
    split
    · exact sp_unlock_f _ _ _ _ (by omega)
    · exact ht _ _
  rw [if_neg k1]
  by_cases k1 : k = 10
  · rw [if_pos k1, ss_uf _ _ _ _ (by omega)]
  rw [if_neg k1]
  by_cases k1 : k = 12
  · rw [if_pos k1]
    split
    · exact ht _ _
    · rw [ss_uf _ _ _ _ (by omega), ss_uf _ _ _ _ (by omega), ss_uf _ _ _ _ (by omega)]
  rw [if_neg k1]
  split
  · rw [sp_tell_f _ _ _ _ _ (by omega), ss_uf _ _ _ _ (by omega)]
  · rw [ss_uf _ _ _ _ (by omega)]
theorem sp_chain_f (σ : ss_S) (t x g j : Nat) (h : sg g) : sp_chain σ t x g j = σ g j := by
  unfold sp_chain
  split
  · rw [sp_begin_f _ _ _ _ (by omega), sp_chain2_f _ _ _ _ _ (by omega)]
  · rw [sp_chain2_f _ _ _ _ _ (by omega)]
theorem sp_act_f (σ : ss_S) (t k x g j : Nat) (h : sg g) : sp_act σ t k x g j = σ g j := by
  unfold sp_act
  split
  · exact sp_chain_f _ _ _ _ _ h
  · split
    · exact sp_ends_f _ _ _ _ (by omega)
    · split
      · exact sp_spin_f _ _ _ _ _ (by omega)
      · rw [sp_do_f _ _ _ _ _ _ h, ss_uf _ _ _ _ (by omega)]
set_option maxRecDepth 10000 in
theorem sp_step_f (σ : ss_S) (k g j : Nat) (h : sg g) : (sp_step σ k).1 g j = σ g j := by
  unfold sp_step
  split
  · rfl
  · have hc := sp_choose_f σ k g j (by omega)
    generalize sp_choose σ k = τ at hc ⊢
    generalize sp_chosen σ k = t
    unfold sp_step1
    split
    · exact hc
    · cases sp_next τ t with
      | none =>
        have e := sp_ends_f τ t g j (by omega)
        generalize sp_ends τ t = υ at e ⊢
        exact e.trans hc
      | some q =>
        show (if τ 9 q = 0 then (τ, 0) else (sp_act τ t (τ 9 q) (τ 10 q), 1)).1 g j = _
        split
        · exact hc
        · exact (sp_act_f τ t _ _ g j h).trans hc
theorem sp_ins_f (k g j : Nat) (h : sg g) : ∀ n σ s, (sp_ins k n σ s).1 g j = σ g j := by
  intro n
  induction n with
  | zero => exact fun σ s => rfl
  | succ n ih =>
    intro σ s
    unfold sp_ins
    split
    · exact sp_step_f _ _ _ _ h
    · rw [ih, sp_step_f _ _ _ _ h]
theorem sp_row_f (F : Nat) (σ : ss_S) (g j : Nat) (h : sg g) : ∀ k, (sp_row F σ k).1 g j = σ g j := by
  intro k
  induction k with
  | zero => rfl
  | succ k ih =>
    show (sp_ins k F _ _).1 g j = _
    rw [sp_ins_f _ _ _ h, ih]
theorem sp_rounds_f (F C g j : Nat) (h : sg g) : ∀ n σ, sp_rounds F C n σ g j = σ g j := by
  intro n
  induction n with
  | zero => exact fun σ => rfl
  | succ n ih =>
    intro σ
    unfold sp_rounds
    split
    · exact sp_row_f _ _ _ _ h _
    · rw [ih, sp_row_f _ _ _ _ h]
theorem sp_nine_f (σ : ss_S) (g j : Nat) (h : g ≠ 31 ∧ g ≠ 39 ∧ g ≠ 40 ∧ g ≠ 41 ∧ g ≠ 42) : sp_nine σ g j = σ g j := by
  unfold sp_nine
  split
  · rw [ss_uf _ _ _ _ h.1, sp_tell_f _ _ _ _ _ h.2]
  · rfl
theorem sp_mid_f (σ : ss_S) (g j : Nat) (h : sg g) : sp_mid σ g j = σ g j := by
  unfold sp_mid
  rw [sp_nine_f _ _ _ (by omega), sp_rounds_f _ _ _ _ h, sp_al_f _ _ _ (by omega)]
theorem pok_put {σ : ss_S} {k t : Nat} (h3 : σ 3 t = k) (hp : sp_pok σ t) : sp_pok (sp_put (Qw σ 1 k) k t) t := by
  have hnp : ¬ pk σ k t := fun x => by
    have := x.1
    omega
  have ff : ∀ f i, (f ≠ 44 ∧ f ≠ 38) → (i = t ∨ (f ≠ 14 ∧ f ≠ 15 ∧ f ≠ 16 ∧ f ≠ 20)) → sp_put (Qw σ 1 k) k t f i = σ f i := fun f i hf hi => by
    unfold sp_put
    rw [ss_uf _ _ _ _ hf.1]
    by_cases x : f = 14 ∨ f = 15 ∨ f = 16 ∨ f = 20
    · have hi' : i = t := by omega
      rw [Qw_t _ _ _ _ _ x, hi', if_neg hnp]
    · exact Qw_o _ _ _ _ _ (by omega)
  have enx : sp_next (sp_put (Qw σ 1 k) k t) t = sp_next σ t := sp_next_cg t (fun j => ff 8 j (by decide) (by omega)) (ff 7 0 (by decide) (by omega)) (ff 14 t (by decide) (by omega))
  unfold sp_pok at hp ⊢
  rw [ff 26 t (by decide) (by omega), ff 16 t (by decide) (by omega), ff 15 t (by decide) (by omega), enx]
  exact hp
/-- what a microsecond asks of the state before it -/
def MS (σ : ss_S) : Prop := ∃ (b : Nat) (P : Nat → ss_S → Prop) (n : Nat), (sp_Bd b σ ∧ 2 ^ 24 ≤ b ∧ b + 600 ≤ 2 ^ 31) ∧ sp_V σ ∧ sp_Fam (σ 0 0) P ∧ pU P ∧ n < 1000 ∧ P n (sp_al σ (σ 32 0)) ∧ σ 43 0 < 50000 ∧ i9 (sp_rounds 2000 (σ 0 0) 2000 (sp_al σ (σ 32 0))) ∧ (∀ k, k < σ 35 0 → σ 38 k ≤ 10000) ∧ (∀ t, (1 ≤ t ∧ t ≤ σ 1 0) → sp_mid σ 16 t ≠ 0 → sp_mid σ 14 t = 0) ∧ (∀ t, σ 20 t ≤ σ 43 0) ∧ ∃ b', sp_Bd b' (sp_mid σ) ∧ 2 ^ 24 ≤ b' ∧ b' + 200 ≤ 2 ^ 31 ∧ sp_V (sp_mid σ)
/-- the state behind the steps and the choice -/
def ch1 (σ : ss_S) : ss_S := sp_choose (sp_mid σ) 0
theorem ch1_f (σ : ss_S) (g j : Nat) (h : sg g) : ch1 σ g j = σ g j := by
  unfold ch1
  rw [sp_choose_f _ _ _ _ (by omega), sp_mid_f _ _ _ h]
theorem ag_nine (σ : ss_S) (k : Nat) : ag k (sp_nine σ) σ := ⟨fun f j h => sp_nine_f σ f j ⟨h.2.2.2.2.2.2.1, h.2.2.2.2.2.2.2.1, h.2.2.2.2.2.2.2.2.1, h.2.2.2.2.2.2.2.2.2.1, h.2.2.2.2.2.2.2.2.2.2.1⟩, fun j _ => ⟨sp_nine_f σ 11 j (by decide), sp_nine_f σ 19 j (by decide), sp_nine_f σ 26 j (by decide)⟩⟩
theorem r24.cg {σ τ : ss_S} (h : r24 σ) (hf : ∀ g j, g < 11 ∨ g = 24 → τ g j = σ g j) : r24 τ := fun r g1 g2 => by
  have := h r g1 g2
  rw [hf 24 r (by decide), this, hf 7 0 (by decide), show τ 2 = σ 2 from funext fun j => hf 2 j (by decide), show τ 8 = σ 8 from funext fun j => hf 8 j (by decide), show τ 9 = σ 9 from funext fun j => hf 9 j (by decide), show τ 10 = σ 10 from funext fun j => hf 10 j (by decide)]
theorem MS.mid {σ : ss_S} (h : MS σ) : (∀ k, k < σ 0 0 → stl (sp_mid σ) k) ∧ uq (sp_mid σ) ∧ r24 (sp_mid σ) ∧ gp (sp_mid σ) := by
  obtain ⟨b, P, n, -, hV, hF, hU, hn, hp, -⟩ := h
  obtain ⟨e1, e2, n', -, e3⟩ := cR_rounds hF hU (F := 1000) (F' := 2000) 1000 n _ 2000 hp hn (by omega) hn (by omega)
  rw [e1] at e2 e3
  obtain ⟨u1, u2, u3⟩ := hU n' _ e3
  refine ⟨fun k hk => (e2 k hk).cg (ag_nine _ k), u1.cg (sp_nine_f _ _ _ (by decide)) (fun j => sp_nine_f _ _ _ (by decide)) (fun j => sp_nine_f _ _ _ (by decide)) (fun j => sp_nine_f _ _ _ (by decide)), u2.cg (fun g j hg => sp_nine_f _ _ _ (by omega)), u3.cg (sp_nine_f _ _ _ (by decide)) (fun j => sp_nine_f _ _ _ (by decide)) (fun j => sp_nine_f _ _ _ (by decide))⟩
theorem stl_in {τ : ss_S} {k : Nat} (h : stl τ k) (hi : ¬ itr τ k) : sp_choose τ k = τ ∧ (sp_running τ k = 0 ∨ τ 16 (sp_running τ k) ≠ 0 ∨ τ 26 (sp_running τ k) ≠ 0 ∨ ∃ q, sp_next τ (sp_running τ k) = some q ∧ τ 9 q = 0) := by
  unfold stl sp_step at h
  rw [if_neg hi] at h
  have h0 : (sp_step1 (sp_choose τ k) (sp_chosen τ k)).2 = 0 := by rw [h]
  obtain ⟨g1, g2⟩ := sp_step1_0 h0
  have hc : sp_choose τ k = τ := by
    rw [h] at g1
    exact (congrArg Prod.fst g1).symm
  rw [hc, chosen_run hc] at g2
  exact ⟨hc, g2⟩
theorem MS.ch {σ : ss_S} (h : MS σ) : (∀ k, k < σ 0 0 → sp_choose (ch1 σ) k = ch1 σ) ∧ (∀ k, k < σ 0 0 → ¬ itr (ch1 σ) k → sp_running (ch1 σ) k ≠ 0 → psg (ch1 σ) (sp_running (ch1 σ) k)) ∧ uq (ch1 σ) ∧ (ch1 σ 29 0 ≠ 0 → ch1 σ 31 0 ≠ 0 ∨ ch1 σ 43 0 < ch1 σ 30 0) := by
  obtain ⟨m1, m2, m3, m4⟩ := h.mid
  have hc0 := sp_choose_after m2 0
  have hch : ∀ k, k < σ 0 0 → sp_choose (ch1 σ) k = ch1 σ := fun k hk => by
    unfold ch1
    by_cases z : k = 0
    · rw [z]
      exact hc0.2.1
    · exact (ag.ch (sp_mid σ) z).c.choose (stl_in (m1 k hk) (fun y => z y.1)).1
  have hhand : sp_atHand (ch1 σ) = sp_atHand (sp_mid σ) := by
    unfold ch1 sp_atHand
    rw [sp_choose_f _ _ 35 0 (by decide)]
    exact sp_hand_cg (sp_choose_f _ _ 29 0 (by decide)) (fun j => sp_choose_f _ _ 36 j (by decide)) (fun j => sp_choose_f _ _ 37 j (by decide)) (fun j => sp_choose_f _ _ 38 j (by decide)) (sp_choose_f _ _ 43 0 (by decide)) _
  refine ⟨hch, fun k hk hi hr => ?_, ?_, fun z => ?_⟩
  · have hi' : ¬ itr (sp_mid σ) k := fun y => hi ⟨y.1, by rw [hhand]; exact y.2⟩
    obtain ⟨s1, s2⟩ := stl_in (m1 k hk) hi'
    have er : sp_running (ch1 σ) k = sp_running (sp_mid σ) k := by
      by_cases z : k = 0
      · have : ch1 σ = sp_mid σ := by
          unfold ch1
          rw [z] at s1
          exact s1
        rw [this]
      · exact (ag.ch (sp_mid σ) z).c.run.1
    rw [er] at hr ⊢
    have f := fun g j (hg : g ≠ 11 ∧ g ≠ 19) => sp_choose_f (sp_mid σ) 0 g j hg
    unfold psg
    have enx : sp_next (ch1 σ) (sp_running (sp_mid σ) k) = sp_next (sp_mid σ) (sp_running (sp_mid σ) k) := sp_next_cg _ (fun j => f 8 j (by decide)) (f 7 0 (by decide)) (f 14 _ (by decide))
    rw [enx, show ch1 σ 26 (sp_running (sp_mid σ) k) = sp_mid σ 26 (sp_running (sp_mid σ) k) from f 26 _ (by decide), show ch1 σ 16 (sp_running (sp_mid σ) k) = sp_mid σ 16 (sp_running (sp_mid σ) k) from f 16 _ (by decide)]
    rcases s2 with y | y | y | ⟨q, y1, y2⟩
    · exact absurd y hr
    · exact Or.inr (Or.inl y)
    · exact Or.inl y
    · exact Or.inr (Or.inr ⟨q, y1, (f 9 q (by decide)).trans y2⟩)
  · obtain ⟨g1, g2⟩ := m2
    refine ⟨fun t t' h1 h2 h3 h4 h5 => ?_, fun t h1 h2 => ?_⟩
    · have e1 : ch1 σ 1 0 = sp_mid σ 1 0 := sp_choose_f _ _ 1 0 (by decide)
      have e3 : ∀ j, ch1 σ 3 j = sp_mid σ 3 j := fun j => sp_choose_f _ _ 3 j (by decide)
      rw [e1] at h1 h2
      rw [e3, e3] at h3
      by_cases z : sp_mid σ 3 t = 0
      · have z' : sp_mid σ 3 t' = 0 := by omega
        rcases sp_choose_cases (sp_mid σ) 0 with ⟨a1, -⟩ | ⟨a0, a1, a2, -⟩ | ⟨b, a1, a2, a3, a4, a5, a6, a7, a8⟩
        · unfold ch1 at h4 h5
          rw [a1] at h4 h5
          exact g1 t t' h1 h2 h3 h4 h5
        · unfold ch1 at h4 h5
          rw [a2] at h4 h5
          exact g1 t t' h1 h2 h3 h4 h5
        · have key : ∀ u, (1 ≤ u ∧ u ≤ sp_mid σ 1 0) → sp_mid σ 3 u = 0 → ch1 σ 11 u = 2 → u = b := fun u hu hu3 hu2 => by
            unfold ch1 at hu2
            rw [a8, ss_ue] at hu2
            by_cases y : u = b
            · exact y
            · rw [if_neg y] at hu2
              exfalso
              have hw := sp_running_spec (sp_mid σ) 0
              by_cases x : sp_running (sp_mid σ) 0 = 0
              · rw [if_pos x] at hu2
                rcases hw with w | w
                · exact w.2 u hu.1 hu.2 ⟨hu3, hu2⟩
                · omega
              · rw [if_neg x, ss_ue] at hu2
                by_cases v : u = sp_running (sp_mid σ) 0
                · rw [if_pos v] at hu2
                  omega
                · rw [if_neg v] at hu2
                  have w := hw.resolve_left (fun w => x w.1)
                  exact v (g1 u _ hu w.1 (by rw [hu3, w.2.1]) hu2 w.2.2)
          rw [key t h1 z h4, key t' h2 z' h5]
      · have o1 := (sp_choose_other (sp_mid σ) 0 t z).1
        have o2 := (sp_choose_other (sp_mid σ) 0 t' (by omega)).1
        exact g1 t t' h1 h2 h3 (o1.symm.trans h4) (o2.symm.trans h5)
    · have e1 : ch1 σ 1 0 = sp_mid σ 1 0 := sp_choose_f _ _ 1 0 (by decide)
      rw [e1] at h1
      unfold ch1 at h2 ⊢
      rcases sp_choose_cases (sp_mid σ) 0 with ⟨a1, -⟩ | ⟨a0, a1, a2, -⟩ | ⟨b, a1, a2, a3, a4, a5, a6, a7, a8⟩
      · rw [a1] at h2 ⊢
        exact g2 t h1 h2
      · rw [a2] at h2 ⊢
        have : ss_u (sp_mid σ) 19 (sp_running (sp_mid σ) 0) 0 11 t = sp_mid σ 11 t := ss_uf _ _ _ _ (by decide)
        rw [this] at h2
        rw [ss_ue]
        split
        · rfl
        · exact g2 t h1 h2
      · rw [a8] at h2 ⊢
        rw [ss_ue] at h2
        rw [ss_uf _ _ _ _ (by decide)]
        by_cases y : t = b
        · rw [if_pos y] at h2
          exact absurd rfl h2
        · rw [if_neg y] at h2
          by_cases x : sp_running (sp_mid σ) 0 = 0
          · rw [if_pos x] at h2 ⊢
            exact g2 t h1 h2
          · rw [if_neg x] at h2 ⊢
            rw [ss_ue] at h2
            rw [ss_uf _ _ _ _ (by decide), ss_ue]
            by_cases v : t = sp_running (sp_mid σ) 0
            · rw [if_pos v]
            · rw [if_neg v]
              rw [if_neg v, ss_uf _ _ _ _ (by decide)] at h2
              exact g2 t h1 h2
  · obtain ⟨b, P, n, -, hV, hF, hU, hn, hp, hnow, hi9, -⟩ := h
    have f := fun g j (hg : g ≠ 11 ∧ g ≠ 19) => sp_choose_f (sp_mid σ) 0 g j hg
    have z' : sp_mid σ 29 0 ≠ 0 := fun y => z ((f 29 0 (by decide)).trans y)
    rw [show ch1 σ 31 0 = sp_mid σ 31 0 from f 31 0 (by decide), show ch1 σ 30 0 = sp_mid σ 30 0 from f 30 0 (by decide), show ch1 σ 43 0 = sp_mid σ 43 0 from f 43 0 (by decide)]
    unfold sp_mid at z' ⊢
    generalize sp_rounds 2000 (σ 0 0) 2000 (sp_al σ (σ 32 0)) = ρ at hi9 z' ⊢
    rw [sp_nine_f _ 29 0 (by decide)] at z'
    rw [sp_nine_f _ 30 0 (by decide), sp_nine_f _ 43 0 (by decide)]
    have := hi9 z'
    unfold sp_nine
    split
    · exact Or.inl (by rw [ss_us]; decide)
    · rename_i y
      by_cases w : ρ 31 0 = 0
      · exact Or.inr (by omega)
      · exact Or.inl w
theorem psg.pok {σ : ss_S} {t : Nat} (h : psg σ t) : sp_pok σ t := by
  rcases h with h | h | ⟨k, h, -⟩
  · exact Or.inl h
  · exact Or.inr (Or.inl h)
  · exact Or.inr (Or.inr (Or.inr (by rw [h]; exact fun z => (by cases z))))
theorem MS.micro {σ : ss_S} (h : MS σ) (hC : 1 ≤ σ 0 0) : sp_micro σ = (Qs (ch1 σ) 1 (σ 0 0), nsw (ch1 σ) (σ 0 0)) ∧ ∀ k, k < σ 0 0 → sp_choose (sp_pc (sp_mid σ) k).1 k = Qw (ch1 σ) 1 k ∧ sp_chosen (sp_pc (sp_mid σ) k).1 k = sp_running (ch1 σ) k := by
  obtain ⟨c1, c2, c3, c4⟩ := h.ch
  obtain ⟨m1, m2, m3, m4⟩ := h.mid
  have hnow : ch1 σ 43 0 < 50000 := by
    rw [ch1_f _ _ _ (by decide)]
    obtain ⟨b, P, n, -, hV, hF, hU, hn, hp, hnow, -⟩ := h
    exact hnow
  have hpc := pc_Qw m2 (rfl : sp_choose (sp_mid σ) 0 = ch1 σ) c1 hnow (fun k hk hi hr => (c2 k hk hi hr).pok)
  obtain ⟨p1, p2⟩ := hpc (σ 0 0) (Nat.le_refl _)
  refine ⟨?_, fun k hk => ?_⟩
  · unfold sp_micro
    rw [p1 (by omega), p2, Qw_o _ _ _ _ _ (by decide)]
    rfl
  · by_cases z : k = 0
    · subst z
      rw [Qw_0]
      exact ⟨rfl, (sp_choose_after m2 0).1.symm⟩
    · rw [(hpc k (Nat.le_of_lt hk)).1 z]
      have a := agc_Qw (ch1 σ) 1 k k
      exact ⟨a.choose (c1 k hk), a.run.2.trans (chosen_run (c1 k hk))⟩
theorem MS.mok {σ : ss_S} (h : MS σ) : sp_mok σ := by
  have hC : 1 ≤ σ 0 0 := by
    obtain ⟨b, P, n, -, hV, -⟩ := h
    exact hV.2.1.1
  have hm := (h.micro hC).2
  obtain ⟨c1, c2, c3, c4⟩ := h.ch
  have h' := h
  obtain ⟨b, P, n, ⟨hb1, hb2, hb3⟩, hV, hF, hU, hn, hp, hnow, hi9, h38, h16, h20, b', d1, d2, d3, d4⟩ := h'
  refine ⟨b, P, hb1, hb2, hb3, hV, hF, ⟨n, by omega, hp⟩, hnow, sp_mid_f _ _ _ (by decide), ⟨b', d1, d2, d3, d4, sp_mid_f _ _ _ (by decide)⟩, fun k hk hi hr => ?_⟩
  obtain ⟨e1, e2⟩ := hm k hk
  rw [e1] at hi ⊢
  rw [e2] at hr ⊢
  have hni : ¬ itr (ch1 σ) k := fun z => by
    unfold sp_ci at hi
    rw [if_pos z.1, z.1, Qw_0] at hi
    exact z.2 hi
  have hrs := (sp_running_spec (ch1 σ) k).resolve_left (fun z => hr z.1)
  exact pok_put hrs.2.1 (c2 k hk hni hr).pok
