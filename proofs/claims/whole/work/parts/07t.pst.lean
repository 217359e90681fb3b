/-! Pure: a look at a task, and a step; rounds of looks are rounds of steps -/
def stl (τ : ss_S) (k : Nat) : Prop := sp_step τ k = (τ, 0)
/-- a LOCK is of a lock -/
def gp (σ : ss_S) : Prop := ∀ k, k < σ 7 0 → σ 9 k = 8 → σ 10 k ≠ 0
/-- the same for a core -/
abbrev agf (f : Nat) : Prop := f ≠ 11 ∧ f ≠ 19 ∧ f ≠ 26 ∧ f ≠ 27 ∧ f ≠ 28 ∧ f ≠ 20 ∧ f ≠ 31 ∧ f ≠ 39 ∧ f ≠ 40 ∧ f ≠ 41 ∧ f ≠ 42 ∧ f ≠ 44
def ag (k : Nat) (τ' τ : ss_S) : Prop := (∀ f j, agf f → τ' f j = τ f j) ∧ ∀ j, τ 3 j = k → τ' 11 j = τ 11 j ∧ τ' 19 j = τ 19 j ∧ τ' 26 j = τ 26 j
/-- the same for a core's choice -/
def agc (k : Nat) (τ' τ : ss_S) : Prop := (∀ f j, f = 1 ∨ f = 2 ∨ f = 3 ∨ f = 6 ∨ f = 12 ∨ f = 22 ∨ f = 24 → τ' f j = τ f j) ∧ ∀ j, τ 3 j = k → τ' 11 j = τ 11 j ∧ τ' 19 j = τ 19 j
theorem ag.c {τ' τ : ss_S} {k : Nat} (h : ag k τ' τ) : agc k τ' τ := ⟨fun f j hf => h.1 f j (by unfold agf; omega), fun j hj => ⟨(h.2 j hj).1, (h.2 j hj).2.1⟩⟩
theorem sp_hand_cg {σ τ : ss_S} (h29 : τ 29 0 = σ 29 0) (h36 : ∀ j, τ 36 j = σ 36 j) (h37 : ∀ j, τ 37 j = σ 37 j) (h38 : ∀ j, τ 38 j = σ 38 j) (h43 : τ 43 0 = σ 43 0) : ∀ n, sp_hand τ n = sp_hand σ n := by
  intro n
  induction n with
  | zero => rfl
  | succ n ih =>
    unfold sp_hand
    rw [ih, h29, h36, h36, h37, h38, h43]
theorem sp_nth_cg {σ τ : ss_S} (t : Nat) (h8 : ∀ j, τ 8 j = σ 8 j) : ∀ d k n, sp_nth τ t d k n = sp_nth σ t d k n := by
  intro d
  induction d with
  | zero => exact fun _ _ => rfl
  | succ d ih =>
    intro k n
    unfold sp_nth
    rw [h8, ih, ih]
theorem sp_next_cg {σ τ : ss_S} (t : Nat) (h8 : ∀ j, τ 8 j = σ 8 j) (h7 : τ 7 0 = σ 7 0) (h14 : τ 14 t = σ 14 t) : sp_next τ t = sp_next σ t := by
  unfold sp_next
  rw [h7, h14]
  exact sp_nth_cg t h8 _ _ _
theorem ag.hand {τ' τ : ss_S} {k : Nat} (h : ag k τ' τ) : sp_atHand τ' = sp_atHand τ := by
  unfold sp_atHand
  rw [h.1 35 0 (by decide)]
  exact sp_hand_cg (h.1 29 0 (by decide)) (fun j => h.1 36 j (by decide)) (fun j => h.1 37 j (by decide)) (fun j => h.1 38 j (by decide)) (h.1 43 0 (by decide)) _
theorem agc.run {τ' τ : ss_S} {k : Nat} (h : agc k τ' τ) : sp_running τ' k = sp_running τ k ∧ sp_chosen τ' k = sp_chosen τ k := by
  have f := h.1
  have e1 : sp_running τ' k = sp_running τ k := by
    unfold sp_running
    rw [f 1 0 (by decide)]
    exact sp_run_cg k (fun j => f 3 j (by decide)) (fun j hj => (h.2 j hj).1) _
  refine ⟨e1, ?_⟩
  unfold sp_chosen
  rw [e1, f 1 0 (by decide), f 6 _ (by decide), sp_best_cg (σ := τ) (τ := τ') k (sp_running τ k) (fun j => f 2 j (by decide)) (fun j => f 3 j (by decide)) (fun j => f 12 j (by decide)) (fun j => f 22 j (by decide)) (fun j => f 24 j (by decide)) (fun j hj => (h.2 j hj).1)]
  rcases sp_running_spec τ k with z | z
  · rw [z.1]
    rw [if_neg (fun y => y.1 rfl), if_neg (fun y => y.1 rfl)]
  · rw [(h.2 _ z.2.1).2]
theorem agc.choose {τ' τ : ss_S} {k : Nat} (h : agc k τ' τ) (hc : sp_choose τ k = τ) : sp_choose τ' k = τ' := by
  obtain ⟨e1, e2⟩ := h.run
  have hw := sp_running_spec τ k
  have c19 : sp_running τ k ≠ 0 → τ 19 (sp_running τ k) = 0 ∧ sp_chosen τ k = sp_running τ k := fun hz => by
    rcases sp_choose_cases τ k with ⟨a1, a2, a3⟩ | ⟨a0, a1, a2, a3⟩ | ⟨b, a1, a2, a3, a4, a5, a6, a7, a8⟩
    · rcases a3 with y | y
      · exact absurd y hz
      · exact ⟨y.2, a2⟩
    · rw [hc] at a2
      refine ⟨?_, a1⟩
      have h19 := congrFun (congrFun a2 19) (sp_running τ k)
      rw [ss_us] at h19
      exact h19
    · rw [hc] at a8
      have : τ 11 b = 2 := by
        rw [a8]
        exact ss_us _ _ _ _
      omega
  have c0 : sp_running τ k = 0 → sp_chosen τ k = 0 := fun hz => by
    rcases sp_choose_cases τ k with ⟨a1, a2, a3⟩ | ⟨a0, a1, a2, a3⟩ | ⟨b, a1, a2, a3, a4, a5, a6, a7, a8⟩
    · rw [a2, hz]
    · exact absurd hz a0
    · rw [hc] at a8
      have : τ 11 b = 2 := by
        rw [a8]
        exact ss_us _ _ _ _
      omega
  rcases sp_choose_cases τ' k with ⟨a1, a2, a3⟩ | ⟨a0, a1, a2, a3⟩ | ⟨b, a1, a2, a3, a4, a5, a6, a7, a8⟩
  · exact a1
  · rw [e1] at a0 a2
    rw [a2]
    have z := hw.resolve_left (fun z => a0 z.1)
    exact ss_id ((h.2 _ z.2.1).2.trans (c19 a0).1)
  · rw [e1] at a2
    rw [e2] at a1
    by_cases hz : sp_running τ k = 0
    · have := c0 hz
      omega
    · have := (c19 hz).2
      omega
theorem sp_chosen_core (σ : ss_S) (k : Nat) (h : sp_chosen σ k ≠ 0) : (1 ≤ sp_chosen σ k ∧ sp_chosen σ k ≤ σ 1 0) ∧ σ 3 (sp_chosen σ k) = k := by
  have hw := sp_running_spec σ k
  rcases sp_choose_cases σ k with ⟨a1, a2, a3⟩ | ⟨a0, a1, a2, a3⟩ | ⟨b, a1, a2, a3, a4, a5, a6, a7, a8⟩
  · rw [a2] at h ⊢
    have z := hw.resolve_left (fun z => h z.1)
    exact ⟨z.1, z.2.1⟩
  · rw [a1] at h ⊢
    have z := hw.resolve_left (fun z => h z.1)
    exact ⟨z.1, z.2.1⟩
  · rw [a1]
    exact ⟨a3, a4⟩
/-- a step's result is its state and a mark -/
theorem sp_step1_0 {τ : ss_S} {t : Nat} (h : (sp_step1 τ t).2 = 0) : sp_step1 τ t = (τ, 0) ∧ (t = 0 ∨ τ 16 t ≠ 0 ∨ τ 26 t ≠ 0 ∨ ∃ q, sp_next τ t = some q ∧ τ 9 q = 0) := by
  unfold sp_step1 at h ⊢
  by_cases q : t = 0 ∨ τ 16 t ≠ 0 ∨ τ 26 t ≠ 0
  · rw [if_pos q]
    exact ⟨rfl, q.imp id (fun z => z.imp id Or.inl)⟩
  · rw [if_neg q] at h ⊢
    cases hn : sp_next τ t with
    | none =>
      rw [hn] at h
      exact absurd h (by show (1 : Nat) ≠ 0; decide)
    | some k =>
      rw [hn] at h
      by_cases z : τ 9 k = 0
      · refine ⟨?_, Or.inr (Or.inr (Or.inr ⟨k, rfl, z⟩))⟩
        show (if τ 9 k = 0 then _ else _) = _
        rw [if_pos z]
      · have h' : (if τ 9 k = 0 then (τ, 0) else (sp_act τ t (τ 9 k) (τ 10 k), 1)).2 = 0 := h
        rw [if_neg z] at h'
        exact absurd h' (by show (1 : Nat) ≠ 0; decide)
theorem sp_step1_of {τ : ss_S} {t : Nat} (h : t = 0 ∨ τ 16 t ≠ 0 ∨ τ 26 t ≠ 0 ∨ ∃ q, sp_next τ t = some q ∧ τ 9 q = 0) : sp_step1 τ t = (τ, 0) := by
  unfold sp_step1
  by_cases q : t = 0 ∨ τ 16 t ≠ 0 ∨ τ 26 t ≠ 0
  · rw [if_pos q]
  · rw [if_neg q]
    obtain ⟨k, h1, h2⟩ : ∃ q, sp_next τ t = some q ∧ τ 9 q = 0 := by
      rcases h with h | h | h | h
      · exact absurd (Or.inl h) q
      · exact absurd (Or.inr (Or.inl h)) q
      · exact absurd (Or.inr (Or.inr h)) q
      · exact h
    rw [h1]
    show (if τ 9 k = 0 then _ else _) = _
    rw [if_pos h2]
theorem stl.cg {τ' τ : ss_S} {k : Nat} (hs : stl τ k) (h : ag k τ' τ) : stl τ' k := by
  unfold stl sp_step at hs ⊢
  have f := h.1
  rw [h.hand]
  by_cases q : k = 0 ∧ sp_atHand τ ≠ 0
  · rw [if_pos q]
  · rw [if_neg q] at hs ⊢
    obtain ⟨e1, e2⟩ := h.c.run
    have h0 : (sp_step1 (sp_choose τ k) (sp_chosen τ k)).2 = 0 := by rw [hs]
    obtain ⟨g1, g2⟩ := sp_step1_0 h0
    have hc : sp_choose τ k = τ := by
      rw [hs] at g1
      exact (congrArg Prod.fst g1).symm
    rw [h.c.choose hc, e2]
    rw [hc] at g2
    apply sp_step1_of
    by_cases z : sp_chosen τ k = 0
    · exact Or.inl z
    · have z3 := (sp_chosen_core τ k z).2
      generalize sp_chosen τ k = t at *
      rcases g2 with y | y | y | ⟨q', y1, y2⟩
      · exact Or.inl y
      · exact Or.inr (Or.inl (by rw [f 16 t (by decide)]; exact y))
      · exact Or.inr (Or.inr (Or.inl (by rw [(h.2 t z3).2.2]; exact y)))
      · refine Or.inr (Or.inr (Or.inr ⟨q', ?_, ?_⟩))
        · rw [sp_next_cg (σ := τ) t (fun j => f 8 j (by decide)) (f 7 0 (by decide)) (f 14 t (by decide))]
          exact y1
        · rw [f 9 q' (by decide)]
          exact y2
theorem sp_choose_other (σ : ss_S) (k j : Nat) (h : σ 3 j ≠ k) : sp_choose σ k 11 j = σ 11 j ∧ sp_choose σ k 19 j = σ 19 j := by
  have hw := sp_running_spec σ k
  have hne : sp_running σ k ≠ 0 → j ≠ sp_running σ k := fun z y => by
    have := (hw.resolve_left (fun x => z x.1)).2.1
    rw [← y] at this
    exact h this
  rcases sp_choose_cases σ k with ⟨a1, a2, a3⟩ | ⟨a0, a1, a2, a3⟩ | ⟨b, a1, a2, a3, a4, a5, a6, a7, a8⟩
  · rw [a1]
    exact ⟨rfl, rfl⟩
  · have := hne a0
    rw [a2]
    generalize sp_running σ k = w at *
    exact ⟨rfl, ss_ui _ _ _ _ this⟩
  · have hb : j ≠ b := fun z => by
      rw [z] at h
      exact h a4
    rw [a8]
    generalize sp_running σ k = w at *
    by_cases z : w = 0
    · rw [if_pos z]
      exact ⟨ss_ui _ _ _ _ hb, rfl⟩
    · have := hne z
      rw [if_neg z]
      refine ⟨?_, ?_⟩
      · rw [ss_ui _ _ _ _ hb, ss_ui _ _ _ _ this]
        rfl
      · show ss_u σ 19 w 0 19 j = _
        rw [ss_ui _ _ _ _ this]
theorem ag.ch (σ : ss_S) {k k' : Nat} (h : k ≠ k') : ag k (sp_choose σ k') σ := ⟨fun f j hf => sp_choose_f σ k' f j ⟨hf.1, hf.2.1⟩, fun j hj => ⟨(sp_choose_other σ k' j (by omega)).1, (sp_choose_other σ k' j (by omega)).2, sp_choose_f σ k' 26 j (by decide)⟩⟩
theorem ag.spin (σ : ss_S) {k t : Nat} (x : Nat) (h : σ 3 t ≠ k) : ag k (sp_spin σ t x) σ := by
  refine ⟨fun f j hf => sp_spin_f σ t x f j ⟨hf.2.2.1, hf.2.2.2.1, hf.2.2.2.2.1⟩, fun j hj => ⟨rfl, rfl, ?_⟩⟩
  show ss_u σ 26 t x 26 j = _
  rw [ss_ui _ _ _ _ (fun z => by rw [z] at hj; exact h hj)]
theorem ag.trans {τ2 τ1 τ : ss_S} {k : Nat} (h2 : ag k τ2 τ1) (h1 : ag k τ1 τ) : ag k τ2 τ := ⟨fun f j a => (h2.1 f j a).trans (h1.1 f j a), fun j hj => by
  have h3 := h1.1 3 j (by decide)
  obtain ⟨a1, a2, a3⟩ := h2.2 j (h3.trans hj)
  obtain ⟨b1, b2, b3⟩ := h1.2 j hj
  exact ⟨a1.trans b1, a2.trans b2, a3.trans b3⟩⟩
theorem ag.rfl' (σ : ss_S) (k : Nat) : ag k σ σ := ⟨fun _ _ _ => rfl, fun _ _ => ⟨rfl, rfl, rfl⟩⟩
theorem sp_nx_lt {σ : ss_S} {t q : Nat} (h : sp_next σ t = some q) : q < σ 7 0 := (sp_next_lt h).1
/-- what a look at a task says of its step -/
theorem lk_spec (τ : ss_S) (t : Nat) (hg : gp τ) : ((lk τ t).2 ≠ 0 ∧ lk τ t = (τ, t) ∧ t ≠ 0 ∧ τ 16 t = 0 ∧ τ 26 t = 0 ∧ (∀ q, sp_next τ t = some q → τ 9 q ≠ 0 ∧ ¬ (τ 9 q = 8 ∧ τ 25 (τ 10 q) ≠ 0 ∧ τ 25 (τ 10 q) ≠ t)) ∧ sp_step1 τ t = (sp_dn τ t, 1)) ∨
    (lk τ t = (τ, 0) ∧ sp_step1 τ t = (τ, 0)) ∨ ∃ x, x ≠ 0 ∧ t ≠ 0 ∧ lk τ t = (sp_spin τ t x, 0) ∧ sp_step1 τ t = (sp_spin τ t x, 1) := by
  unfold lk sp_step1 sp_dn
  by_cases q : t = 0 ∨ τ 16 t ≠ 0 ∨ τ 26 t ≠ 0
  · rw [if_pos q, if_pos q]
    exact Or.inr (Or.inl ⟨rfl, rfl⟩)
  · rw [if_neg q, if_neg q]
    cases hn : sp_next τ t with
    | none =>
      refine Or.inl ⟨?_, rfl, by omega, by omega, by omega, fun q h => (by cases h), rfl⟩
      show t ≠ 0
      omega
    | some k =>
      have hk := sp_nx_lt hn
      by_cases z : τ 9 k = 0
      · refine Or.inr (Or.inl ⟨?_, ?_⟩)
        · show (if τ 9 k = 0 then _ else _) = _
          rw [if_pos z]
        · show (if τ 9 k = 0 then _ else _) = _
          rw [if_pos z]
      · by_cases y : τ 9 k = 8 ∧ τ 25 (τ 10 k) ≠ 0 ∧ τ 25 (τ 10 k) ≠ t
        · refine Or.inr (Or.inr ⟨τ 10 k, hg k hk y.1, by omega, ?_, ?_⟩)
          · show (if τ 9 k = 0 then _ else if _ then _ else _) = _
            rw [if_neg z, if_pos y]
          · show (if τ 9 k = 0 then _ else _) = _
            rw [if_neg z]
            unfold sp_act
            rw [if_neg (by omega), if_neg (by omega), if_pos y]
        · have e1 : (if τ 9 k = 0 then (τ, 0) else if τ 9 k = 8 ∧ τ 25 (τ 10 k) ≠ 0 ∧ τ 25 (τ 10 k) ≠ t then (sp_spin τ t (τ 10 k), 0) else (τ, t)) = (τ, t) := by rw [if_neg z, if_neg y]
          have e2 : (if τ 9 k = 0 then (τ, 0) else (sp_act τ t (τ 9 k) (τ 10 k), 1)) = (sp_act τ t (τ 9 k) (τ 10 k), 1) := by rw [if_neg z]
          refine Or.inl ⟨?_, e1, by omega, by omega, by omega, fun q h => ?_, e2⟩
          · show (if τ 9 k = 0 then (τ, 0) else if τ 9 k = 8 ∧ τ 25 (τ 10 k) ≠ 0 ∧ τ 25 (τ 10 k) ≠ t then (sp_spin τ t (τ 10 k), 0) else (τ, t)).2 ≠ 0
            rw [e1]
            show t ≠ 0
            omega
          · have : k = q := Option.some.inj h
            subst this
            exact ⟨z, y⟩
theorem gp.cg {σ τ : ss_S} (h : gp σ) (h7 : τ 7 0 = σ 7 0) (h9 : ∀ j, τ 9 j = σ 9 j) (h10 : ∀ j, τ 10 j = σ 10 j) : gp τ := fun k hk h8 => by
  rw [h10]
  rw [h7] at hk
  rw [h9] at h8
  exact h k hk h8
theorem gp.choose {σ : ss_S} (h : gp σ) (k : Nat) : gp (sp_choose σ k) := h.cg (sp_choose_f σ k 7 0 (by decide)) (fun j => sp_choose_f σ k 9 j (by decide)) (fun j => sp_choose_f σ k 10 j (by decide))
/-- what a look at a core says of its step -/
theorem look_spec {σ : ss_S} (hu : uq σ) (hg : gp σ) (k : Nat) : ((sp_look σ k).2 ≠ 0 ∧ sp_step σ k = (sp_dn (sp_look σ k).1 (sp_look σ k).2, 1) ∧ sp_look σ k = (sp_choose σ k, sp_chosen σ k) ∧ sp_choose σ k 16 (sp_chosen σ k) = 0 ∧ sp_choose σ k 26 (sp_chosen σ k) = 0 ∧ (∀ q, sp_next (sp_choose σ k) (sp_chosen σ k) = some q → sp_choose σ k 9 q ≠ 0 ∧ ¬ (sp_choose σ k 9 q = 8 ∧ sp_choose σ k 25 (sp_choose σ k 10 q) ≠ 0 ∧ sp_choose σ k 25 (sp_choose σ k 10 q) ≠ sp_chosen σ k))) ∨
    ((sp_look σ k).2 = 0 ∧ stl (sp_look σ k).1 k ∧ (sp_step σ k = ((sp_look σ k).1, 0) ∨ sp_step σ k = ((sp_look σ k).1, 1)) ∧ ∀ k', k' ≠ k → ag k' (sp_look σ k).1 σ) := by
  have hstep : sp_step σ k = if k = 0 ∧ sp_atHand σ ≠ 0 then (σ, 0) else sp_step1 (sp_choose σ k) (sp_chosen σ k) := rfl
  have hlook : sp_look σ k = if k = 0 ∧ sp_atHand σ ≠ 0 then (σ, 0) else lk (sp_choose σ k) (sp_chosen σ k) := rfl
  by_cases q : k = 0 ∧ sp_atHand σ ≠ 0
  · rw [if_pos q] at hstep hlook
    rw [hlook]
    exact Or.inr ⟨rfl, hstep, Or.inl hstep, fun k' _ => ag.rfl' σ k'⟩
  · rw [if_neg q] at hstep hlook
    have hh : sp_atHand (sp_choose σ k) = sp_atHand σ := by
      unfold sp_atHand
      rw [sp_choose_f σ k 35 0 (by decide)]
      exact sp_hand_cg (sp_choose_f σ k 29 0 (by decide)) (fun j => sp_choose_f σ k 36 j (by decide)) (fun j => sp_choose_f σ k 37 j (by decide)) (fun j => sp_choose_f σ k 38 j (by decide)) (sp_choose_f σ k 43 0 (by decide)) _
    obtain ⟨a1, a2, a3, a4⟩ := sp_choose_after hu k
    have t3 : sp_chosen σ k ≠ 0 → sp_choose σ k 3 (sp_chosen σ k) = k := fun z => (sp_choose_f σ k 3 _ (by decide)).trans (a4 z).2.1
    have agc : ∀ k', k' ≠ k → ag k' (sp_choose σ k) σ := fun k' h => ag.ch σ h
    have hg' := hg.choose k
    generalize sp_choose σ k = τ at *
    generalize sp_chosen σ k = t at *
    rw [hlook, hstep]
    rcases lk_spec τ t hg' with ⟨b1, b2, b3, b4, b5, b6, b7⟩ | ⟨b1, b2⟩ | ⟨x, b1, b2, b3, b4⟩
    · rw [b2]
      exact Or.inl ⟨b3, b7, rfl, b4, b5, b6⟩
    · rw [b1, b2]
      refine Or.inr ⟨rfl, ?_, Or.inl rfl, agc⟩
      show sp_step τ k = (τ, 0)
      unfold sp_step
      rw [hh, if_neg q, a2, a3, b2]
    · rw [b3, b4]
      have t3' := t3 b2
      refine Or.inr ⟨rfl, ?_, Or.inr rfl, fun k' h => (ag.spin τ x (by rw [t3']; exact Ne.symm h)).trans (agc k' h)⟩
      show sp_step (sp_spin τ t x) k = (sp_spin τ t x, 0)
      have e0 : sp_atHand (sp_spin τ t x) = sp_atHand τ := by
        unfold sp_atHand
        exact sp_hand_cg (σ := τ) (τ := sp_spin τ t x) rfl (fun _ => rfl) (fun _ => rfl) (fun _ => rfl) rfl _
      have er : sp_running (sp_spin τ t x) k = sp_running τ k := sp_run_cg (σ := τ) (τ := sp_spin τ t x) k (fun _ => rfl) (fun _ _ => rfl) _
      have eb : ∀ w n, sp_best (sp_spin τ t x) k w n = sp_best τ k w n := fun w n => sp_best_cg (σ := τ) (τ := sp_spin τ t x) k w (fun _ => rfl) (fun _ => rfl) (fun _ => rfl) (fun _ => rfl) (fun _ => rfl) (fun _ _ => rfl) n
      have ec : sp_chosen (sp_spin τ t x) k = t := by
        refine Eq.trans ?_ a3
        unfold sp_chosen
        rw [er, eb]
        rfl
      have e2 : sp_choose (sp_spin τ t x) k = sp_spin τ t x := by
        have h1 : ∀ w b, sp_upd τ w b = τ → sp_upd (sp_spin τ t x) w b = sp_spin τ t x := fun w b hz => by
          have e11 : ∀ j, sp_upd (sp_spin τ t x) w b 11 j = sp_upd τ w b 11 j ∧ sp_upd (sp_spin τ t x) w b 19 j = sp_upd τ w b 19 j := fun j => by
            unfold sp_upd
            split
            · split
              · exact ⟨rfl, rfl⟩
              · exact ⟨rfl, rfl⟩
            · split
              · exact ⟨rfl, rfl⟩
              · exact ⟨rfl, rfl⟩
          funext f j
          by_cases z : f = 11
          · rw [z, (e11 j).1, hz]
            rfl
          · by_cases y : f = 19
            · rw [y, (e11 j).2, hz]
              rfl
            · exact sp_upd_f _ _ _ _ _ ⟨z, y⟩
        have ha : sp_choose τ k = τ := a2
        unfold sp_choose at ha ⊢
        rw [er, eb]
        show (if sp_running τ k ≠ 0 ∧ τ 6 (sp_running τ k) = 0 ∧ τ 19 (sp_running τ k) = 0 then _ else sp_upd _ _ (sp_best τ k (sp_running τ k) (τ 1 0)).1) = _
        by_cases z : sp_running τ k ≠ 0 ∧ τ 6 (sp_running τ k) = 0 ∧ τ 19 (sp_running τ k) = 0
        · rw [if_pos z]
        · rw [if_neg z] at ha ⊢
          exact h1 _ _ ha
      unfold sp_step
      rw [e0, hh, if_neg q, e2, ec]
      apply sp_step1_of
      refine Or.inr (Or.inr (Or.inl ?_))
      show ss_u τ 26 t x 26 t ≠ 0
      rw [ss_us]
      exact b1
