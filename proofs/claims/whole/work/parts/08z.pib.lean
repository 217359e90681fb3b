theorem mv.freeL (σ : ss_S) (t : Nat) : ∀ n, mv σ (sp_freeL σ t n) := by
  intro n
  induction n with
  | zero => exact mv.refl σ
  | succ n ih =>
    unfold sp_freeL
    split
    · exact ih.trans (mv.unlock _ _ (Nat.succ_ne_zero n))
    · exact ih
theorem mv.fr4 (σ : ss_S) (t : Nat) : mv σ (sp_fr4 σ t) := by
  have h2 : mv σ (sp_fr2 σ t) := (mv_eq (fun f j hf => sp_frR_f σ t f j (by omega) 32)).trans (mv.freeL _ _ _)
  have h3 : mv σ (sp_fr3 σ t) := by
    refine h2.trans (mv_off (fun f j hf => ss_uf _ _ _ _ (by omega)) (fun h => ?_))
    unfold i9 at h ⊢
    unfold sp_fr3
    rw [ss_us, ss_uf _ _ _ _ (by decide), ss_uf _ _ _ _ (by decide), ss_uf _ _ _ _ (by decide)]
    intro q
    refine h (fun z => q ?_)
    rw [z]
    split <;> rfl
  unfold sp_fr4
  split
  · exact h3.trans (mv.tell _ _ _)
  · exact h3
theorem sp_fr4_26 (σ : ss_S) (t : Nat) (h : σ 26 t = 0) : sp_fr4 σ t 26 t = 0 := by
  have h2 : sp_fr2 σ t 26 t = 0 := sp_freeL_26 _ t (by rw [sp_frR_f σ t 26 t (by decide) 32]; exact h) 16
  have h3 : sp_fr3 σ t 26 t = 0 := by
    unfold sp_fr3
    rw [ss_uf _ _ _ _ (by decide)]
    exact h2
  unfold sp_fr4
  split
  · rw [sp_tell_f _ _ _ _ _ (by decide)]
    exact h3
  · exact h3
theorem mv.free (σ : ss_S) (t : Nat) (h : σ 26 t = 0) : mv σ (sp_free σ t) ∧ wt (sp_free σ t) t = 0 := by
  have e : sp_free σ t = ss_u (ss_u (sp_fr4 σ t) 11 t 0) 19 t 0 := rfl
  have f26 := sp_fr4_26 σ t h
  have f4 := mv.fr4 σ t
  rw [e]
  generalize sp_fr4 σ t = τ at f26 f4
  have w0 : wt (ss_u (ss_u τ 11 t 0) 19 t 0) t = 0 := by
    unfold wt
    rw [if_pos (Or.inl (by rw [ss_uf _ _ _ _ (by decide), ss_us]))]
  refine ⟨f4.trans (mv_at t (fun f j hf hj => by rw [ss_ui _ _ _ _ hj, ss_ui _ _ _ _ hj]) (fun f j hf => by rw [ss_uf _ _ _ _ (by omega), ss_uf _ _ _ _ (by omega)]) (fun f hf => by rw [ss_uf _ _ _ _ (by omega), ss_uf _ _ _ _ (by omega)]) (fun hh => ⟨?_, ?_, ?_, ?_, ?_, ?_⟩)), w0⟩
  · rw [ss_uf _ _ _ _ (by decide), ss_uf _ _ _ _ (by decide)]
    exact hh.1 t
  · rw [ss_uf _ _ _ _ (by decide), ss_us]
    intro q
    exact absurd q (by decide)
  · intro _ _
    exact ss_us _ _ _ _
  · rw [ss_uf _ _ _ _ (by decide), ss_uf _ _ _ _ (by decide), ss_uf _ _ _ _ (by decide), ss_uf _ _ _ _ (by decide)]
    exact hh.2.2.2.1 t
  · rw [ss_uf _ _ _ _ (by decide), ss_uf _ _ _ _ (by decide), f26]
    exact fun q => absurd rfl q
  · rw [w0]
    exact Nat.zero_le _
theorem mv.ends (σ : ss_S) (t : Nat) (h : σ 26 t = 0) : mv σ (sp_ends σ t) ∧ (iv σ → wt (sp_ends σ t) t = 0) := by
  obtain ⟨a, b⟩ := mv.free σ t h
  unfold sp_ends
  split
  · exact ⟨a, fun _ => b⟩
  · have m := a.trans ((mv.u (sp_free σ t) 13 t (sp_free σ t 13 t - 1) (by decide)).trans (mv.begin _ t))
    refine ⟨m, fun x => ?_⟩
    have y := (a x).1
    have y2 := (((mv.u (sp_free σ t) 13 t (sp_free σ t 13 t - 1) (by decide)).trans (mv.begin _ t)) y).2 t
    omega
theorem mv.chain1 (σ : ss_S) (t o : Nat) : mv σ (sp_chain1 σ t o) := by
  unfold sp_chain1
  split
  · exact mv.refl σ
  · exact mv.tell _ _ _
theorem mv.chain (σ : ss_S) (t o : Nat) (h : σ 26 t = 0) : mv σ (sp_chain σ t o) ∧ (iv σ → wt (sp_chain σ t o) t = 0) := by
  have h1 := mv.chain1 σ t o
  have h26 : sp_chain1 σ t o 26 t = 0 := by
    unfold sp_chain1
    split
    · exact h
    · rw [sp_tell_f _ _ _ _ _ (by decide)]
      exact h
  have h2 : mv σ (sp_chain2 σ t o) ∧ (iv σ → wt (sp_chain2 σ t o) t = 0) := by
    unfold sp_chain2
    split
    · obtain ⟨a, b⟩ := mv.free (sp_chain1 σ t o) t h26
      exact ⟨h1.trans a, fun _ => b⟩
    · obtain ⟨a, b⟩ := mv.ends (sp_chain1 σ t o) t h26
      exact ⟨h1.trans a, fun x => b (h1 x).1⟩
  unfold sp_chain
  split
  · refine ⟨h2.1.trans (mv.begin _ _), fun x => ?_⟩
    have y := h2.2 x
    have y2 := (mv.begin (sp_chain2 σ t o) o (h2.1 x).1).2 t
    omega
  · exact h2
theorem mv.do (σ : ss_S) (t k x : Nat) (h11 : σ 11 t = 2) (h19 : σ 19 t = 0) (h9 : k = 9 → x ≠ 0) : mv σ (sp_do σ t k x) := by
  unfold sp_do
  by_cases k1 : k = 1
  · rw [if_pos k1]
    split
    · exact mv.begin _ _
    · exact mv.tell _ _ _
  rw [if_neg k1]
  by_cases k1 : k = 3
  · rw [if_pos k1]
    split
    · exact mv.tell _ _ _
    · split
      · exact mv.tell _ _ _
      · split
        · have g : ∀ f j, f ≠ 11 ∧ f ≠ 18 → ss_u (ss_u σ 11 t 3) 18 t x f j = σ f j := fun f j hf => by
            rw [ss_uf _ _ _ _ hf.2, ss_uf _ _ _ _ hf.1]
          refine mv_at t (fun f j hf hj => by rw [ss_ui _ _ _ _ hj, ss_ui _ _ _ _ hj]) (fun f j hf => g f j (by omega)) (fun f hf => g f 0 (by omega)) (fun hh => ⟨?_, ?_, ?_, ?_, ?_, ?_⟩)
          · rw [g 17 t (by decide)]
            exact hh.1 t
          · exact fun _ => h11
          · intro _ _
            rw [g 19 t (by decide)]
            exact h19
          · rw [g 16 t (by decide), g 14 t (by decide)]
            exact hh.2.2.2.1 t
          · rw [g 16 t (by decide), g 26 t (by decide), ss_uf _ _ _ _ (by decide), ss_us]
            exact fun q => ⟨(hh.2.2.2.2 t q).1, by decide⟩
          · unfold wt
            rw [pn_cg t (g 7 0 (by decide)) (fun j => g 8 j (by decide)), g 14 t (by decide), g 16 t (by decide), g 26 t (by decide), ss_uf _ _ _ _ (by decide), ss_us, h11]
            simp
        · exact mv.refl σ
  rw [if_neg k1]
  by_cases k1 : k = 4
  · rw [if_pos k1]
    split
    · split
      · exact mv.set _ _ _ (Nat.mod_lt _ (by decide))
      · exact mv.tell _ _ _
    · exact mv.tell _ _ _
  rw [if_neg k1]
  by_cases k1 : k = 5
  · rw [if_pos k1]
    split
    · have e : ss_u σ 17 t (σ 17 t) = σ := by
        funext f j
        unfold ss_u
        split
        · rename_i z
          split
          · rename_i y
            rw [z, y]
          · rfl
        · rfl
      rw [e]
      exact mv.tell _ _ _
    · refine mv_at t (fun f j hf hj => ss_ui _ _ _ _ hj) (fun f j hf => ss_uf _ _ _ _ (by omega)) (fun f hf => ss_uf _ _ _ _ (by omega)) (fun h => ⟨?_, ?_, ?_, ?_, ?_, ?_⟩)
      · rw [ss_us]
        have := h.1 t
        have := ev_clr_le (a := σ 17 t) x (by omega)
        omega
      · rw [ss_uf _ _ _ _ (by decide)]
        exact id
      · rw [ss_uf _ _ _ _ (by decide), ss_uf _ _ _ _ (by decide)]
        exact h.2.1.2 t
      · rw [ss_uf _ _ _ _ (by decide), ss_uf _ _ _ _ (by decide)]
        exact h.2.2.2.1 t
      · rw [ss_uf _ _ _ _ (by decide), ss_uf _ _ _ _ (by decide), ss_uf _ _ _ _ (by decide)]
        exact h.2.2.2.2 t
      · exact Nat.le_of_eq (wt_cg t (ss_uf _ _ _ _ (by decide)) (fun j => ss_uf _ _ _ _ (by decide)) (ss_uf _ _ _ _ (by decide)) (ss_uf _ _ _ _ (by decide)) (ss_uf _ _ _ _ (by decide)) (ss_uf _ _ _ _ (by decide)))
  rw [if_neg k1]
  by_cases k1 : k = 6
  · rw [if_pos k1]
    split
    · exact (mv.u _ _ _ _ (by decide)).trans ((mv.u _ _ _ _ (by decide)).trans (mv.u _ _ _ _ (by decide)))
    · exact mv.tell _ _ _
  rw [if_neg k1]
  by_cases k1 : k = 7
  · rw [if_pos k1]
    exact (mv.u _ _ _ _ (by decide)).trans (mv.code _ _ _)
  rw [if_neg k1]
  by_cases k1 : k = 8
  · rw [if_pos k1]
    exact (mv.u _ _ _ _ (by decide)).trans (mv.code _ _ _)
  rw [if_neg k1]
  by_cases k1 : k = 9
  · rw [if_pos k1]
    split
    · exact mv.unlock _ _ (h9 k1)
    · exact mv.tell _ _ _
  rw [if_neg k1]
  by_cases k1 : k = 10
  · rw [if_pos k1]
    refine mv_at t (fun f j hf hj => ss_ui _ _ _ _ hj) (fun f j hf => ss_uf _ _ _ _ (by omega)) (fun f hf => ss_uf _ _ _ _ (by omega)) (fun h => ⟨?_, ?_, ?_, ?_, ?_, ?_⟩)
    · rw [ss_uf _ _ _ _ (by decide)]
      exact h.1 t
    · rw [ss_uf _ _ _ _ (by decide)]
      exact id
    · rw [ss_uf _ _ _ _ (by decide)]
      exact fun _ q => absurd h11 q
    · rw [ss_uf _ _ _ _ (by decide), ss_uf _ _ _ _ (by decide)]
      exact h.2.2.2.1 t
    · rw [ss_uf _ _ _ _ (by decide), ss_uf _ _ _ _ (by decide), ss_uf _ _ _ _ (by decide)]
      exact h.2.2.2.2 t
    · exact Nat.le_of_eq (wt_cg t (ss_uf _ _ _ _ (by decide)) (fun j => ss_uf _ _ _ _ (by decide)) (ss_uf _ _ _ _ (by decide)) (ss_uf _ _ _ _ (by decide)) (ss_uf _ _ _ _ (by decide)) (ss_uf _ _ _ _ (by decide)))
  rw [if_neg k1]
  by_cases k1 : k = 12
  · rw [if_pos k1]
    split
    · exact mv.tell _ _ _
    · refine mv_off (fun f j hf => by rw [ss_uf _ _ _ _ (by omega), ss_uf _ _ _ _ (by omega), ss_uf _ _ _ _ (by omega)]) (fun _ => ?_)
      intro _
      refine Or.inl ⟨ss_us _ _ _ _, ?_⟩
      rw [ss_uf _ _ _ _ (by decide), ss_uf _ _ _ _ (by decide), ss_uf _ _ _ _ (by decide), ss_uf _ _ _ _ (by decide), ss_us]
      exact Nat.le_add_right _ _
  rw [if_neg k1]
  split
  · refine mv.trans (τ := ss_u σ 29 0 (σ 29 0)) ?_ (mv.tell _ _ _)
    have e : ss_u σ 29 0 (σ 29 0) = σ := by
      funext f j
      unfold ss_u
      split
      · rename_i z
        split
        · rename_i y
          rw [z, y]
        · rfl
      · rfl
    rw [e]
    exact mv.refl σ
  · refine mv_off (fun f j hf => ss_uf _ _ _ _ (by omega)) (fun _ => ?_)
    intro q
    rw [ss_us] at q
    exact absurd rfl q
theorem pnc_nth {σ : ss_S} {t : Nat} : ∀ d k n q, sp_nth σ t d k n = some q → n < pnc σ t d k := by
  intro d
  induction d with
  | zero =>
    intro k n q h
    cases h
  | succ d ih =>
    intro k n q h
    unfold sp_nth at h
    unfold pnc
    by_cases e : σ 8 k = t
    · rw [if_pos e] at h ⊢
      by_cases z : n = 0
      · omega
      · rw [if_neg z] at h
        have := ih _ _ _ h
        omega
    · rw [if_neg e] at h ⊢
      exact ih _ _ _ h
theorem mv.act (σ : ss_S) (t q : Nat) (hq : sp_next σ t = some q) (h11 : σ 11 t = 2) (h19 : σ 19 t = 0) (h16 : σ 16 t = 0) (h26 : σ 26 t = 0) (h8 : σ 9 q = 8 → σ 10 q ≠ 0) (h9 : σ 9 q = 9 → σ 10 q ≠ 0) :
    mv σ (sp_act σ t (σ 9 q) (σ 10 q)) ∧ (iv σ → wt (sp_act σ t (σ 9 q) (σ 10 q)) t < wt σ t) := by
  have hn : σ 14 t < pn σ t := pnc_nth _ _ _ _ hq
  have w : wt σ t = pn σ t - σ 14 t + 1 := by
    unfold wt
    rw [if_neg (by omega), if_neg (by omega)]
  unfold sp_act
  split
  · obtain ⟨a, b⟩ := mv.chain σ t (σ 10 q) h26
    exact ⟨a, fun x => by rw [b x, w]; omega⟩
  · split
    · obtain ⟨a, b⟩ := mv.ends σ t h26
      exact ⟨a, fun x => by rw [b x, w]; omega⟩
    · split
      · rename_i hs
        have hx := h8 hs.1
        unfold sp_spin
        have g : ∀ f j, f ≠ 26 ∧ f ≠ 27 ∧ f ≠ 28 → ss_u (ss_u (ss_u σ 28 0 (σ 28 0 + 1)) 26 t (σ 10 q)) 27 t (σ 28 0 + 1) f j = σ f j := fun f j hf => by
          rw [ss_uf _ _ _ _ hf.2.1, ss_uf _ _ _ _ hf.1, ss_uf _ _ _ _ hf.2.2]
        have w2 : wt (ss_u (ss_u (ss_u σ 28 0 (σ 28 0 + 1)) 26 t (σ 10 q)) 27 t (σ 28 0 + 1)) t = pn σ t - σ 14 t := by
          unfold wt
          rw [pn_cg t (g 7 0 (by decide)) (fun j => g 8 j (by decide)), g 14 t (by decide), g 16 t (by decide), g 11 t (by decide), ss_uf (g := 26) _ _ _ _ (by decide), ss_us, if_neg (by omega), if_pos hx, if_neg (by omega)]
        refine ⟨mv_at t (fun f j hf hj => by rw [ss_ui _ _ _ _ hj, ss_ui _ _ _ _ hj, ss_uf _ _ _ _ (by omega)]) (fun f j hf => g f j (by omega)) (fun f hf => g f 0 (by omega)) (fun hh => ⟨?_, ?_, ?_, ?_, ?_, ?_⟩), fun _ => by rw [w2, w]; omega⟩
        · rw [g 17 t (by decide)]
          exact hh.1 t
        · exact fun _ => h11
        · intro _ _
          rw [g 19 t (by decide)]
          exact h19
        · rw [g 16 t (by decide), g 14 t (by decide)]
          exact hh.2.2.2.1 t
        · rw [g 16 t (by decide), g 11 t (by decide)]
          exact fun _ => ⟨h16, by omega⟩
        · rw [w2, w]
          omega
      · have g : ∀ f j, f ≠ 14 → ss_u σ 14 t (σ 14 t + 1) f j = σ f j := fun f j hf => ss_uf _ _ _ _ hf
        have w2 : wt (ss_u σ 14 t (σ 14 t + 1)) t = pn σ t - (σ 14 t + 1) + 1 := by
          unfold wt
          rw [pn_cg t (g 7 0 (by decide)) (fun j => g 8 j (by decide)), g 16 t (by decide), g 11 t (by decide), g 26 t (by decide), ss_us, if_neg (by omega), if_neg (by omega)]
        have m : mv σ (ss_u σ 14 t (σ 14 t + 1)) := by
          refine mv_at t (fun f j hf hj => ss_ui _ _ _ _ hj) (fun f j hf => g f j (by omega)) (fun f hf => g f 0 (by omega)) (fun hh => ⟨?_, ?_, ?_, ?_, ?_, ?_⟩)
          · rw [g 17 t (by decide)]
            exact hh.1 t
          · exact fun _ => h11
          · intro _ _
            rw [g 19 t (by decide)]
            exact h19
          · rw [g 16 t (by decide)]
            exact fun z => absurd h16 z
          · rw [g 26 t (by decide)]
            exact fun z => absurd h26 z
          · rw [w2, w]
            omega
        have m2 := mv.do (ss_u σ 14 t (σ 14 t + 1)) t (σ 9 q) (σ 10 q) (by rw [g 11 t (by decide)]; exact h11) (by rw [g 19 t (by decide)]; exact h19) h9
        refine ⟨m.trans m2, fun x => ?_⟩
        have := (m2 (m x).1).2 t
        rw [w2] at this
        rw [w]
        omega
theorem mv.choose (σ : ss_S) (k : Nat) : mv σ (sp_choose σ k) := by
  have e19 : ∀ r, (1 ≤ r ∧ r ≤ σ 1 0) → σ 11 r = 2 → mv σ (ss_u σ 19 r 0) := fun r hr h11 => by
    refine mv_at r (fun f j hf hj => ss_ui _ _ _ _ hj) (fun f j hf => ss_uf _ _ _ _ (by omega)) (fun f hf => ss_uf _ _ _ _ (by omega)) (fun h => ⟨?_, ?_, ?_, ?_, ?_, ?_⟩)
    · rw [ss_uf _ _ _ _ (by decide)]
      exact h.1 r
    · rw [ss_uf _ _ _ _ (by decide)]
      exact id
    · exact fun _ _ => ss_us _ _ _ _
    · rw [ss_uf _ _ _ _ (by decide), ss_uf _ _ _ _ (by decide)]
      exact h.2.2.2.1 r
    · rw [ss_uf _ _ _ _ (by decide), ss_uf _ _ _ _ (by decide), ss_uf _ _ _ _ (by decide)]
      exact h.2.2.2.2 r
    · exact Nat.le_of_eq (wt_cg r (ss_uf _ _ _ _ (by decide)) (fun j => ss_uf _ _ _ _ (by decide)) (ss_uf _ _ _ _ (by decide)) (ss_uf _ _ _ _ (by decide)) (ss_uf _ _ _ _ (by decide)) (ss_uf _ _ _ _ (by decide)))
  have rs := sp_running_spec σ k
  rcases sp_choose_cases σ k with ⟨a1, a2, a3⟩ | ⟨a0, a1, a2, a3⟩ | ⟨b, a1, a2, a3, a4, a5, a6, a7, a8⟩
  · rw [a1]
    exact mv.refl σ
  · rw [a2]
    rcases rs with z | z
    · exact absurd z.1 a0
    · exact e19 _ z.1 z.2.2
  · rw [a8]
    -- the one that ran is READY again
    have m1 : mv σ (if sp_running σ k = 0 then σ else ss_u (ss_u σ 19 (sp_running σ k) 0) 11 (sp_running σ k) 1) := by
      split
      · exact mv.refl σ
      · rename_i z0
        rcases rs with z | z
        · exact absurd z.1 z0
        · generalize sp_running σ k = r at z
          refine (e19 r z.1 z.2.2).trans (mv_at r (fun f j hf hj => ss_ui _ _ _ _ hj) (fun f j hf => ss_uf _ _ _ _ (by omega)) (fun f hf => ss_uf _ _ _ _ (by omega)) (fun h => ⟨?_, ?_, ?_, ?_, ?_, ?_⟩))
          · rw [ss_uf _ _ _ _ (by decide)]
            exact h.1 r
          · rw [ss_us]
            intro q
            exact absurd q (by decide)
          · intro _ _
            rw [ss_uf _ _ _ _ (by decide), ss_us]
          · rw [ss_uf _ _ _ _ (by decide), ss_uf (f := 11) _ _ _ _ (by decide)]
            exact h.2.2.2.1 r
          · rw [ss_uf (f := 11) _ _ _ _ (by decide), ss_uf (f := 11) _ _ _ _ (by decide), ss_us]
            exact fun q => ⟨(h.2.2.2.2 r q).1, by decide⟩
          · have g : ∀ f j, f ≠ 11 → ss_u (ss_u σ 19 r 0) 11 r 1 f j = ss_u σ 19 r 0 f j := fun f j hf => ss_uf _ _ _ _ hf
            unfold wt
            rw [pn_cg r (g 7 0 (by decide)) (fun j => g 8 j (by decide)), g 14 r (by decide), g 16 r (by decide), g 26 r (by decide), ss_us, ss_uf (g := 11) _ _ _ _ (by decide), z.2.2]
            simp
    have n2 : ∀ t, (1 ≤ t ∧ t ≤ σ 1 0) → iv σ → σ 3 t = k → (if sp_running σ k = 0 then σ else ss_u (ss_u σ 19 (sp_running σ k) 0) 11 (sp_running σ k) 1) 11 t ≠ 2 := fun t ht hi h3 q => by
      rcases rs with z | z
      · rw [if_pos z.1] at q
        exact z.2 t ht.1 ht.2 ⟨h3, q⟩
      · rw [if_neg (by omega)] at q
        by_cases e : t = sp_running σ k
        · rw [e, ss_us] at q
          exact absurd q (by decide)
        · rw [ss_ui _ _ _ _ e, ss_ui _ _ _ _ e] at q
          exact e (hi.2.1.1 t _ ht z.1 (h3.trans z.2.1.symm) q z.2.2)
    have n1 : (if sp_running σ k = 0 then σ else ss_u (ss_u σ 19 (sp_running σ k) 0) 11 (sp_running σ k) 1) 11 b = 1 := by
      split
      · exact a5
      · rw [ss_ui _ _ _ _ a2, ss_ui _ _ _ _ a2]
        exact a5
    have st : ∀ f j, f ≠ 11 ∧ f ≠ 19 → (if sp_running σ k = 0 then σ else ss_u (ss_u σ 19 (sp_running σ k) 0) 11 (sp_running σ k) 1) f j = σ f j := fun f j hf => by
      split
      · rfl
      · rw [ss_uf _ _ _ _ hf.1, ss_uf _ _ _ _ hf.2]
    intro x
    have m1x := m1 x
    have n2x := fun t ht => n2 t ht x
    generalize (if sp_running σ k = 0 then σ else ss_u (ss_u σ 19 (sp_running σ k) 0) 11 (sp_running σ k) 1) = τ at m1x n1 n2x st
    obtain ⟨⟨h1, ⟨h2, h2'⟩, h3, h4, h5⟩, hw⟩ := m1x
    have g : ∀ f j, f ≠ 11 → ss_u τ 11 b 2 f j = τ f j := fun f j hf => ss_uf _ _ _ _ hf
    refine ⟨⟨fun j => by rw [g 17 j (by decide)]; exact h1 j, ⟨fun j j' v v' e q q' => ?_, fun j v q => ?_⟩, i9_cg h3 (fun f hf => g f 0 (by omega)) (g 43 0 (by decide)), fun j => by rw [g 16 j (by decide), g 14 j (by decide)]; exact h4 j, fun j q => ?_⟩, fun j => ?_⟩
    · rw [g 1 0 (by decide)] at v v'
      rw [g 3 j (by decide), g 3 j' (by decide)] at e
      rw [ss_ue] at q q'
      have vs : ∀ j, (1 ≤ j ∧ j ≤ τ 1 0) → (1 ≤ j ∧ j ≤ σ 1 0) := fun j hj => by rw [st 1 0 (by decide)] at hj; exact hj
      by_cases e1 : j = b
      · by_cases e2 : j' = b
        · rw [e1, e2]
        · rw [if_neg e2] at q'
          exact absurd q' (n2x j' (vs j' v') (by rw [← st 3 j' (by decide), ← e, e1, st 3 b (by decide)]; exact a4))
      · rw [if_neg e1] at q
        by_cases e2 : j' = b
        · exact absurd q (n2x j (vs j v) (by rw [← st 3 j (by decide), e, e2, st 3 b (by decide)]; exact a4))
        · rw [if_neg e2] at q'
          exact h2 j j' v v' e q q'
    · rw [g 1 0 (by decide)] at v
      rw [ss_ue] at q
      rw [g 19 j (by decide)]
      by_cases e1 : j = b
      · rw [if_pos e1] at q
        exact absurd rfl q
      · rw [if_neg e1] at q
        exact h2' j v q
    · rw [g 26 j (by decide)] at q
      rw [g 16 j (by decide), ss_ue]
      refine ⟨(h5 j q).1, ?_⟩
      split
      · decide
      · exact (h5 j q).2
    · refine Nat.le_trans ?_ (hw j)
      unfold wt
      rw [pn_cg j (g 7 0 (by decide)) (fun i => g 8 i (by decide)), g 14 j (by decide), g 16 j (by decide), g 26 j (by decide), ss_ue]
      by_cases e1 : j = b
      · rw [if_pos e1, e1, n1]
        simp
      · rw [if_neg e1]
        exact Nat.le_refl _
