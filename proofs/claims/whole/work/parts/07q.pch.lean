/-! Pure: who is chosen, and that choosing again changes nothing -/
/-- one task runs on a core at most; who does not run has no SCHEDULE behind it -/
def uq (σ : ss_S) : Prop := (∀ t t', (1 ≤ t ∧ t ≤ σ 1 0) → (1 ≤ t' ∧ t' ≤ σ 1 0) → σ 3 t = σ 3 t' → σ 11 t = 2 → σ 11 t' = 2 → t = t') ∧ ∀ t, (1 ≤ t ∧ t ≤ σ 1 0) → σ 11 t ≠ 2 → σ 19 t = 0
theorem REP.uq {B : cl_B} {e t0 t1 : Nat} {σ : ss_S} {c : cc_S} (hP : REP B e t0 t1 σ c) : uq σ := by
  obtain ⟨h5a, h5b, h5c, h5d, h5e⟩ := hP.h5
  refine ⟨fun t t' h1 h2 h3 h4 h5 => ?_, h5e⟩
  have a1 := (h5a t h1).mp h4
  have a2 := (h5a t' h2).mp h5
  rw [h3, a2] at a1
  omega
theorem sp_running_spec (σ : ss_S) (k : Nat) : (sp_running σ k = 0 ∧ ∀ t, 1 ≤ t → t ≤ σ 1 0 → ¬ (σ 3 t = k ∧ σ 11 t = 2)) ∨ ((1 ≤ sp_running σ k ∧ sp_running σ k ≤ σ 1 0) ∧ σ 3 (sp_running σ k) = k ∧ σ 11 (sp_running σ k) = 2) := sp_run_spec σ k (σ 1 0)
theorem sp_best_inv (σ : ss_S) (k was : Nat) (hw : was = 0 ∨ ((1 ≤ was ∧ was ≤ σ 1 0) ∧ σ 3 was = k ∧ σ 11 was = 2)) : ∀ n, n ≤ σ 1 0 → binv σ k was (sp_best σ k was n) := by
  intro n
  induction n with
  | zero =>
    intro _
    rcases hw with h | h
    · rw [h]
      exact Or.inl ⟨rfl, rfl⟩
    · refine Or.inr ⟨h.1, h.2.1, ?_, Or.inl ⟨rfl, h.2.2⟩⟩
      show (if 0 < was then _ else _) = _
      rw [if_pos (by omega)]
      rfl
  | succ n ih =>
    intro hn
    unfold sp_best
    split
    · rename_i h
      refine Or.inr ⟨by show 1 ≤ n + 1 ∧ _; omega, h.1, rfl, Or.inr ⟨?_, h.2.1⟩⟩
      intro z
      have z' : n + 1 = was := z
      rcases hw with y | y
      · omega
      · have := y.2.2
        rw [← z'] at this
        omega
    · exact ih (by omega)
theorem sp_best_max (σ : ss_S) (k was : Nat) : ∀ n, (0 < was → sp_height σ was + 1 ≤ (sp_best σ k was n).2) ∧ ∀ t, 1 ≤ t → t ≤ n → σ 3 t = k → σ 11 t = 1 → sp_height σ t + 1 ≤ (sp_best σ k was n).2 := by
  intro n
  induction n with
  | zero =>
    refine ⟨fun h => ?_, fun t h1 h2 => by omega⟩
    show _ ≤ if 0 < was then _ else _
    rw [if_pos h]
    exact Nat.le_refl _
  | succ n ih =>
    obtain ⟨i1, i2⟩ := ih
    unfold sp_best
    split
    · rename_i h
      have hle : (sp_best σ k was n).2 ≤ sp_height σ (n + 1) + 1 := by
        rcases h.2.2 with z | z
        · omega
        · omega
      refine ⟨fun z => Nat.le_trans (i1 z) hle, fun t h1 h2 h3 h4 => ?_⟩
      by_cases q : t = n + 1
      · rw [q]
        exact Nat.le_refl _
      · exact Nat.le_trans (i2 t h1 (by omega) h3 h4) hle
    · rename_i h
      refine ⟨i1, fun t h1 h2 h3 h4 => ?_⟩
      by_cases q : t = n + 1
      · subst q
        apply Decidable.byContradiction
        intro z
        exact h ⟨h3, h4, Or.inl (by omega)⟩
      · exact i2 t h1 (by omega) h3 h4
/-- the forms of a choice -/
theorem sp_choose_cases (σ : ss_S) (k : Nat) : (sp_choose σ k = σ ∧ sp_chosen σ k = sp_running σ k ∧ (sp_running σ k = 0 ∨ (σ 6 (sp_running σ k) = 0 ∧ σ 19 (sp_running σ k) = 0))) ∨
    (sp_running σ k ≠ 0 ∧ sp_chosen σ k = sp_running σ k ∧ sp_choose σ k = ss_u σ 19 (sp_running σ k) 0 ∧ (∀ t, 1 ≤ t → t ≤ σ 1 0 → σ 3 t = k → σ 11 t = 1 → sp_height σ t ≤ sp_height σ (sp_running σ k))) ∨
    (∃ b, sp_chosen σ k = b ∧ b ≠ sp_running σ k ∧ (1 ≤ b ∧ b ≤ σ 1 0) ∧ σ 3 b = k ∧ σ 11 b = 1 ∧ (sp_running σ k ≠ 0 → sp_height σ (sp_running σ k) ≤ sp_height σ b) ∧ (∀ t, 1 ≤ t → t ≤ σ 1 0 → σ 3 t = k → σ 11 t = 1 → sp_height σ t ≤ sp_height σ b) ∧ sp_choose σ k = ss_u (if sp_running σ k = 0 then σ else ss_u (ss_u σ 19 (sp_running σ k) 0) 11 (sp_running σ k) 1) 11 b 2) := by
  unfold sp_choose sp_chosen
  by_cases hst : sp_running σ k ≠ 0 ∧ σ 6 (sp_running σ k) = 0 ∧ σ 19 (sp_running σ k) = 0
  · rw [if_pos hst, if_pos hst]
    exact Or.inl ⟨rfl, rfl, Or.inr hst.2⟩
  · rw [if_neg hst, if_neg hst]
    have hw : sp_running σ k = 0 ∨ ((1 ≤ sp_running σ k ∧ sp_running σ k ≤ σ 1 0) ∧ σ 3 (sp_running σ k) = k ∧ σ 11 (sp_running σ k) = 2) := (sp_running_spec σ k).imp (fun z => z.1) id
    have hi := sp_best_inv σ k (sp_running σ k) hw (σ 1 0) (Nat.le_refl _)
    obtain ⟨m1, m2⟩ := sp_best_max σ k (sp_running σ k) (σ 1 0)
    generalize sp_running σ k = w at *
    generalize sp_best σ k w (σ 1 0) = p at *
    rcases hi with ⟨g0, g1⟩ | ⟨g1, g2, g3, g4⟩
    · rw [g1, g0]
      exact Or.inl ⟨rfl, rfl, Or.inl rfl⟩
    · rw [g3] at m1 m2
      rcases g4 with ⟨g4, g5⟩ | ⟨g4, g5⟩
      · refine Or.inr (Or.inl ⟨by omega, g4, ?_, fun t h1 h2 h3 h4 => ?_⟩)
        · rw [g4]
          exact sp_upd_same (by omega) (by rw [← g4]; exact g5)
        · have := m2 t h1 h2 h3 h4
          rw [g4] at this
          omega
      · refine Or.inr (Or.inr ⟨p.1, rfl, g4, g1, g2, g5, fun z => ?_, fun t h1 h2 h3 h4 => ?_, ?_⟩)
        · have := m1 (by omega)
          omega
        · have := m2 t h1 h2 h3 h4
          omega
        · unfold sp_upd
          rw [if_neg (by omega)]
theorem sp_best_stay {σ : ss_S} {k w : Nat} (hw : 0 < w) (h : ∀ t, 1 ≤ t → t ≤ σ 1 0 → σ 3 t = k → σ 11 t = 1 → sp_height σ t ≤ sp_height σ w) : ∀ n, n ≤ σ 1 0 → sp_best σ k w n = (w, sp_height σ w + 1) := by
  intro n
  induction n with
  | zero =>
    intro _
    show (w, if 0 < w then _ else _) = _
    rw [if_pos hw]
  | succ n ih =>
    intro hn
    unfold sp_best
    rw [ih (by omega)]
    rw [if_neg]
    rintro ⟨h1, h2, h3 | h3⟩
    · have := h (n + 1) (by omega) hn h1 h2
      have h3' : sp_height σ w + 1 < sp_height σ (n + 1) + 1 := h3
      omega
    · exact h3.2.1 rfl
/-- after a choice: who runs, and it is settled -/
theorem sp_choose_after {σ : ss_S} (hu : uq σ) (k : Nat) : sp_running (sp_choose σ k) k = sp_chosen σ k ∧ sp_choose (sp_choose σ k) k = sp_choose σ k ∧ sp_chosen (sp_choose σ k) k = sp_chosen σ k ∧ (sp_chosen σ k ≠ 0 → (1 ≤ sp_chosen σ k ∧ sp_chosen σ k ≤ σ 1 0) ∧ σ 3 (sp_chosen σ k) = k ∧ sp_choose σ k 11 (sp_chosen σ k) = 2 ∧ sp_choose σ k 19 (sp_chosen σ k) = 0) := by
  have hr := sp_running_spec σ k
  rcases sp_choose_cases σ k with ⟨c1, c2, c3⟩ | ⟨c0, c1, c2, c3⟩ | ⟨b, c1, c2, c3, c4, c5, c6, c7, c8⟩
  · rw [c1]
    refine ⟨c2.symm, c1, rfl, fun z => ?_⟩
    rw [c2] at z ⊢
    rcases hr with y | y
    · exact absurd y.1 z
    · refine ⟨y.1, y.2.1, y.2.2, ?_⟩
      rcases c3 with x | x
      · exact absurd x z
      · exact x.2
  · have y := hr.resolve_left (fun z => c0 z.1)
    have e1 : sp_running (ss_u σ 19 (sp_running σ k) 0) k = sp_running σ k := sp_run_cg (σ := σ) (τ := ss_u σ 19 (sp_running σ k) 0) k (fun _ => rfl) (fun _ _ => rfl) (σ 1 0)
    have e2 : sp_choose (ss_u σ 19 (sp_running σ k) 0) k = ss_u σ 19 (sp_running σ k) 0 ∧ sp_chosen (ss_u σ 19 (sp_running σ k) 0) k = sp_running σ k := by
      have hs : ∀ n, n ≤ σ 1 0 → sp_best (ss_u σ 19 (sp_running σ k) 0) k (sp_running σ k) n = (sp_running σ k, sp_height σ (sp_running σ k) + 1) := fun n hn => by
        rw [sp_best_cg (σ := σ) (τ := ss_u σ 19 (sp_running σ k) 0) k _ (fun _ => rfl) (fun _ => rfl) (fun _ => rfl) (fun _ => rfl) (fun _ => rfl) (fun _ _ => rfl)]
        exact sp_best_stay (by omega) c3 n hn
      unfold sp_choose sp_chosen
      rw [e1]
      have hs' := hs (σ 1 0) (Nat.le_refl _)
      generalize sp_running σ k = w at *
      by_cases q : w ≠ 0 ∧ ss_u σ 19 w 0 6 w = 0 ∧ ss_u σ 19 w 0 19 w = 0
      · rw [if_pos q, if_pos q]
        exact ⟨rfl, rfl⟩
      · rw [if_neg q, if_neg q, show ss_u σ 19 w 0 1 0 = σ 1 0 from rfl, hs']
        refine ⟨?_, rfl⟩
        show sp_upd (ss_u σ 19 w 0) w w = _
        rw [sp_upd_same (σ := ss_u σ 19 w 0) c0 y.2.2]
        exact ss_id (ss_us σ 19 w 0)
    rw [c2, c1]
    exact ⟨e1, e2.1, e2.2, fun _ => ⟨y.1, y.2.1, y.2.2, ss_us σ 19 _ 0⟩⟩
  · generalize hτ : sp_choose σ k = τ
    rw [hτ] at c8
    have t1 : τ 1 0 = σ 1 0 := by
      rw [← hτ]
      exact sp_choose_f σ k 1 0 (by decide)
    have t3 : ∀ j, τ 3 j = σ 3 j := fun j => by
      rw [← hτ]
      exact sp_choose_f σ k 3 j (by decide)
    have hh : ∀ t, sp_height τ t = sp_height σ t := fun t => by
      rw [← hτ]
      exact sp_ht_cg t (sp_choose_f σ k 2 t (by decide)) (fun j => sp_choose_f σ k 22 j (by decide)) (fun j => sp_choose_f σ k 24 j (by decide)) 32
    have t11 : ∀ t, τ 11 t = if t = b then 2 else if t = sp_running σ k ∧ sp_running σ k ≠ 0 then 1 else σ 11 t := fun t => by
      rw [c8, ss_ue]
      by_cases q : t = b
      · rw [if_pos q, if_pos q]
      · rw [if_neg q, if_neg q]
        by_cases z : sp_running σ k = 0
        · rw [if_pos z, if_neg (fun y => y.2 z)]
        · rw [if_neg z, ss_ue]
          by_cases y : t = sp_running σ k
          · rw [if_pos y, if_pos ⟨y, z⟩]
          · rw [if_neg y, if_neg (fun x => y x.1)]
            rfl
    have t19 : τ 19 b = 0 := by
      rw [c8]
      show (if sp_running σ k = 0 then σ else ss_u (ss_u σ 19 (sp_running σ k) 0) 11 (sp_running σ k) 1) 19 b = 0
      have := hu.2 b c3 (by omega)
      split
      · exact this
      · show ss_u σ 19 (sp_running σ k) 0 19 b = 0
        rw [ss_ue]
        split
        · rfl
        · exact this
    have er : sp_running τ k = b := by
      rcases sp_running_spec τ k with z | z
      · rw [t1] at z
        have := z.2 b c3.1 c3.2
        rw [t3, t11, if_pos rfl] at this
        exact absurd ⟨c4, rfl⟩ this
      · rw [t1, t3, t11] at z
        obtain ⟨z1, z2, z3⟩ := z
        generalize sp_running τ k = r at *
        by_cases q : r = b
        · exact q
        · rw [if_neg q] at z3
          by_cases y : r = sp_running σ k ∧ sp_running σ k ≠ 0
          · rw [if_pos y] at z3
            omega
          · rw [if_neg y] at z3
            rcases hr with x | x
            · exact absurd ⟨z2, z3⟩ (x.2 r z1.1 z1.2)
            · have := hu.1 r (sp_running σ k) z1 x.1 (z2.trans x.2.1.symm) z3 x.2.2
              exact absurd ⟨this, by omega⟩ y
    have mx : ∀ t, 1 ≤ t → t ≤ τ 1 0 → τ 3 t = k → τ 11 t = 1 → sp_height τ t ≤ sp_height τ b := fun t h1 h2 h3 h4 => by
      rw [hh, hh]
      rw [t1] at h2
      rw [t3] at h3
      rw [t11] at h4
      by_cases q : t = b
      · rw [q]
        exact Nat.le_refl _
      · rw [if_neg q] at h4
        by_cases y : t = sp_running σ k ∧ sp_running σ k ≠ 0
        · rw [y.1]
          exact c6 y.2
        · rw [if_neg y] at h4
          exact c7 t h1 h2 h3 h4
    have hs := sp_best_stay (σ := τ) (k := k) (w := b) (by omega) mx (τ 1 0) (Nat.le_refl _)
    have hb11 : τ 11 b = 2 := by rw [t11, if_pos rfl]
    have e2 : sp_choose τ k = τ ∧ sp_chosen τ k = b := by
      unfold sp_choose sp_chosen
      rw [er]
      by_cases q : b ≠ 0 ∧ τ 6 b = 0 ∧ τ 19 b = 0
      · rw [if_pos q, if_pos q]
        exact ⟨rfl, rfl⟩
      · rw [if_neg q, if_neg q, hs]
        refine ⟨?_, rfl⟩
        show sp_upd τ b b = _
        rw [sp_upd_same (by omega) hb11]
        exact ss_id t19
    rw [c1]
    exact ⟨er, e2.1, e2.2, fun _ => ⟨c3, c4, hb11, t19⟩⟩
/-- the interrupt at hand -/
def hq (σ : ss_S) (k : Nat) : Prop := σ 37 k ≤ σ 43 0 ∧ 0 < σ 38 k ∧ (7 < σ 36 k ∨ σ 29 0 = 0)
theorem sp_hand_spec (σ : ss_S) : ∀ n, (sp_hand σ n = 0 ∧ ∀ k, k < n → ¬ hq σ k) ∨ (∃ h, sp_hand σ n = h + 1 ∧ h < n ∧ hq σ h ∧ ∀ k, k < n → hq σ k → σ 36 k < σ 36 h ∨ (σ 36 k = σ 36 h ∧ h ≤ k)) := by
  intro n
  induction n with
  | zero => exact Or.inl ⟨rfl, fun k h => by omega⟩
  | succ n ih =>
    unfold sp_hand
    split
    · rename_i h
      refine Or.inr ⟨n, rfl, by omega, h.1, fun k hk hq' => ?_⟩
      by_cases q : k = n
      · rw [q]
        exact Or.inr ⟨rfl, Nat.le_refl _⟩
      · rcases ih with z | ⟨g, z1, z2, z3, z4⟩
        · exact absurd hq' (z.2 k (by omega))
        · have a1 := z4 k (by omega) hq'
          have a2 : σ 36 g < σ 36 n := by
            rcases h.2 with y | y
            · omega
            · rw [z1] at y
              exact y
          omega
    · rename_i h
      rcases ih with z | ⟨g, z1, z2, z3, z4⟩
      · refine Or.inl ⟨z.1, fun k hk hq' => ?_⟩
        by_cases q : k = n
        · subst q
          exact h ⟨hq', Or.inl z.1⟩
        · exact z.2 k (by omega) hq'
      · refine Or.inr ⟨g, z1, by omega, z3, fun k hk hq' => ?_⟩
        by_cases q : k = n
        · subst q
          have : ¬ σ 36 (sp_hand σ k - 1) < σ 36 k := fun y => h ⟨hq', Or.inr y⟩
          rw [z1] at this
          have this' : ¬ σ 36 g < σ 36 k := this
          omega
        · exact z4 k (by omega) hq'
def ffst (σ : ss_S) : List Nat → Nat
  | [] => 0
  | k :: L => if σ 37 k ≤ σ 43 0 ∧ (7 < σ 36 k ∨ σ 29 0 = 0) then k + 1 else ffst σ L
theorem ffst_spec (σ : ss_S) : ∀ L : List Nat, L.Pairwise (fun a b => σ 36 b < σ 36 a ∨ (σ 36 a = σ 36 b ∧ a < b)) → (ffst σ L = 0 ∧ ∀ k ∈ L, ¬ (σ 37 k ≤ σ 43 0 ∧ (7 < σ 36 k ∨ σ 29 0 = 0))) ∨ ∃ h, ffst σ L = h + 1 ∧ h ∈ L ∧ (σ 37 h ≤ σ 43 0 ∧ (7 < σ 36 h ∨ σ 29 0 = 0)) ∧ ∀ k ∈ L, (σ 37 k ≤ σ 43 0 ∧ (7 < σ 36 k ∨ σ 29 0 = 0)) → σ 36 k < σ 36 h ∨ (σ 36 k = σ 36 h ∧ h ≤ k) := by
  intro L
  induction L with
  | nil => exact fun _ => Or.inl ⟨rfl, fun k h => (by cases h)⟩
  | cons x L ih =>
    intro hp
    obtain ⟨p1, p2⟩ := List.pairwise_cons.mp hp
    unfold ffst
    split
    · rename_i q
      refine Or.inr ⟨x, rfl, List.mem_cons_self .., q, fun k hk _ => ?_⟩
      rcases List.mem_cons.mp hk with z | z
      · rw [z]
        exact Or.inr ⟨rfl, Nat.le_refl _⟩
      · have := p1 k z
        omega
    · rename_i q
      rcases ih p2 with z | ⟨h, z1, z2, z3, z4⟩
      · refine Or.inl ⟨z.1, fun k hk => ?_⟩
        rcases List.mem_cons.mp hk with y | y
        · rw [y]
          exact q
        · exact z.2 k y
      · refine Or.inr ⟨h, z1, List.mem_cons_of_mem _ z2, z3, fun k hk hq' => ?_⟩
        rcases List.mem_cons.mp hk with y | y
        · rw [y] at hq'
          exact absurd hq' q
        · exact z4 k y hq'
theorem ffst_hand {σ : ss_S} {L : List Nat} (hm : ∀ k, k ∈ L ↔ k < σ 35 0 ∧ 0 < σ 38 k) (hp : L.Pairwise (fun a b => σ 36 b < σ 36 a ∨ (σ 36 a = σ 36 b ∧ a < b))) : ffst σ L = sp_atHand σ := by
  unfold sp_atHand
  rcases ffst_spec σ L hp with z | ⟨h, z1, z2, z3, z4⟩
  · rcases sp_hand_spec σ (σ 35 0) with y | ⟨g, y1, y2, y3, y4⟩
    · rw [z.1, y.1]
    · exact absurd ⟨y3.1, y3.2.2⟩ (z.2 g ((hm g).mpr ⟨y2, y3.2.1⟩))
  · have hm1 := (hm h).mp z2
    have hh : hq σ h := ⟨z3.1, hm1.2, z3.2⟩
    rcases sp_hand_spec σ (σ 35 0) with y | ⟨g, y1, y2, y3, y4⟩
    · exact absurd hh (y.2 h hm1.1)
    · have a1 := z4 g ((hm g).mpr ⟨y2, y3.2.1⟩) ⟨y3.1, y3.2.2⟩
      have a2 := y4 h hm1.1 hh
      rw [z1, y1]
      omega
