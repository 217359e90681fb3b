/-! Pure: what stays so from step to step; how many steps are left -/
/-- the parts of a task among d from part k on -/
def pnc (σ : ss_S) (t : Nat) : Nat → Nat → Nat
  | 0, _ => 0
  | d + 1, k => if σ 8 k = t then pnc σ t d (k + 1) + 1 else pnc σ t d (k + 1)
def pn (σ : ss_S) (t : Nat) : Nat := pnc σ t (σ 7 0) 0
/-- how many steps a task may still take -/
def wt (σ : ss_S) (t : Nat) : Nat := if σ 11 t = 0 ∨ σ 16 t ≠ 0 then 0 else if σ 26 t ≠ 0 then (if pn σ t - σ 14 t = 0 then 1 else pn σ t - σ 14 t) else pn σ t - σ 14 t + 1
def iv (σ : ss_S) : Prop := (∀ i, σ 17 i < 65536) ∧ uq σ ∧ i9 σ ∧ (∀ t, σ 16 t ≠ 0 → σ 14 t = 0) ∧ ∀ t, σ 26 t ≠ 0 → σ 16 t = 0 ∧ σ 11 t ≠ 0
def mv (σ τ : ss_S) : Prop := iv σ → iv τ ∧ ∀ t, wt τ t ≤ wt σ t
theorem mv.refl (σ : ss_S) : mv σ σ := fun h => ⟨h, fun _ => Nat.le_refl _⟩
theorem mv.trans {σ τ υ : ss_S} (h : mv σ τ) (h2 : mv τ υ) : mv σ υ := fun x => ⟨(h2 (h x).1).1, fun t => Nat.le_trans ((h2 (h x).1).2 t) ((h x).2 t)⟩
theorem pnc_cg {σ τ : ss_S} (t : Nat) (h : ∀ j, τ 8 j = σ 8 j) : ∀ d k, pnc τ t d k = pnc σ t d k := by
  intro d
  induction d with
  | zero => exact fun _ => rfl
  | succ d ih =>
    intro k
    unfold pnc
    rw [h, ih]
theorem pn_cg {σ τ : ss_S} (t : Nat) (h7 : τ 7 0 = σ 7 0) (h : ∀ j, τ 8 j = σ 8 j) : pn τ t = pn σ t := by
  unfold pn
  rw [h7, pnc_cg t h]
theorem wt_cg {σ τ : ss_S} (t : Nat) (h7 : τ 7 0 = σ 7 0) (h : ∀ j, τ 8 j = σ 8 j) (h11 : τ 11 t = σ 11 t) (h14 : τ 14 t = σ 14 t) (h16 : τ 16 t = σ 16 t) (h26 : τ 26 t = σ 26 t) : wt τ t = wt σ t := by
  unfold wt
  rw [pn_cg t h7 h, h11, h14, h16, h26]
abbrev fS (f : Nat) : Prop := f = 1 ∨ f = 3 ∨ f = 7 ∨ f = 8 ∨ f = 43
abbrev fO (f : Nat) : Prop := f = 29 ∨ f = 30 ∨ f = 31
abbrev fD (f : Nat) : Prop := f = 11 ∨ f = 14 ∨ f = 16 ∨ f = 17 ∨ f = 19 ∨ f = 26
theorem i9_cg {σ τ : ss_S} (h : i9 σ) (hO : ∀ f, fO f → τ f 0 = σ f 0) (h43 : τ 43 0 = σ 43 0) : i9 τ := by
  unfold i9 at h ⊢
  rw [hO 29 (by decide), hO 30 (by decide), hO 31 (by decide), h43]
  exact h
theorem mv_at {σ τ : ss_S} (t : Nat) (hD : ∀ f j, fD f → j ≠ t → τ f j = σ f j) (hS : ∀ f j, fS f → τ f j = σ f j) (hO : ∀ f, fO f → τ f 0 = σ f 0)
    (hc : iv σ → τ 17 t < 65536 ∧ (τ 11 t = 2 → σ 11 t = 2) ∧ ((1 ≤ t ∧ t ≤ σ 1 0) → τ 11 t ≠ 2 → τ 19 t = 0) ∧ (τ 16 t ≠ 0 → τ 14 t = 0) ∧ (τ 26 t ≠ 0 → τ 16 t = 0 ∧ τ 11 t ≠ 0) ∧ wt τ t ≤ wt σ t) : mv σ τ := by
  intro h
  obtain ⟨c1, c2, c3, c4, c5, c6⟩ := hc h
  obtain ⟨h1, ⟨h2, h2'⟩, h3, h4, h5⟩ := h
  have s1 : τ 1 0 = σ 1 0 := hS 1 0 (by decide)
  have r : ∀ j, τ 11 j = 2 → σ 11 j = 2 := fun j hj => by
    by_cases e : j = t
    · rw [e] at hj ⊢
      exact c2 hj
    · rw [← hD 11 j (by decide) e]
      exact hj
  refine ⟨⟨fun j => ?_, ⟨fun j j' v v' e q q' => ?_, fun j v q => ?_⟩, i9_cg h3 hO (hS 43 0 (by decide)), fun j q => ?_, fun j q => ?_⟩, fun j => ?_⟩
  · by_cases e : j = t
    · rw [e]
      exact c1
    · rw [hD 17 j (by decide) e]
      exact h1 j
  · rw [s1] at v v'
    rw [hS 3 j (by decide), hS 3 j' (by decide)] at e
    exact h2 j j' v v' e (r j q) (r j' q')
  · rw [s1] at v
    by_cases e : j = t
    · rw [e] at v q ⊢
      exact c3 v q
    · rw [hD 19 j (by decide) e]
      rw [hD 11 j (by decide) e] at q
      exact h2' j v q
  · by_cases e : j = t
    · rw [e] at q ⊢
      exact c4 q
    · rw [hD 16 j (by decide) e] at q
      rw [hD 14 j (by decide) e]
      exact h4 j q
  · by_cases e : j = t
    · rw [e] at q ⊢
      exact c5 q
    · rw [hD 26 j (by decide) e] at q
      rw [hD 16 j (by decide) e, hD 11 j (by decide) e]
      exact h5 j q
  · by_cases e : j = t
    · rw [e]
      exact c6
    · exact Nat.le_of_eq (wt_cg j (hS 7 0 (by decide)) (fun i => hS 8 i (by decide)) (hD 11 j (by decide) e) (hD 14 j (by decide) e) (hD 16 j (by decide) e) (hD 26 j (by decide) e))
theorem mv_eq {σ τ : ss_S} (h : ∀ f j, (fD f ∨ fS f ∨ fO f) → τ f j = σ f j) : mv σ τ := by
  intro x
  obtain ⟨h1, ⟨h2, h2'⟩, h3, h4, h5⟩ := x
  refine ⟨⟨fun j => ?_, ⟨fun j j' v v' e q q' => ?_, fun j v q => ?_⟩, i9_cg h3 (fun f hf => h f 0 (Or.inr (Or.inr hf))) (h 43 0 (by decide)), fun j q => ?_, fun j q => ?_⟩, fun j => ?_⟩
  · rw [h 17 j (by decide)]
    exact h1 j
  · rw [h 1 0 (by decide)] at v v'
    rw [h 3 j (by decide), h 3 j' (by decide)] at e
    rw [h 11 _ (by decide)] at q q'
    exact h2 j j' v v' e q q'
  · rw [h 1 0 (by decide)] at v
    rw [h 11 _ (by decide)] at q
    rw [h 19 _ (by decide)]
    exact h2' j v q
  · rw [h 16 _ (by decide)] at q
    rw [h 14 _ (by decide)]
    exact h4 j q
  · rw [h 26 _ (by decide)] at q
    rw [h 16 _ (by decide), h 11 _ (by decide)]
    exact h5 j q
  · exact Nat.le_of_eq (wt_cg j (h 7 0 (by decide)) (fun i => h 8 i (by decide)) (h 11 j (by decide)) (h 14 j (by decide)) (h 16 j (by decide)) (h 26 j (by decide)))
/-- the blocking of interrupts: ended, or begun -/
theorem mv_off {σ τ : ss_S} (h : ∀ f j, (fD f ∨ fS f) → τ f j = σ f j) (h9 : i9 σ → i9 τ) : mv σ τ := by
  intro x
  have hh : mv σ (fun f j => if fO f then σ f j else τ f j) := mv_eq (fun f j hf => by
    by_cases o : fO f
    · exact if_pos o
    · show (if fO f then σ f j else τ f j) = σ f j
      rw [if_neg o]
      exact h f j (by omega))
  obtain ⟨⟨g1, g2, g3, g4, g5⟩, g6⟩ := hh x
  exact ⟨⟨g1, g2, h9 x.2.2.1, g4, g5⟩, fun j => Nat.le_of_eq (wt_cg j (h 7 0 (by decide)) (fun i => h 8 i (by decide)) (h 11 j (by decide)) (h 14 j (by decide)) (h 16 j (by decide)) (h 26 j (by decide)))⟩
theorem mv.u (σ : ss_S) (f i v : Nat) (hf : ¬ fD f ∧ ¬ fS f ∧ ¬ fO f) : mv σ (ss_u σ f i v) := mv_eq (fun g j hg => ss_uf _ _ _ _ (fun e => by rw [e] at hg; omega))
theorem mv.tell (σ : ss_S) (c t : Nat) : mv σ (sp_tell σ c t) := mv_eq (fun f j hf => sp_tell_f _ _ _ _ _ (by omega))
theorem mv.code (σ : ss_S) (t c : Nat) : mv σ (sp_code σ t c) := by
  unfold sp_code
  split
  · exact mv.refl σ
  · exact mv.tell _ _ _
theorem mv.begin (σ : ss_S) (t : Nat) : mv σ (sp_begin σ t) := by
  by_cases z : σ 11 t = 0
  · have e : sp_begin σ t = ss_u (ss_u (ss_u (ss_u (ss_u (ss_u (ss_u σ 21 0 (σ 21 0 + 1)) 12 t (σ 21 0 + 1)) 11 t 1) 17 t 0) 14 t 0) 15 t 2) 16 t 1 := by
      unfold sp_begin sp_ready
      rw [if_pos z]
    rw [e]
    have a : ∀ f, fD f → f ≠ 19 → f ≠ 26 → ss_u (ss_u (ss_u (ss_u (ss_u (ss_u (ss_u σ 21 0 (σ 21 0 + 1)) 12 t (σ 21 0 + 1)) 11 t 1) 17 t 0) 14 t 0) 15 t 2) 16 t 1 f t = (if f = 11 ∨ f = 16 then 1 else 0) := fun f hf h1 h2 => by
      rcases hf with rfl | rfl | rfl | rfl | rfl | rfl
      · simp [ss_u]
      · simp [ss_u]
      · simp [ss_u]
      · simp [ss_u]
      · exact absurd rfl h1
      · exact absurd rfl h2
    have b : ∀ f, f = 19 ∨ f = 26 → ss_u (ss_u (ss_u (ss_u (ss_u (ss_u (ss_u σ 21 0 (σ 21 0 + 1)) 12 t (σ 21 0 + 1)) 11 t 1) 17 t 0) 14 t 0) 15 t 2) 16 t 1 f t = σ f t := fun f hf => by
      rw [ss_uf _ _ _ _ (by omega), ss_uf _ _ _ _ (by omega), ss_uf _ _ _ _ (by omega), ss_uf _ _ _ _ (by omega), ss_uf _ _ _ _ (by omega), ss_uf _ _ _ _ (by omega), ss_uf _ _ _ _ (by omega)]
    refine mv_at t (fun f j hf hj => ?_) (fun f j hf => ?_) (fun f hf => ?_) (fun h => ⟨?_, ?_, ?_, ?_, ?_, ?_⟩)
    · rw [ss_ui _ _ _ _ hj, ss_ui _ _ _ _ hj, ss_ui _ _ _ _ hj, ss_ui _ _ _ _ hj, ss_ui _ _ _ _ hj, ss_ui _ _ _ _ hj, ss_uf _ _ _ _ (by omega)]
    · rw [ss_uf _ _ _ _ (by omega), ss_uf _ _ _ _ (by omega), ss_uf _ _ _ _ (by omega), ss_uf _ _ _ _ (by omega), ss_uf _ _ _ _ (by omega), ss_uf _ _ _ _ (by omega), ss_uf _ _ _ _ (by omega)]
    · rw [ss_uf _ _ _ _ (by omega), ss_uf _ _ _ _ (by omega), ss_uf _ _ _ _ (by omega), ss_uf _ _ _ _ (by omega), ss_uf _ _ _ _ (by omega), ss_uf _ _ _ _ (by omega), ss_uf _ _ _ _ (by omega)]
    · rw [a 17 (by decide) (by decide) (by decide)]
      decide
    · rw [a 11 (by decide) (by decide) (by decide)]
      intro q
      exact absurd q (by decide)
    · intro v _
      rw [b 19 (by decide)]
      exact h.2.1.2 t v (by omega)
    · intro _
      rw [a 14 (by decide) (by decide) (by decide)]
      decide
    · rw [b 26 (by decide)]
      intro q
      exact absurd z (h.2.2.2.2 t q).2
    · unfold wt
      rw [if_pos (Or.inr (by rw [a 16 (by decide) (by decide) (by decide)]; decide))]
      exact Nat.zero_le _
  · unfold sp_begin
    rw [if_neg z]
    split
    · exact mv.u _ _ _ _ (by decide)
    · exact mv.tell _ _ _
theorem mv.set (σ : ss_S) (t e : Nat) (he : e < 65536) : mv σ (sp_set σ t e) := by
  have orl : iv σ → (σ 17 t ||| e) < 65536 := fun h => Nat.or_lt_two_pow (n := 16) (h.1 t) he
  unfold sp_set
  split
  · rename_i hc
    unfold sp_ready
    refine mv_at t (fun f j hf hj => ?_) (fun f j hf => ?_) (fun f hf => ?_) (fun h => ⟨?_, ?_, ?_, ?_, ?_, ?_⟩)
    · rw [ss_ui _ _ _ _ hj, ss_ui _ _ _ _ hj, ss_uf _ _ _ _ (by omega), ss_ui _ _ _ _ hj]
    · rw [ss_uf _ _ _ _ (by omega), ss_uf _ _ _ _ (by omega), ss_uf _ _ _ _ (by omega), ss_uf _ _ _ _ (by omega)]
    · rw [ss_uf _ _ _ _ (by omega), ss_uf _ _ _ _ (by omega), ss_uf _ _ _ _ (by omega), ss_uf _ _ _ _ (by omega)]
    · rw [ss_uf _ _ _ _ (by decide), ss_uf _ _ _ _ (by decide), ss_uf _ _ _ _ (by decide), ss_us]
      exact orl h
    · rw [ss_us]
      intro q
      exact absurd q (by decide)
    · intro v _
      rw [ss_uf _ _ _ _ (by decide), ss_uf _ _ _ _ (by decide), ss_uf _ _ _ _ (by decide), ss_uf _ _ _ _ (by decide)]
      exact h.2.1.2 t v (by omega)
    · rw [ss_uf _ _ _ _ (by decide), ss_uf _ _ _ _ (by decide), ss_uf _ _ _ _ (by decide), ss_uf _ _ _ _ (by decide), ss_uf _ _ _ _ (by decide), ss_uf _ _ _ _ (by decide), ss_uf _ _ _ _ (by decide), ss_uf _ _ _ _ (by decide)]
      exact h.2.2.2.1 t
    · rw [ss_uf _ _ _ _ (by decide), ss_uf _ _ _ _ (by decide), ss_uf _ _ _ _ (by decide), ss_uf _ _ _ _ (by decide), ss_uf _ _ _ _ (by decide), ss_uf _ _ _ _ (by decide), ss_uf _ _ _ _ (by decide), ss_uf _ _ _ _ (by decide), ss_us]
      exact fun q => ⟨(h.2.2.2.2 t q).1, by decide⟩
    · have g : ∀ f j, f ≠ 11 ∧ f ≠ 12 ∧ f ≠ 21 ∧ f ≠ 17 → ss_u (ss_u (ss_u (ss_u σ 17 t (σ 17 t ||| e)) 21 0 (ss_u σ 17 t (σ 17 t ||| e) 21 0 + 1)) 12 t (ss_u σ 17 t (σ 17 t ||| e) 21 0 + 1)) 11 t 1 f j = σ f j := fun f j hf => by
        rw [ss_uf _ _ _ _ hf.1, ss_uf _ _ _ _ hf.2.1, ss_uf _ _ _ _ hf.2.2.1, ss_uf _ _ _ _ hf.2.2.2]
      unfold wt
      rw [pn_cg t (g 7 0 (by decide)) (fun j => g 8 j (by decide)), g 14 t (by decide), g 16 t (by decide), g 26 t (by decide), ss_us, hc.1]
      simp
  · refine mv_at t (fun f j hf hj => ss_ui _ _ _ _ hj) (fun f j hf => ss_uf _ _ _ _ (by omega)) (fun f hf => ss_uf _ _ _ _ (by omega)) (fun h => ⟨?_, ?_, ?_, ?_, ?_, ?_⟩)
    · rw [ss_us]
      exact orl h
    · rw [ss_uf _ _ _ _ (by decide)]
      exact id
    · rw [ss_uf _ _ _ _ (by decide), ss_uf _ _ _ _ (by decide)]
      exact h.2.1.2 t
    · rw [ss_uf _ _ _ _ (by decide), ss_uf _ _ _ _ (by decide)]
      exact h.2.2.2.1 t
    · rw [ss_uf _ _ _ _ (by decide), ss_uf _ _ _ _ (by decide), ss_uf _ _ _ _ (by decide)]
      exact h.2.2.2.2 t
    · exact Nat.le_of_eq (wt_cg t (ss_uf _ _ _ _ (by decide)) (fun j => ss_uf _ _ _ _ (by decide)) (ss_uf _ _ _ _ (by decide)) (ss_uf _ _ _ _ (by decide)) (ss_uf _ _ _ _ (by decide)) (ss_uf _ _ _ _ (by decide)))
theorem mv.unlock (σ : ss_S) (l : Nat) (hl : l ≠ 0) : mv σ (sp_unlock σ l) := by
  unfold sp_unlock
  rcases sp_fst_spec σ l (σ 1 0) with ⟨f0, -⟩ | ⟨f1, f2, -⟩
  · rw [if_pos f0]
    exact mv.u _ _ _ _ (by decide)
  · generalize sp_fst σ l (σ 1 0) = t at f1 f2
    rw [if_neg (by omega)]
    have g : ∀ f j, f ≠ 25 ∧ f ≠ 26 ∧ f ≠ 14 → ss_u (ss_u (ss_u (ss_u σ 25 l 0) 25 l t) 26 t 0) 14 t (σ 14 t + 1) f j = σ f j := fun f j hf => by
      rw [ss_uf _ _ _ _ hf.2.2, ss_uf _ _ _ _ hf.2.1, ss_uf _ _ _ _ hf.1, ss_uf _ _ _ _ hf.1]
    refine mv_at t (fun f j hf hj => ?_) (fun f j hf => g f j (by omega)) (fun f hf => g f 0 (by omega)) (fun h => ⟨?_, ?_, ?_, ?_, ?_, ?_⟩)
    · rw [ss_ui _ _ _ _ hj, ss_ui _ _ _ _ hj, ss_uf _ _ _ _ (by omega), ss_uf _ _ _ _ (by omega)]
    · rw [g 17 t (by decide)]
      exact h.1 t
    · rw [g 11 t (by decide)]
      exact id
    · rw [g 11 t (by decide), g 19 t (by decide)]
      exact h.2.1.2 t
    · rw [g 16 t (by decide)]
      intro q
      exact absurd (h.2.2.2.2 t (by omega)).1 q
    · rw [ss_uf _ _ _ _ (by decide), ss_us]
      exact fun q => absurd rfl q
    · have h5 := h.2.2.2.2 t (by omega)
      unfold wt
      rw [pn_cg t (g 7 0 (by decide)) (fun j => g 8 j (by decide)), g 11 t (by decide), g 16 t (by decide), ss_us, ss_uf (g := 26) _ _ _ _ (by decide), ss_us, if_neg (fun z => by omega), if_neg (fun z => z rfl), if_neg (fun z => by omega), if_pos (by omega)]
      split
      · omega
      · omega
