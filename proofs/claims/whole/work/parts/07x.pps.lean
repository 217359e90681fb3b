/-! Pure: q microseconds that are all alike -/
theorem ss_uu (σ : ss_S) (f i v w : Nat) : ss_u (ss_u σ f i v) f i w = ss_u σ f i w := by
  funext g j
  by_cases hg : g = f
  · subst hg
    rw [ss_ue, ss_ue, ss_ue]
    split <;> rfl
  · rw [ss_uf _ _ _ _ hg, ss_uf _ _ _ _ hg, ss_uf _ _ _ _ hg]
def lft (σ : ss_S) (t : Nat) : Nat := if σ 15 t ≠ 0 then σ 15 t - 1 else match sp_next σ t with | some k => σ 10 k | none => 0
def spq (σ : ss_S) (t q : Nat) : ss_S :=
  if σ 26 t ≠ 0 then ss_u σ 20 t (σ 20 t + q)
  else if σ 16 t ≠ 0 then ss_u (ss_u (ss_u σ 20 t (σ 20 t + q)) 16 t 0) 15 t 0
  else if lft σ t ≤ q then ss_u (ss_u (ss_u σ 20 t (σ 20 t + q)) 15 t 0) 14 t (σ 14 t + 1)
  else ss_u (ss_u σ 20 t (σ 20 t + q)) 15 t (lft σ t - q + 1)
theorem sp_pass_q {σ : ss_S} {t : Nat} (h : sp_pok σ t) : sp_pass σ t = spq σ t 1 := by
  unfold sp_pass sp_passB spq lft
  have e26 : ss_u σ 20 t (σ 20 t + 1) 26 t = σ 26 t := rfl
  have e16 : ss_u σ 20 t (σ 20 t + 1) 16 t = σ 16 t := rfl
  have e15 : ss_u σ 20 t (σ 20 t + 1) 15 t = σ 15 t := rfl
  have e14 : ss_u σ 20 t (σ 20 t + 1) 14 t = σ 14 t := rfl
  have en : sp_next (ss_u σ 20 t (σ 20 t + 1)) t = sp_next σ t := sp_next_u σ t 20 t _ (by decide)
  rw [e26, e16, e15, en]
  by_cases h26 : σ 26 t ≠ 0
  · rw [if_pos h26, if_pos h26]
  rw [if_neg h26, if_neg h26]
  by_cases h16 : σ 16 t ≠ 0
  · rw [if_pos h16, if_pos h16]
  rw [if_neg h16, if_neg h16]
  by_cases h15 : σ 15 t ≠ 0
  · rw [if_pos h15, if_pos h15]
    unfold sp_passA
    rw [e15, e14]
    by_cases z : σ 15 t - 1 ≤ 1
    · rw [if_pos z, if_pos z, ss_uu]
    · rw [if_neg z, if_neg z, show σ 15 t - 1 - 1 + 1 = σ 15 t - 1 by omega]
  rw [if_neg h15, if_neg h15]
  unfold sp_pok at h
  cases hn : sp_next σ t with
  | none =>
    exfalso
    rcases h with h | h | h | h
    · exact h26 h
    · exact h16 h
    · exact h15 h
    · exact h hn
  | some k =>
    show sp_passA (ss_u (ss_u σ 20 t (σ 20 t + 1)) 15 t (σ 10 k + 1)) t = if σ 10 k ≤ 1 then _ else _
    unfold sp_passA
    rw [ss_us, Nat.add_sub_cancel, ss_uu]
    by_cases z : σ 10 k ≤ 1
    · rw [if_pos z, if_pos z, ss_uu]
      rfl
    · rw [if_neg z, if_neg z, show σ 10 k - 1 + 1 = σ 10 k by omega, ss_uu]
theorem spq_o (σ : ss_S) (t q f i : Nat) (h : i ≠ t ∨ (f ≠ 14 ∧ f ≠ 15 ∧ f ≠ 16 ∧ f ≠ 20)) : spq σ t q f i = σ f i := by
  have e : ∀ (τ : ss_S) g v, (g = 14 ∨ g = 15 ∨ g = 16 ∨ g = 20) → ss_u τ g t v f i = τ f i := fun τ g v hg => by
    rcases h with h | h
    · exact ss_ui _ _ _ _ h
    · exact ss_uf _ _ _ _ (by omega)
  unfold spq
  split
  · rw [e _ _ _ (by decide)]
  · split
    · rw [e _ _ _ (by decide), e _ _ _ (by decide), e _ _ _ (by decide)]
    · split
      · rw [e _ _ _ (by decide), e _ _ _ (by decide), e _ _ _ (by decide)]
      · rw [e _ _ _ (by decide), e _ _ _ (by decide)]
theorem spq_14 (σ : ss_S) (t q : Nat) : spq σ t q 14 t = if σ 26 t = 0 ∧ σ 16 t = 0 ∧ lft σ t ≤ q then σ 14 t + 1 else σ 14 t := by
  unfold spq
  by_cases h26 : σ 26 t = 0
  · rw [if_neg (fun z => z h26)]
    by_cases h16 : σ 16 t = 0
    · rw [if_neg (fun z => z h16)]
      by_cases hl : lft σ t ≤ q
      · rw [if_pos hl, if_pos ⟨h26, h16, hl⟩, ss_us]
      · rw [if_neg hl, if_neg (fun z => hl z.2.2)]
        rfl
    · rw [if_pos h16, if_neg (fun z => h16 z.2.1)]
      rfl
  · rw [if_pos h26, if_neg (fun z => h26 z.1)]
    rfl
theorem spq_15 (σ : ss_S) (t q : Nat) : spq σ t q 15 t = if σ 26 t = 0 then (if σ 16 t = 0 then (if lft σ t ≤ q then 0 else lft σ t - q + 1) else 0) else σ 15 t := by
  unfold spq
  by_cases h26 : σ 26 t = 0
  · rw [if_neg (fun z => z h26), if_pos h26]
    by_cases h16 : σ 16 t = 0
    · rw [if_neg (fun z => z h16), if_pos h16]
      by_cases hl : lft σ t ≤ q
      · rw [if_pos hl, if_pos hl, ss_uf _ _ _ _ (by decide), ss_us]
      · rw [if_neg hl, if_neg hl, ss_us]
    · rw [if_pos h16, if_neg h16, ss_us]
  · rw [if_pos h26, if_neg h26]
    rfl
theorem spq_16 (σ : ss_S) (t q : Nat) : spq σ t q 16 t = if σ 26 t = 0 then 0 else σ 16 t := by
  unfold spq
  by_cases h26 : σ 26 t = 0
  · rw [if_neg (fun z => z h26), if_pos h26]
    by_cases h16 : σ 16 t = 0
    · rw [if_neg (fun z => z h16)]
      by_cases hl : lft σ t ≤ q
      · rw [if_pos hl]
        exact h16
      · rw [if_neg hl]
        exact h16
    · rw [if_pos h16, ss_uf _ _ _ _ (by decide), ss_us]
  · rw [if_pos h26, if_neg h26]
    rfl
theorem spq_20 (σ : ss_S) (t q : Nat) : spq σ t q 20 t = σ 20 t + q := by
  unfold spq
  split
  · rw [ss_us]
  · split
    · rw [ss_uf _ _ _ _ (by decide), ss_uf _ _ _ _ (by decide), ss_us]
    · split
      · rw [ss_uf _ _ _ _ (by decide), ss_uf _ _ _ _ (by decide), ss_us]
      · rw [ss_uf _ _ _ _ (by decide), ss_us]
abbrev itr (σ : ss_S) (k : Nat) : Prop := k = 0 ∧ sp_atHand σ ≠ 0
/-- of the first k cores, the task that passes -/
abbrev pk (σ : ss_S) (k i : Nat) : Prop := σ 3 i < k ∧ i ≠ 0 ∧ sp_running σ (σ 3 i) = i ∧ ¬ itr σ (σ 3 i)
def whoc (σ : ss_S) (k : Nat) : Nat := if itr σ k then 1000 + σ 36 (sp_atHand σ - 1) else sp_running σ k
def Qt (σ : ss_S) (q k : Nat) : ss_S := fun f i => if f = 14 ∨ f = 15 ∨ f = 16 ∨ f = 20 then (if pk σ k i then spq σ i q f i else σ f i) else σ f i
def Qw (σ : ss_S) (q k : Nat) : ss_S := fun f i => if f = 44 then (if i / 50000 < k ∧ σ 43 0 ≤ i % 50000 ∧ i % 50000 < σ 43 0 + q then whoc σ (i / 50000) else σ 44 i) else if f = 38 then (if sp_atHand σ = i + 1 ∧ 0 < k then σ 38 i - q else σ 38 i) else Qt σ q k f i
def Qs (σ : ss_S) (q k : Nat) : ss_S := ss_u (Qw σ q k) 43 0 (σ 43 0 + q)
theorem Qt_o (σ : ss_S) (q k f i : Nat) (h : f ≠ 14 ∧ f ≠ 15 ∧ f ≠ 16 ∧ f ≠ 20) : Qt σ q k f i = σ f i := by
  unfold Qt
  rw [if_neg (by omega)]
theorem Qw_o (σ : ss_S) (q k f i : Nat) (h : f ≠ 14 ∧ f ≠ 15 ∧ f ≠ 16 ∧ f ≠ 20 ∧ f ≠ 38 ∧ f ≠ 44) : Qw σ q k f i = σ f i := by
  unfold Qw
  rw [if_neg h.2.2.2.2.2, if_neg h.2.2.2.2.1, Qt_o _ _ _ _ _ (by omega)]
theorem Qw_t (σ : ss_S) (q k f i : Nat) (h : f = 14 ∨ f = 15 ∨ f = 16 ∨ f = 20) : Qw σ q k f i = if pk σ k i then spq σ i q f i else σ f i := by
  unfold Qw
  rw [if_neg (by omega), if_neg (by omega)]
  unfold Qt
  rw [if_pos h]
theorem Qw_38 (σ : ss_S) (q k i : Nat) : Qw σ q k 38 i = if sp_atHand σ = i + 1 ∧ 0 < k then σ 38 i - q else σ 38 i := by
  unfold Qw
  rw [if_neg (by decide), if_pos rfl]
theorem Qw_44 (σ : ss_S) (q k i : Nat) : Qw σ q k 44 i = if i / 50000 < k ∧ σ 43 0 ≤ i % 50000 ∧ i % 50000 < σ 43 0 + q then whoc σ (i / 50000) else σ 44 i := by
  unfold Qw
  rw [if_pos rfl]
theorem Qw_0 (σ : ss_S) (q : Nat) : Qw σ q 0 = σ := by
  funext f i
  unfold Qw
  by_cases h1 : f = 44
  · rw [if_pos h1, if_neg (fun z => absurd z.1 (Nat.not_lt_zero _)), h1]
  · rw [if_neg h1]
    by_cases h2 : f = 38
    · rw [if_pos h2, if_neg (fun z => absurd z.2 (Nat.not_lt_zero _)), h2]
    · rw [if_neg h2]
      unfold Qt
      split
      · rw [if_neg (fun z => absurd z.1 (Nat.not_lt_zero _))]
      · rfl
theorem chosen_run {τ : ss_S} {k : Nat} (hc : sp_choose τ k = τ) : sp_chosen τ k = sp_running τ k := by
  rcases sp_choose_cases τ k with ⟨a1, a2, a3⟩ | ⟨a0, a1, a2, a3⟩ | ⟨b, a1, a2, a3, a4, a5, a6, a7, a8⟩
  · exact a2
  · exact a1
  · rw [hc] at a8
    have : τ 11 b = 2 := by
      rw [a8]
      exact ss_us _ _ _ _
    omega
theorem agc_Qw (σ : ss_S) (q k k' : Nat) : agc k' (Qw σ q k) σ := ⟨fun f j h => Qw_o σ q k f j (by omega), fun j _ => ⟨Qw_o σ q k 11 j (by decide), Qw_o σ q k 19 j (by decide)⟩⟩
def nsw (σ : ss_S) : Nat → Nat
  | 0 => 0
  | k + 1 => nsw σ k + (if whoc σ k = sp_before σ k then 0 else 1)
theorem pk_s (σ : ss_S) (k i : Nat) : pk σ (k + 1) i ↔ pk σ k i ∨ (i ≠ 0 ∧ sp_running σ k = i ∧ ¬ itr σ k) := by
  constructor
  · rintro ⟨h1, h2, h3, h4⟩
    by_cases q : σ 3 i = k
    · rw [q] at h3 h4
      exact Or.inr ⟨h2, h3, h4⟩
    · exact Or.inl ⟨by omega, h2, h3, h4⟩
  · rintro (⟨h1, h2, h3, h4⟩ | ⟨h1, h2, h3⟩)
    · exact ⟨by omega, h2, h3, h4⟩
    · rcases sp_running_spec σ k with z | z
      · omega
      · rw [h2] at z
        refine ⟨by omega, h1, ?_, ?_⟩
        · rw [z.2.1]
          exact h2
        · rw [z.2.1]
          exact h3
theorem lft_cg {σ τ : ss_S} {t : Nat} (h15 : τ 15 t = σ 15 t) (h7 : τ 7 0 = σ 7 0) (h8 : ∀ j, τ 8 j = σ 8 j) (h14 : τ 14 t = σ 14 t) (h10 : ∀ j, τ 10 j = σ 10 j) : lft τ t = lft σ t := by
  unfold lft
  rw [h15, sp_next_cg (σ := σ) t h8 h7 h14]
  split
  · rfl
  · cases sp_next σ t with
    | none => rfl
    | some k => exact h10 k
/-- a core's microsecond: one core more -/
theorem go_Qw {σ : ss_S} (hnow : σ 43 0 < 50000) (k : Nat) (hpok : ¬ itr σ k → sp_running σ k ≠ 0 → sp_pok σ (sp_running σ k)) : sp_go (Qw σ 1 k) k (sp_running σ k) = Qw σ 1 (k + 1) ∧ sp_who (Qw σ 1 k) k (sp_running σ k) = whoc σ k ∧ sp_before (sp_put (Qw σ 1 k) k (sp_running σ k)) k = sp_before σ k := by
  have h43 : Qw σ 1 k 43 0 = σ 43 0 := Qw_o _ _ _ _ _ (by decide)
  have eci : sp_ci (Qw σ 1 k) k = if k = 0 then sp_atHand σ else 0 := by
    unfold sp_ci
    by_cases z : k = 0
    · rw [if_pos z, if_pos z, z, Qw_0]
    · rw [if_neg z, if_neg z]
  have ewho : sp_who (Qw σ 1 k) k (sp_running σ k) = whoc σ k := by
    unfold sp_who whoc
    rw [eci]
    by_cases z : k = 0
    · rw [if_pos z]
      by_cases y : sp_atHand σ = 0
      · rw [if_pos y, if_neg (fun x => x.2 y)]
      · rw [if_neg y, if_pos ⟨z, y⟩, Qw_o _ _ _ _ _ (by decide)]
    · rw [if_neg z, if_pos rfl, if_neg (fun x => z x.1)]
  have eput : sp_put (Qw σ 1 k) k (sp_running σ k) = ss_u (Qw σ 1 k) 44 (50000 * k + σ 43 0) (whoc σ k) := by
    unfold sp_put
    rw [ewho, h43]
  have ebef : sp_before (sp_put (Qw σ 1 k) k (sp_running σ k)) k = sp_before σ k := by
    rw [eput]
    unfold sp_before
    rw [ss_uf _ _ _ _ (by decide), h43]
    split
    · rfl
    · rename_i z
      rw [ss_ui _ _ _ _ (by omega)]
      unfold Qw
      rw [if_pos rfl, if_neg]
      intro y
      have := y.2.1
      have e1 : (50000 * k + σ 43 0 - 1) % 50000 = σ 43 0 - 1 := by omega
      omega
  refine ⟨?_, ewho, ebef⟩
  have w44 : ∀ i, Qw σ 1 (k + 1) 44 i = if i = 50000 * k + σ 43 0 then whoc σ k else Qw σ 1 k 44 i := fun i => by
    unfold Qw
    rw [if_pos rfl, if_pos rfl]
    by_cases z : i = 50000 * k + σ 43 0
    · have e1 : i / 50000 = k := by omega
      have e2 : i % 50000 = σ 43 0 := by omega
      rw [if_pos z, e1, e2, if_pos ⟨by omega, by omega, by omega⟩]
    · rw [if_neg z]
      by_cases y : i / 50000 < k ∧ σ 43 0 ≤ i % 50000 ∧ i % 50000 < σ 43 0 + 1
      · rw [if_pos y, if_pos ⟨by omega, y.2⟩]
      · rw [if_neg y, if_neg (by omega)]
  have pkn : ∀ i, i ≠ sp_running σ k ∨ itr σ k ∨ i = 0 → (pk σ (k + 1) i ↔ pk σ k i) := fun i h => by
    rw [pk_s]
    constructor
    · rintro (z | z)
      · exact z
      · exact absurd z (fun z => by
          rcases h with h | h | h
          · exact h z.2.1.symm
          · exact z.2.2 h
          · exact z.1 h)
    · exact Or.inl
  have ot : ∀ f i, f ≠ 44 → f ≠ 38 → (i ≠ sp_running σ k ∨ itr σ k ∨ i = 0 ∨ (f ≠ 14 ∧ f ≠ 15 ∧ f ≠ 16 ∧ f ≠ 20)) → Qw σ 1 (k + 1) f i = Qw σ 1 k f i := fun f i h1 h2 h3 => by
    by_cases z : f = 14 ∨ f = 15 ∨ f = 16 ∨ f = 20
    · rw [Qw_t _ _ _ _ _ z, Qw_t _ _ _ _ _ z]
      have := pkn i (by omega)
      by_cases y : pk σ k i
      · rw [if_pos y, if_pos (this.mpr y)]
      · rw [if_neg y, if_neg (fun x => y (this.mp x))]
    · rw [Qw_o _ _ _ _ _ (by omega), Qw_o _ _ _ _ _ (by omega)]
  unfold sp_go
  rw [eci, eput]
  by_cases z : k = 0
  · rw [if_pos z]
    by_cases y : sp_atHand σ = 0
    · rw [if_pos y]
      have hni : ¬ itr σ k := fun x => x.2 y
      have w38 : ∀ i, Qw σ 1 (k + 1) 38 i = Qw σ 1 k 38 i := fun i => by
        rw [Qw_38, Qw_38, if_neg (fun x => by omega), if_neg (fun x => by omega)]
      by_cases ht : sp_running σ k = 0
      · rw [if_pos ht]
        funext f i
        by_cases h1 : f = 44
        · rw [h1, w44, ss_ue]
        · rw [ss_uf _ _ _ _ h1]
          by_cases h2 : f = 38
          · rw [h2, w38]
          · refine (ot f i h1 h2 ?_).symm
            omega
      · rw [if_neg ht]
        have h3k : σ 3 (sp_running σ k) = k := ((sp_running_spec σ k).resolve_left (fun z => ht z.1)).2.1
        have hnp : ¬ pk σ k (sp_running σ k) := fun x => by
          have := x.1
          omega
        have hpk : pk σ (k + 1) (sp_running σ k) := (pk_s σ k _).mpr (Or.inr ⟨ht, rfl, hni⟩)
        have hp := hpok hni ht
        generalize sp_running σ k = t at *
        have ff : ∀ f i, (f ≠ 44 ∧ f ≠ 38) → (i = t ∨ (f ≠ 14 ∧ f ≠ 15 ∧ f ≠ 16 ∧ f ≠ 20)) → ss_u (Qw σ 1 k) 44 (50000 * k + σ 43 0) (whoc σ k) f i = σ f i := fun f i hf hi => by
          rw [ss_uf _ _ _ _ hf.1]
          by_cases x : f = 14 ∨ f = 15 ∨ f = 16 ∨ f = 20
          · have hi' : i = t := by omega
            rw [Qw_t _ _ _ _ _ x, hi', if_neg hnp]
          · exact Qw_o _ _ _ _ _ (by omega)
        have enx : sp_next (ss_u (Qw σ 1 k) 44 (50000 * k + σ 43 0) (whoc σ k)) t = sp_next σ t := sp_next_cg t (fun j => ff 8 j (by decide) (by omega)) (ff 7 0 (by decide) (by omega)) (ff 14 t (by decide) (by omega))
        have hp' : sp_pok (ss_u (Qw σ 1 k) 44 (50000 * k + σ 43 0) (whoc σ k)) t := by
          unfold sp_pok at hp ⊢
          rw [ff 26 t (by decide) (by omega), ff 16 t (by decide) (by omega), ff 15 t (by decide) (by omega), enx]
          exact hp
        have el : lft (ss_u (Qw σ 1 k) 44 (50000 * k + σ 43 0) (whoc σ k)) t = lft σ t := lft_cg (ff 15 t (by decide) (by omega)) (ff 7 0 (by decide) (by omega)) (fun j => ff 8 j (by decide) (by omega)) (ff 14 t (by decide) (by omega)) (fun j => ff 10 j (by decide) (by omega))
        rw [sp_pass_q hp']
        funext f i
        by_cases hx : i = t ∧ (f = 14 ∨ f = 15 ∨ f = 16 ∨ f = 20)
        · rw [Qw_t _ _ _ _ _ hx.2, hx.1, if_pos hpk]
          rcases hx.2 with x | x | x | x
          · rw [x, spq_14, spq_14, el, ff 26 t (by decide) (by omega), ff 16 t (by decide) (by omega), ff 14 t (by decide) (by omega)]
          · rw [x, spq_15, spq_15, el, ff 26 t (by decide) (by omega), ff 16 t (by decide) (by omega), ff 15 t (by decide) (by omega)]
          · rw [x, spq_16, spq_16, ff 26 t (by decide) (by omega), ff 16 t (by decide) (by omega)]
          · rw [x, spq_20, spq_20, ff 20 t (by decide) (by omega)]
        · rw [spq_o _ _ _ _ _ (by omega)]
          by_cases h1 : f = 44
          · rw [h1, w44, ss_ue]
          · rw [ss_uf _ _ _ _ h1]
            by_cases h2 : f = 38
            · rw [h2, w38]
            · refine (ot f i h1 h2 ?_).symm
              omega
    · rw [if_neg y]
      have hi : itr σ k := ⟨z, y⟩
      obtain ⟨a, ha⟩ : ∃ a, sp_atHand σ = a + 1 := ⟨sp_atHand σ - 1, by omega⟩
      have eq0 : Qw σ 1 k = σ := by rw [z, Qw_0]
      funext f i
      by_cases h2 : f = 38
      · rw [h2, ss_ue]
        rw [eq0, Qw_38, ha, Nat.add_sub_cancel]
        by_cases x : i = a
        · rw [if_pos x, if_pos ⟨by omega, by omega⟩, x]
        · rw [if_neg x, if_neg (fun y => by omega)]
          rfl
      · rw [ss_uf _ _ _ _ h2]
        by_cases h1 : f = 44
        · rw [h1, w44, ss_ue]
        · rw [ss_uf _ _ _ _ h1]
          exact (ot f i h1 h2 (Or.inr (Or.inl hi))).symm
  · rw [if_neg z, if_pos rfl]
    have hni : ¬ itr σ k := fun x => z x.1
    have w38 : ∀ i, Qw σ 1 (k + 1) 38 i = Qw σ 1 k 38 i := fun i => by
      rw [Qw_38, Qw_38]
      by_cases x : sp_atHand σ = i + 1
      · rw [if_pos ⟨x, by omega⟩, if_pos ⟨x, by omega⟩]
      · rw [if_neg (fun y => x y.1), if_neg (fun y => x y.1)]
    by_cases ht : sp_running σ k = 0
    · rw [if_pos ht]
      funext f i
      by_cases h1 : f = 44
      · rw [h1, w44, ss_ue]
      · rw [ss_uf _ _ _ _ h1]
        by_cases h2 : f = 38
        · rw [h2, w38]
        · refine (ot f i h1 h2 ?_).symm
          omega
    · rw [if_neg ht]
      have h3k : σ 3 (sp_running σ k) = k := ((sp_running_spec σ k).resolve_left (fun z => ht z.1)).2.1
      have hnp : ¬ pk σ k (sp_running σ k) := fun x => by
        have := x.1
        omega
      have hpk : pk σ (k + 1) (sp_running σ k) := (pk_s σ k _).mpr (Or.inr ⟨ht, rfl, hni⟩)
      have hp := hpok hni ht
      generalize sp_running σ k = t at *
      have ff : ∀ f i, (f ≠ 44 ∧ f ≠ 38) → (i = t ∨ (f ≠ 14 ∧ f ≠ 15 ∧ f ≠ 16 ∧ f ≠ 20)) → ss_u (Qw σ 1 k) 44 (50000 * k + σ 43 0) (whoc σ k) f i = σ f i := fun f i hf hi => by
        rw [ss_uf _ _ _ _ hf.1]
        by_cases x : f = 14 ∨ f = 15 ∨ f = 16 ∨ f = 20
        · have hi' : i = t := by omega
          rw [Qw_t _ _ _ _ _ x, hi', if_neg hnp]
        · exact Qw_o _ _ _ _ _ (by omega)
      have enx : sp_next (ss_u (Qw σ 1 k) 44 (50000 * k + σ 43 0) (whoc σ k)) t = sp_next σ t := sp_next_cg t (fun j => ff 8 j (by decide) (by omega)) (ff 7 0 (by decide) (by omega)) (ff 14 t (by decide) (by omega))
      have hp' : sp_pok (ss_u (Qw σ 1 k) 44 (50000 * k + σ 43 0) (whoc σ k)) t := by
        unfold sp_pok at hp ⊢
        rw [ff 26 t (by decide) (by omega), ff 16 t (by decide) (by omega), ff 15 t (by decide) (by omega), enx]
        exact hp
      have el : lft (ss_u (Qw σ 1 k) 44 (50000 * k + σ 43 0) (whoc σ k)) t = lft σ t := lft_cg (ff 15 t (by decide) (by omega)) (ff 7 0 (by decide) (by omega)) (fun j => ff 8 j (by decide) (by omega)) (ff 14 t (by decide) (by omega)) (fun j => ff 10 j (by decide) (by omega))
      rw [sp_pass_q hp']
      funext f i
      by_cases hx : i = t ∧ (f = 14 ∨ f = 15 ∨ f = 16 ∨ f = 20)
      · rw [Qw_t _ _ _ _ _ hx.2, hx.1, if_pos hpk]
        rcases hx.2 with x | x | x | x
        · rw [x, spq_14, spq_14, el, ff 26 t (by decide) (by omega), ff 16 t (by decide) (by omega), ff 14 t (by decide) (by omega)]
        · rw [x, spq_15, spq_15, el, ff 26 t (by decide) (by omega), ff 16 t (by decide) (by omega), ff 15 t (by decide) (by omega)]
        · rw [x, spq_16, spq_16, ff 26 t (by decide) (by omega), ff 16 t (by decide) (by omega)]
        · rw [x, spq_20, spq_20, ff 20 t (by decide) (by omega)]
      · rw [spq_o _ _ _ _ _ (by omega)]
        by_cases h1 : f = 44
        · rw [h1, w44, ss_ue]
        · rw [ss_uf _ _ _ _ h1]
          by_cases h2 : f = 38
          · rw [h2, w38]
          · refine (ot f i h1 h2 ?_).symm
            omega
/-- the microsecond of all cores -/
theorem pc_Qw {σm σ : ss_S} {C : Nat} (hu : uq σm) (h1 : sp_choose σm 0 = σ) (hch : ∀ k, k < C → sp_choose σ k = σ) (hnow : σ 43 0 < 50000) (hpok : ∀ k, k < C → ¬ itr σ k → sp_running σ k ≠ 0 → sp_pok σ (sp_running σ k)) : ∀ k, k ≤ C → (k ≠ 0 → (sp_pc σm k).1 = Qw σ 1 k) ∧ (sp_pc σm k).2 = nsw σ k := by
  intro k
  induction k with
  | zero => exact fun _ => ⟨fun z => absurd rfl z, rfl⟩
  | succ k ih =>
    intro hk
    obtain ⟨i1, i2⟩ := ih (by omega)
    have key : sp_choose (sp_pc σm k).1 k = Qw σ 1 k ∧ sp_chosen (sp_pc σm k).1 k = sp_running σ k := by
      by_cases z : k = 0
      · subst z
        rw [Qw_0]
        refine ⟨h1, ?_⟩
        have := (sp_choose_after hu 0).1
        rw [h1] at this
        exact this.symm
      · rw [i1 z]
        have a := agc_Qw σ 1 k k
        exact ⟨a.choose (hch k (by omega)), a.run.2.trans (chosen_run (hch k (by omega)))⟩
    obtain ⟨g1, g2, g3⟩ := go_Qw hnow k (hpok k (by omega))
    refine ⟨fun _ => ?_, ?_⟩
    · show sp_go (sp_choose (sp_pc σm k).1 k) k (sp_chosen (sp_pc σm k).1 k) = _
      rw [key.1, key.2, g1]
    · show (if sp_who (sp_choose (sp_pc σm k).1 k) k (sp_chosen (sp_pc σm k).1 k) = sp_before (sp_put (sp_choose (sp_pc σm k).1 k) k (sp_chosen (sp_pc σm k).1 k)) k then (sp_pc σm k).2 else (sp_pc σm k).2 + 1) = nsw σ k + (if whoc σ k = sp_before σ k then 0 else 1)
      rw [key.1, key.2, g2, g3, i2]
      split <;> rfl
