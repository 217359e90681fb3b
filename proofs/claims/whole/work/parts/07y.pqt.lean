theorem Qs_o (σ : ss_S) (q k f i : Nat) (h : f ≠ 14 ∧ f ≠ 15 ∧ f ≠ 16 ∧ f ≠ 20 ∧ f ≠ 38 ∧ f ≠ 43 ∧ f ≠ 44) : Qs σ q k f i = σ f i := by
  unfold Qs
  rw [ss_uf _ _ _ _ h.2.2.2.2.2.1, Qw_o _ _ _ _ _ (by omega)]
theorem Qs_43 (σ : ss_S) (q k : Nat) : Qs σ q k 43 0 = σ 43 0 + q := ss_us _ _ _ _
theorem Qs_38 (σ : ss_S) (q k i : Nat) : Qs σ q k 38 i = if sp_atHand σ = i + 1 ∧ 0 < k then σ 38 i - q else σ 38 i := by
  unfold Qs
  rw [ss_uf _ _ _ _ (by decide), Qw_38]
theorem Qs_44 (σ : ss_S) (q k i : Nat) : Qs σ q k 44 i = if i / 50000 < k ∧ σ 43 0 ≤ i % 50000 ∧ i % 50000 < σ 43 0 + q then whoc σ (i / 50000) else σ 44 i := by
  unfold Qs
  rw [ss_uf _ _ _ _ (by decide), Qw_44]
theorem Qs_t (σ : ss_S) (q k f i : Nat) (h : f = 14 ∨ f = 15 ∨ f = 16 ∨ f = 20) : Qs σ q k f i = if pk σ k i then spq σ i q f i else σ f i := by
  unfold Qs
  rw [ss_uf _ _ _ _ (by omega), Qw_t _ _ _ _ _ h]
theorem agc_Qs (σ : ss_S) (q k k' : Nat) : agc k' (Qs σ q k) σ := ⟨fun f j h => Qs_o σ q k f j (by omega), fun j _ => ⟨Qs_o σ q k 11 j (by decide), Qs_o σ q k 19 j (by decide)⟩⟩
/-- n microseconds from now on are alike -/
def quiet (σ : ss_S) (C n : Nat) : Prop :=
  (∀ i, pk σ C i → σ 26 i ≠ 0 ∨ (σ 16 i ≠ 0 ∧ n ≤ 1) ∨ (σ 26 i = 0 ∧ σ 16 i = 0 ∧ n ≤ lft σ i ∧ ∃ k, sp_next σ i = some k ∧ σ 9 k = 0)) ∧ (sp_atHand σ ≠ 0 → n ≤ σ 38 (sp_atHand σ - 1)) ∧ (∀ k, k < σ 35 0 → 0 < σ 38 k → σ 43 0 < σ 37 k → σ 43 0 + n ≤ σ 37 k) ∧
  (∀ k, k < σ 32 0 → σ 43 0 < σ 34 k → σ 43 0 + n ≤ σ 34 k) ∧ (σ 29 0 ≠ 0 → σ 31 0 ≠ 0 ∨ σ 43 0 + n ≤ σ 30 0) ∧ σ 43 0 + n ≤ 50000
theorem quiet.mono {σ : ss_S} {C n m : Nat} (h : quiet σ C n) (hm : m ≤ n) : quiet σ C m := by
  obtain ⟨h1, h2, h3, h4, h5, h6⟩ := h
  refine ⟨fun i hi => ?_, fun z => Nat.le_trans hm (h2 z), fun k a b c => Nat.le_trans (by omega) (h3 k a b c), fun k a b => Nat.le_trans (by omega) (h4 k a b), fun z => (h5 z).imp id (fun y => by omega), by omega⟩
  rcases h1 i hi with y | y | ⟨y1, y2, y3, y4⟩
  · exact Or.inl y
  · exact Or.inr (Or.inl ⟨y.1, by omega⟩)
  · exact Or.inr (Or.inr ⟨y1, y2, by omega, y4⟩)
theorem sp_hand_cg2 {σ τ : ss_S} (N : Nat) (h36 : ∀ j, τ 36 j = σ 36 j) (hc : ∀ k, k < N → (hq τ k ↔ hq σ k)) : ∀ n, n ≤ N → sp_hand τ n = sp_hand σ n := by
  intro n
  induction n with
  | zero => exact fun _ => rfl
  | succ n ih =>
    intro hn
    have h1 := hc n (by omega)
    unfold sp_hand
    rw [ih (by omega), h36, h36]
    by_cases z : hq σ n
    · have z' := h1.mpr z
      unfold hq at z z'
      by_cases y : sp_hand σ n = 0 ∨ σ 36 (sp_hand σ n - 1) < σ 36 n
      · rw [if_pos ⟨by rw [h36] at z'; exact z', y⟩, if_pos ⟨z, y⟩]
      · rw [if_neg (fun x => y x.2), if_neg (fun x => y x.2)]
    · have z' : ¬ hq τ n := fun x => z (h1.mp x)
      unfold hq at z z'
      rw [h36] at z'
      rw [if_neg (fun x => z' x.1), if_neg (fun x => z x.1)]
theorem Qs_hand {σ : ss_S} {C q : Nat} (hC : 0 < C) (hq' : quiet σ C (q + 1)) : sp_atHand (Qs σ q C) = sp_atHand σ := by
  unfold sp_atHand
  rw [Qs_o σ q C 35 0 (by decide)]
  refine sp_hand_cg2 (σ 35 0) (fun j => Qs_o σ q C 36 j (by decide)) (fun k hk => ?_) _ (Nat.le_refl _)
  unfold hq
  rw [Qs_43, Qs_o σ q C 37 k (by decide), Qs_o σ q C 36 k (by decide), Qs_o σ q C 29 0 (by decide), Qs_38]
  have h3 := hq'.2.2.1 k hk
  by_cases z : sp_atHand σ = k + 1
  · have h2 := hq'.2.1 (by omega)
    rw [z, Nat.add_sub_cancel] at h2
    rw [if_pos ⟨z, hC⟩]
    constructor
    · rintro ⟨a, b, c⟩
      refine ⟨?_, by omega, c⟩
      apply Decidable.byContradiction
      intro y
      have := h3 (by omega) (by omega)
      omega
    · rintro ⟨a, b, c⟩
      exact ⟨by omega, by omega, c⟩
  · rw [if_neg (fun y => z y.1)]
    constructor
    · rintro ⟨a, b, c⟩
      refine ⟨?_, b, c⟩
      apply Decidable.byContradiction
      intro y
      have := h3 (by omega) (by omega)
      omega
    · rintro ⟨a, b, c⟩
      exact ⟨by omega, b, c⟩
theorem stl_of {τ : ss_S} {k : Nat} (hc : sp_choose τ k = τ) (h : itr τ k ∨ sp_running τ k = 0 ∨ τ 16 (sp_running τ k) ≠ 0 ∨ τ 26 (sp_running τ k) ≠ 0 ∨ ∃ q, sp_next τ (sp_running τ k) = some q ∧ τ 9 q = 0) : stl τ k := by
  unfold stl sp_step
  by_cases z : k = 0 ∧ sp_atHand τ ≠ 0
  · rw [if_pos z]
  · rw [if_neg z, hc, chosen_run hc]
    exact sp_step1_of (h.resolve_left z)
/-- in a quiet stretch -/
theorem quiet_in {σ : ss_S} {C q : Nat} (hC : 0 < C) (h0 : σ 0 0 = C) (hq1 : 1 ≤ q) (hch : ∀ k, k < C → sp_choose σ k = σ) (hq' : quiet σ C (q + 1)) :
    sp_al (Qs σ q C) (Qs σ q C 32 0) = Qs σ q C ∧ sp_mid (Qs σ q C) = Qs σ q C ∧ (∀ k, k < C → stl (Qs σ q C) k) ∧ (∀ k, k < C → sp_choose (Qs σ q C) k = Qs σ q C ∧ sp_running (Qs σ q C) k = sp_running σ k) ∧ (∀ k, k < C → ¬ itr (Qs σ q C) k → sp_running (Qs σ q C) k ≠ 0 → sp_pok (Qs σ q C) (sp_running (Qs σ q C) k)) := by
  have hh := Qs_hand hC hq'
  have hcr : ∀ k, k < C → sp_choose (Qs σ q C) k = Qs σ q C ∧ sp_running (Qs σ q C) k = sp_running σ k := fun k hk => ⟨(agc_Qs σ q C k).choose (hch k hk), (agc_Qs σ q C k).run.1⟩
  have hnx : ∀ i, pk σ C i → σ 26 i = 0 → sp_next (Qs σ q C) i = sp_next σ i ∧ Qs σ q C 16 i = 0 ∧ ∃ k, sp_next σ i = some k ∧ σ 9 k = 0 := fun i hi h26 => by
    rcases hq'.1 i hi with y | y | ⟨y1, y2, y3, y4⟩
    · exact absurd h26 y
    · omega
    · have e14 : Qs σ q C 14 i = σ 14 i := by
        rw [Qs_t _ _ _ _ _ (by decide), if_pos hi, spq_14, if_neg (fun z => by omega)]
      refine ⟨sp_next_cg i (fun j => Qs_o σ q C 8 j (by decide)) (Qs_o σ q C 7 0 (by decide)) e14, ?_, y4⟩
      rw [Qs_t _ _ _ _ _ (by decide), if_pos hi, spq_16, if_pos h26]
  have hst : ∀ k, k < C → stl (Qs σ q C) k := fun k hk => by
    refine stl_of (hcr k hk).1 ?_
    rw [(hcr k hk).2]
    by_cases z : itr σ k
    · exact Or.inl ⟨z.1, by rw [hh]; exact z.2⟩
    · by_cases y : sp_running σ k = 0
      · exact Or.inr (Or.inl y)
      · have hpk : pk σ C (sp_running σ k) := by
          have hr := (sp_running_spec σ k).resolve_left (fun z => y z.1)
          exact ⟨by omega, y, by rw [hr.2.1], by rw [hr.2.1]; exact z⟩
        by_cases x : σ 26 (sp_running σ k) = 0
        · obtain ⟨g1, g2, k', g3, g4⟩ := hnx _ hpk x
          exact Or.inr (Or.inr (Or.inr (Or.inr ⟨k', by rw [g1]; exact g3, by rw [Qs_o σ q C 9 k' (by decide)]; exact g4⟩)))
        · exact Or.inr (Or.inr (Or.inr (Or.inl (by rw [Qs_o σ q C 26 _ (by decide)]; exact x))))
  have hal : sp_al (Qs σ q C) (Qs σ q C 32 0) = Qs σ q C := by
    have := sp_al_skip (Qs σ q C) 0 (Qs σ q C 32 0) (fun k _ hk h => ?_)
    · rw [Nat.zero_add] at this
      exact this
    · rw [Nat.zero_add, Qs_o σ q C 32 0 (by decide)] at hk
      rw [Qs_43, Qs_o σ q C 34 k (by decide)] at h
      have := hq'.2.2.2.1 k hk (by omega)
      omega
  refine ⟨hal, ?_, hst, hcr, fun k hk hi hr => ?_⟩
  · unfold sp_mid
    rw [hal, Qs_o σ q C 0 0 (by decide), h0, stl_rounds hst 1999]
    unfold sp_nine
    rw [if_neg]
    rw [Qs_o σ q C 29 0 (by decide), Qs_o σ q C 31 0 (by decide), Qs_o σ q C 30 0 (by decide), Qs_43]
    rintro ⟨a, b, c⟩
    rcases hq'.2.2.2.2.1 a with y | y
    · exact y b
    · omega
  · rw [(hcr k hk).2] at hr ⊢
    have hi' : ¬ itr σ k := fun z => hi ⟨z.1, by rw [hh]; exact z.2⟩
    have hpk : pk σ C (sp_running σ k) := by
      have hr := (sp_running_spec σ k).resolve_left (fun z => hr z.1)
      exact ⟨by omega, by omega, by rw [hr.2.1], by rw [hr.2.1]; exact hi'⟩
    unfold sp_pok
    by_cases x : σ 26 (sp_running σ k) = 0
    · obtain ⟨g1, g2, k', g3, g4⟩ := hnx _ hpk x
      exact Or.inr (Or.inr (Or.inr (by rw [g1, g3]; exact fun z => (by cases z))))
    · exact Or.inl (by rw [Qs_o σ q C 26 _ (by decide)]; exact x)
theorem uq.cg {σ τ : ss_S} (h : uq σ) (h1 : τ 1 0 = σ 1 0) (h3 : ∀ j, τ 3 j = σ 3 j) (h11 : ∀ j, τ 11 j = σ 11 j) (h19 : ∀ j, τ 19 j = σ 19 j) : uq τ := by
  unfold uq at h ⊢
  rw [h1]
  refine ⟨fun t t' => ?_, fun t => ?_⟩
  · rw [h3, h3, h11, h11]
    exact h.1 t t'
  · rw [h11, h19]
    exact h.2 t
theorem quiet_step {σ : ss_S} {C q : Nat} (hC : 0 < C) (h0 : σ 0 0 = C) (hq1 : 1 ≤ q) (hu : uq σ) (hch : ∀ k, k < C → sp_choose σ k = σ) (hq' : quiet σ C (q + 1)) : sp_micro (Qs σ q C) = (Qs σ (q + 1) C, 0) := by
  obtain ⟨-, i1, i2, i3, i4⟩ := quiet_in hC h0 hq1 hch hq'
  have hh := Qs_hand hC hq'
  have hn := hq'.2.2.2.2.2
  have hu' : uq (Qs σ q C) := hu.cg (Qs_o σ q C 1 0 (by decide)) (fun j => Qs_o σ q C 3 j (by decide)) (fun j => Qs_o σ q C 11 j (by decide)) (fun j => Qs_o σ q C 19 j (by decide))
  obtain ⟨p1, p2⟩ := pc_Qw hu' (i3 0 hC).1 (fun k hk => (i3 k hk).1) (by rw [Qs_43]; omega) i4 C (Nat.le_refl _)
  have p1 := p1 (by omega)
  have hwho : ∀ k, k < C → whoc (Qs σ q C) k = whoc σ k := fun k hk => by
    unfold whoc
    by_cases z : itr σ k
    · rw [if_pos z, if_pos (show itr (Qs σ q C) k from ⟨z.1, by rw [hh]; exact z.2⟩), hh, Qs_o σ q C 36 _ (by decide)]
    · rw [if_neg z, if_neg (show ¬ itr (Qs σ q C) k from fun y => z ⟨y.1, by rw [← hh]; exact y.2⟩), (i3 k hk).2]
  have hns : ∀ k, k ≤ C → nsw (Qs σ q C) k = 0 := by
    intro k
    induction k with
    | zero => exact fun _ => rfl
    | succ k ih =>
      intro hk
      unfold nsw
      rw [ih (by omega), hwho k (by omega)]
      have : sp_before (Qs σ q C) k = whoc σ k := by
        unfold sp_before
        have e1 : (50000 * k + (σ 43 0 + q) - 1) / 50000 = k := by omega
        have e2 : (50000 * k + (σ 43 0 + q) - 1) % 50000 = σ 43 0 + q - 1 := by omega
        rw [Qs_43, if_neg (by omega), Qs_44, e1, e2, if_pos ⟨by omega, by omega, by omega⟩]
      rw [this, if_pos rfl]
  unfold sp_micro
  rw [i1, Qs_o σ q C 0 0 (by decide), h0, p1, p2, hns C (Nat.le_refl _)]
  refine Prod.ext ?_ rfl
  show ss_u (Qw (Qs σ q C) 1 C) 43 0 (Qw (Qs σ q C) 1 C 43 0 + 1) = Qs σ (q + 1) C
  rw [Qw_o _ _ _ _ _ (by decide), Qs_43]
  have hpk : ∀ i, pk (Qs σ q C) C i ↔ pk σ C i := fun i => by
    have e3 : Qs σ q C 3 i = σ 3 i := Qs_o σ q C 3 i (by decide)
    unfold pk itr
    rw [e3, hh]
    constructor
    · rintro ⟨a, b, c, d⟩
      exact ⟨a, b, by rw [← (i3 _ a).2]; exact c, d⟩
    · rintro ⟨a, b, c, d⟩
      exact ⟨a, b, by rw [(i3 _ a).2]; exact c, d⟩
  funext f i
  by_cases h43 : f = 43
  · subst h43
    by_cases hi : i = 0
    · subst hi
      rw [ss_us, Qs_43]
      omega
    · unfold Qs
      rw [ss_ui _ _ _ _ hi, ss_ui _ _ _ _ hi, Qw_o _ _ _ _ _ (by decide), Qw_o _ _ _ _ _ (by decide), ss_ui _ _ _ _ hi, Qw_o _ _ _ _ _ (by decide)]
  rw [ss_uf _ _ _ _ h43]
  by_cases h44 : f = 44
  · subst h44
    rw [Qw_44, Qs_44, Qs_44, Qs_43]
    by_cases z : i / 50000 < C
    · rw [hwho _ z]
      by_cases x : σ 43 0 + q ≤ i % 50000 ∧ i % 50000 < σ 43 0 + q + 1
      · rw [if_pos ⟨z, x⟩, if_pos ⟨z, by omega, by omega⟩]
      · rw [if_neg (fun w => x w.2)]
        by_cases y : σ 43 0 ≤ i % 50000 ∧ i % 50000 < σ 43 0 + q
        · rw [if_pos ⟨z, y⟩, if_pos ⟨z, by omega, by omega⟩]
        · rw [if_neg (fun w => y w.2), if_neg (fun w => by omega)]
    · rw [if_neg (fun x => z x.1), if_neg (fun x => z x.1), if_neg (fun x => z x.1)]
  by_cases h38 : f = 38
  · subst h38
    rw [Qw_38, Qs_38, Qs_38, hh]
    by_cases z : sp_atHand σ = i + 1 ∧ 0 < C
    · rw [if_pos z, if_pos z, if_pos z]
      omega
    · rw [if_neg z, if_neg z, if_neg z]
  by_cases ht : f = 14 ∨ f = 15 ∨ f = 16 ∨ f = 20
  · rw [Qw_t _ _ _ _ _ ht, Qs_t σ (q + 1) C f i ht]
    by_cases z : pk σ C i
    · rw [if_pos z, if_pos ((hpk i).mpr z)]
      have e26 : Qs σ q C 26 i = σ 26 i := Qs_o σ q C 26 i (by decide)
      have e16 : Qs σ q C 16 i = if σ 26 i = 0 then 0 else σ 16 i := by rw [Qs_t _ _ _ _ _ (by decide), if_pos z, spq_16]
      have e20 : Qs σ q C 20 i = σ 20 i + q := by rw [Qs_t _ _ _ _ _ (by decide), if_pos z, spq_20]
      have e14 : Qs σ q C 14 i = if σ 26 i = 0 ∧ σ 16 i = 0 ∧ lft σ i ≤ q then σ 14 i + 1 else σ 14 i := by rw [Qs_t _ _ _ _ _ (by decide), if_pos z, spq_14]
      have e15 : Qs σ q C 15 i = if σ 26 i = 0 then (if σ 16 i = 0 then (if lft σ i ≤ q then 0 else lft σ i - q + 1) else 0) else σ 15 i := by rw [Qs_t _ _ _ _ _ (by decide), if_pos z, spq_15]
      by_cases h26 : σ 26 i = 0
      · obtain ⟨y1, y2, y3, y4⟩ : σ 26 i = 0 ∧ σ 16 i = 0 ∧ q + 1 ≤ lft σ i ∧ ∃ k, sp_next σ i = some k ∧ σ 9 k = 0 := by
          rcases hq'.1 i z with y | y | y
          · exact absurd h26 y
          · omega
          · exact y
        rw [if_pos h26] at e16 e15
        rw [if_pos y2, if_neg (by omega)] at e15
        rw [if_neg (by omega)] at e14
        have el : lft (Qs σ q C) i = lft σ i - q := by
          conv => lhs; unfold lft
          rw [e15, if_pos (by omega)]
          omega
        rcases ht with x | x | x | x
        · rw [x, spq_14, spq_14, el, e26, e16, e14]
          by_cases w : lft σ i ≤ q + 1
          · rw [if_pos ⟨h26, rfl, by omega⟩, if_pos ⟨h26, y2, w⟩]
          · rw [if_neg (by omega), if_neg (by omega)]
        · rw [x, spq_15, spq_15, el, e26, e16, if_pos h26, if_pos rfl, if_pos h26, if_pos y2]
          by_cases w : lft σ i ≤ q + 1
          · rw [if_pos (by omega), if_pos w]
          · rw [if_neg (by omega), if_neg w]
            omega
        · rw [x, spq_16, spq_16, e26, if_pos h26, if_pos h26]
        · rw [x, spq_20, spq_20, e20]
          omega
      · rw [if_neg h26] at e16 e15
        rw [if_neg (fun x => h26 x.1)] at e14
        rcases ht with x | x | x | x
        · rw [x, spq_14, spq_14, e26, if_neg (fun x => h26 x.1), if_neg (fun x => h26 x.1), e14]
        · rw [x, spq_15, spq_15, e26, if_neg h26, if_neg h26, e15]
        · rw [x, spq_16, spq_16, e26, if_neg h26, if_neg h26, e16]
        · rw [x, spq_20, spq_20, e20]
          omega
    · rw [if_neg z, if_neg (fun y => z ((hpk i).mp y)), Qs_t _ _ _ _ _ ht, if_neg z]
  · rw [Qw_o _ _ _ _ _ (by omega), Qs_o _ _ _ _ _ (by omega), Qs_o _ _ _ _ _ (by omega)]
