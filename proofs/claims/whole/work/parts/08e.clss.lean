/-- the same but for the logs of SWITCHES -/
def ov (d dd : cc_S) : Prop := ∀ K p i, ¬ (K = 1 ∧ p = 5) → ¬ (K = 5 ∧ p = 2 ∧ i ≠ 0) → ¬ (K = 20 ∧ p ≠ 0) → d K p i = dd K p i
def ovl (d dd : cc_S) : cc_S := fun K p i => if K = 1 then (if p = 5 then d 1 5 i else dd K p i) else if K = 5 then (if p = 2 then (if i = 0 then dd 5 2 0 else d 5 2 i) else dd K p i) else if K = 20 then (if p = 0 then dd 20 0 i else d 20 p i) else dd K p i
theorem ov.eq {d dd : cc_S} (h : ov d dd) : d = ovl d dd := by
  funext K p i
  unfold ovl
  by_cases h1 : K = 1
  · rw [if_pos h1]
    by_cases h2 : p = 5
    · rw [if_pos h2, h1, h2]
    · rw [if_neg h2]
      exact h K p i (by omega) (by omega) (by omega)
  · rw [if_neg h1]
    by_cases h2 : K = 5
    · rw [if_pos h2]
      by_cases h3 : p = 2
      · rw [if_pos h3]
        by_cases h4 : i = 0
        · rw [if_pos h4, h2, h3, h4]
          exact h 5 2 0 (by omega) (by omega) (by omega)
        · rw [if_neg h4, h2, h3]
      · rw [if_neg h3]
        exact h K p i (by omega) (by omega) (by omega)
    · rw [if_neg h2]
      by_cases h3 : K = 20
      · rw [if_pos h3]
        by_cases h4 : p = 0
        · rw [if_pos h4, h3, h4]
          exact h 20 0 i (by omega) (by omega) (by omega)
        · rw [if_neg h4, h3]
      · rw [if_neg h3]
        exact h K p i (by omega) (by omega) (by omega)
theorem ov.u {d dd : cc_S} (h : ov d dd) (K p i v : Nat) : ov (cc_u d K p i v) (cc_u dd K p i v) := by
  intro K' p' i' h1 h2 h3
  unfold cc_u
  rw [h K' p' i' h1 h2 h3]
theorem ov.w {d dd : cc_S} (h : ov d dd) (i v : Nat) : ov (cc_u d 1 5 i v) dd := by
  intro K' p' i' h1 h2 h3
  rw [← h K' p' i' h1 h2 h3]
  unfold cc_u
  by_cases z : K' = 1
  · rw [if_pos z, if_neg (fun y => h1 ⟨z, y⟩)]
  · rw [if_neg z]
theorem ov.a {d dd : cc_S} (h : ov d dd) (j x : Nat) (hj : j ≠ 0) : ov (lg_add d j x) dd := by
  intro K' p' i' h1 h2 h3
  rw [← h K' p' i' h1 h2 h3]
  by_cases z : K' = 5
  · rw [z]
    exact lg_add5 j x p' i' (by omega)
  · by_cases y : K' = 20
    · rw [y, lg_add20, if_neg (by omega)]
    · exact lg_addK j x K' p' i' ⟨z, y⟩
theorem ov.sp {d dd : cc_S} (h : ov d dd) (t q : Nat) : ov (cs_spend d t q) (cs_spend dd t q) := by
  have e : ∀ K p i, (K = 8 ∨ K = 6) → d K p i = dd K p i := fun K p i hK => h K p i (by omega) (by omega) (by omega)
  unfold cs_spend
  rw [e 8 7 t (by decide), e 8 14 t (by decide), e 8 8 t (by decide), e 6 0 _ (by decide), e 6 1 _ (by decide), e 6 2 _ (by decide)]
  split
  · exact ov.u h _ _ _ _
  · split
    · exact ov.u (ov.u h _ _ _ _) _ _ _ _
    · exact ov.u (ov.u (ov.u (ov.u h _ _ _ _) _ _ _ _) _ _ _ _) _ _ _ _
theorem ov.sv {d dd : cc_S} (h : ov d dd) (f s j q : Nat) : ov (cs_sv f s d j q) (cs_sv f s dd j q) := by
  have e : ∀ K p i, (K = 2 ∨ K = 3) → d K p i = dd K p i := fun K p i hK => h K p i (by omega) (by omega) (by omega)
  unfold cs_sv
  rw [e 2 2 j (by decide), e 2 3 j (by decide)]
  split
  · exact ov.u h _ _ _ _
  · split
    · exact ov.u (ov.u h _ _ _ _) _ _ _ _
    · exact ov.u (ov.u h _ _ _ _) _ _ _ _
theorem cs_spend_o (c : cc_S) (t q K p i : Nat) (h : K ≠ 8) : cs_spend c t q K p i = c K p i := by
  unfold cs_spend
  split
  · exact cc_uk _ _ _ _ _ _ h
  · split
    · rw [cc_uk _ _ _ _ _ _ h, cc_uk _ _ _ _ _ _ h]
    · rw [cc_uk _ _ _ _ _ _ h, cc_uk _ _ _ _ _ _ h, cc_uk _ _ _ _ _ _ h, cc_uk _ _ _ _ _ _ h]
theorem cs_sv_o (f s : Nat) (c : cc_S) (j q K p i : Nat) (h : K ≠ 2 ∧ K ≠ 3) : cs_sv f s c j q K p i = c K p i := by
  unfold cs_sv
  split
  · exact cc_uk _ _ _ _ _ _ h.1
  · split
    · rw [cc_uk _ _ _ _ _ _ h.2, cc_uk _ _ _ _ _ _ h.1]
    · rw [cc_uk _ _ _ _ _ _ h.1, cc_uk _ _ _ _ _ _ h.1]
theorem r16.add {B : cl_B} {c : cc_S} (h : r16 B c) (j x : Nat) (hl : cL B 5 j) : r16 B (lg_add c j x) := by
  unfold lg_add
  refine r16.u ?_ 5 2 j _ (Or.inl hl)
  split
  · exact h.u 20 j _ _ (Or.inr (by decide))
  · exact h
theorem r16.sp {B : cl_B} {c : cc_S} (h : r16 B c) (t q : Nat) (hl : cL B 8 t) : r16 B (cs_spend c t q) := by
  unfold cs_spend
  split
  · exact h.u 8 14 t _ (Or.inl hl)
  · split
    · exact (h.u 8 14 t _ (Or.inl hl)).u 8 8 t _ (Or.inl hl)
    · exact (((h.u 8 14 t _ (Or.inl hl)).u 8 8 t _ (Or.inl hl)).u 8 7 t _ (Or.inl hl)).u 8 8 t _ (Or.inl hl)
/-- the logs behind the first k cores' SWITCHES -/
def LG (σ : ss_S) (c d : cc_S) (k : Nat) : Prop :=
  d 5 2 1 = c 5 2 1 + nsw σ k ∧ (∀ j, j < σ 0 0 → d 5 2 (j + 2) = c 5 2 (j + 2) + (if j < k ∧ whoc σ j ≠ sp_before σ j then 1 else 0)) ∧ (∀ j, j < σ 0 0 → d 1 5 j = if j < k then whoc σ j else sp_before σ j) ∧ (∀ i, i < c 5 2 1 → d 20 1 i = c 20 1 i) ∧ (∀ j, j < k → whoc σ j ≠ sp_before σ j → d 20 1 (c 5 2 1 + nsw σ j) = σ 43 0 * 2 ^ 40 + j * 2 ^ 20 + whoc σ j) ∧
  (∀ j, j < σ 0 0 → ∀ i, i < c 5 2 (j + 2) → d 20 (j + 2) i = c 20 (j + 2) i) ∧ (∀ j, j < k → whoc σ j ≠ sp_before σ j → d 20 (j + 2) (c 5 2 (j + 2)) = σ 43 0 * 2 ^ 40 + whoc σ j * 2 ^ 20) ∧ ∀ j, d 5 1 j = c 5 1 j
theorem LG.cg {σ : ss_S} {c d d' : cc_S} {k : Nat} (h : LG σ c d k) (h5 : ∀ p i, d' 5 p i = d 5 p i) (h1 : ∀ i, d' 1 5 i = d 1 5 i) (h20 : ∀ j i, d' 20 j i = d 20 j i) : LG σ c d' k := by
  obtain ⟨a1, a2, a3, a4, a5, a6, a7, a8⟩ := h
  exact ⟨(h5 2 1).trans a1, fun j hj => (h5 2 _).trans (a2 j hj), fun j hj => (h1 j).trans (a3 j hj), fun i hi => (h20 1 i).trans (a4 i hi), fun j hj hw => (h20 1 _).trans (a5 j hj hw), fun j hj i hi => (h20 _ i).trans (a6 j hj i hi), fun j hj hw => (h20 _ _).trans (a7 j hj hw), fun j => (h5 1 j).trans (a8 j)⟩
theorem LG.same {σ : ss_S} {c d : cc_S} {k : Nat} (h : LG σ c d k) (hw : whoc σ k = sp_before σ k) : LG σ c d (k + 1) := by
  obtain ⟨a1, a2, a3, a4, a5, a6, a7, a8⟩ := h
  refine ⟨?_, fun j hj => ?_, fun j hj => ?_, a4, fun j hj hw' => ?_, a6, fun j hj hw' => ?_, a8⟩
  · show _ = _ + (nsw σ k + _)
    rw [if_pos hw]
    exact a1
  · rw [a2 j hj]
    by_cases z : j = k
    · rw [if_neg (by omega), if_neg (fun y => y.2 (by rw [z]; exact hw))]
    · by_cases y : j < k ∧ whoc σ j ≠ sp_before σ j
      · rw [if_pos y, if_pos ⟨by omega, y.2⟩]
      · rw [if_neg y, if_neg (fun x => y ⟨by omega, x.2⟩)]
  · rw [a3 j hj]
    by_cases z : j = k
    · rw [if_neg (by omega), if_pos (by omega), z, hw]
    · by_cases y : j < k
      · rw [if_pos y, if_pos (by omega)]
      · rw [if_neg y, if_neg (by omega)]
  · exact a5 j (by
      have : j ≠ k := fun z => hw' (by rw [z]; exact hw)
      omega) hw'
  · exact a7 j (by
      have : j ≠ k := fun z => hw' (by rw [z]; exact hw)
      omega) hw'
theorem LG.note {σ : ss_S} {c d : cc_S} {k : Nat} (h : LG σ c d k) (hk : k < σ 0 0) (hw : whoc σ k ≠ sp_before σ k) (c1 : d 5 2 (k + 2) < d 5 1 (k + 2)) (c2 : d 5 2 1 < d 5 1 1) (X Y : Nat) (hX : σ 43 0 * 2 ^ 40 + whoc σ k * 2 ^ 20 = X) (hY : σ 43 0 * 2 ^ 40 + k * 2 ^ 20 + whoc σ k = Y) : LG σ c (lg_add (lg_add (cc_u d 1 5 k (whoc σ k)) (k + 2) X) 1 Y) (k + 1) := by
  obtain ⟨a1, a2, a3, a4, a5, a6, a7, a8⟩ := h
  have f5 : ∀ p i, cc_u d 1 5 k (whoc σ k) 5 p i = d 5 p i := fun p i => rfl
  have e1 : lg_add (cc_u d 1 5 k (whoc σ k)) (k + 2) X 5 2 1 = d 5 2 1 := by rw [lg_add5 _ _ _ _ (by omega)]; rfl
  have e2 : lg_add (cc_u d 1 5 k (whoc σ k)) (k + 2) X 5 1 1 = d 5 1 1 := by rw [lg_add5 _ _ _ _ (by omega)]; rfl
  have e20 : ∀ j i, lg_add (lg_add (cc_u d 1 5 k (whoc σ k)) (k + 2) X) 1 Y 20 j i = if j = 1 ∧ i = d 5 2 1 then Y else if j = k + 2 ∧ i = d 5 2 (k + 2) then X else d 20 j i := fun j i => by
    rw [lg_add20, lg_add20, e1, e2]
    show (if j = 1 ∧ i = d 5 2 1 ∧ d 5 2 1 < d 5 1 1 then Y else if j = k + 2 ∧ i = d 5 2 (k + 2) ∧ d 5 2 (k + 2) < d 5 1 (k + 2) then X else d 20 j i) = _
    by_cases z : j = 1 ∧ i = d 5 2 1
    · rw [if_pos z, if_pos ⟨z.1, z.2, c2⟩]
    · rw [if_neg z, if_neg (fun y => z ⟨y.1, y.2.1⟩)]
      by_cases y : j = k + 2 ∧ i = d 5 2 (k + 2)
      · rw [if_pos y, if_pos ⟨y.1, y.2, c1⟩]
      · rw [if_neg y, if_neg (fun x => y ⟨x.1, x.2.1⟩)]
  have e52 : ∀ j, lg_add (lg_add (cc_u d 1 5 k (whoc σ k)) (k + 2) X) 1 Y 5 2 (j + 2) = if j = k then d 5 2 (k + 2) + 1 else d 5 2 (j + 2) := fun j => by
    rw [lg_add5 _ _ _ _ (by omega)]
    by_cases z : j = k
    · rw [if_pos z, z, lg_addC]
      rfl
    · rw [if_neg z, lg_add5 _ _ _ _ (by omega)]
      rfl
  have b2 := a2 k hk
  rw [if_neg (by omega), Nat.add_zero] at b2
  refine ⟨?_, fun j hj => ?_, fun j hj => ?_, fun i hi => ?_, fun j hj hw' => ?_, fun j hj i hi => ?_, fun j hj hw' => ?_, fun j => ?_⟩
  · rw [lg_addC, e1, a1]
    show _ = _ + (nsw σ k + _)
    rw [if_neg hw]
    omega
  · rw [e52]
    by_cases z : j = k
    · rw [if_pos z, if_pos ⟨by omega, by rw [z]; exact hw⟩, z, b2]
    · rw [if_neg z, a2 j hj]
      by_cases y : j < k ∧ whoc σ j ≠ sp_before σ j
      · rw [if_pos y, if_pos ⟨by omega, y.2⟩]
      · rw [if_neg y, if_neg (fun x => y ⟨by omega, x.2⟩)]
  · rw [lg_addK _ _ _ _ _ (by decide), lg_addK _ _ _ _ _ (by decide), cc_ue]
    by_cases z : j = k
    · rw [if_pos z, if_pos (by omega), z]
    · rw [if_neg z, a3 j hj]
      by_cases y : j < k
      · rw [if_pos y, if_pos (by omega)]
      · rw [if_neg y, if_neg (by omega)]
  · rw [e20, if_neg (by omega), if_neg (by omega)]
    exact a4 i hi
  · rw [e20]
    by_cases z : j = k
    · rw [if_pos ⟨rfl, by rw [z]; exact a1.symm⟩, ← hY, z]
    · have m1 := nsw_mono σ (j + 1) k (by omega)
      have m2 : nsw σ (j + 1) = nsw σ j + 1 := by
        show nsw σ j + _ = _
        rw [if_neg hw']
      rw [if_neg (by omega), if_neg (by omega)]
      exact a5 j (by omega) hw'
  · rw [e20, if_neg (by omega)]
    by_cases z : j = k
    · rw [z] at hi
      rw [if_neg (fun y => by rw [b2] at y; omega)]
      exact a6 j hj i (by rw [z]; exact hi)
    · rw [if_neg (by omega)]
      exact a6 j hj i hi
  · rw [e20, if_neg (by omega)]
    by_cases z : j = k
    · rw [if_pos ⟨by omega, by rw [z]; omega⟩, ← hX, z]
    · rw [if_neg (by omega)]
      exact a7 j (by omega) hw'
  · rw [lg_add5 _ _ _ _ (by omega), lg_add5 _ _ _ _ (by omega)]
    exact a8 j
theorem Qt_spq {σ : ss_S} {q k t : Nat} (hr : sp_running σ k = t) (ht : t ≠ 0) (hi : ¬ itr σ k) : spq (Qt σ q k) t q = Qt σ q (k + 1) ∧ ∀ f i, (i = t ∨ (f ≠ 14 ∧ f ≠ 15 ∧ f ≠ 16 ∧ f ≠ 20)) → Qt σ q k f i = σ f i := by
  have h3k : σ 3 t = k := by
    have := (sp_running_spec σ k).resolve_left (fun z => ht (by rw [← hr]; exact z.1))
    rw [hr] at this
    exact this.2.1
  have hnp : ¬ pk σ k t := fun x => by
    have := x.1
    omega
  have hpk : pk σ (k + 1) t := (pk_s σ k _).mpr (Or.inr ⟨ht, hr, hi⟩)
  have ff : ∀ f i, (i = t ∨ (f ≠ 14 ∧ f ≠ 15 ∧ f ≠ 16 ∧ f ≠ 20)) → Qt σ q k f i = σ f i := fun f i h => by
    unfold Qt
    by_cases x : f = 14 ∨ f = 15 ∨ f = 16 ∨ f = 20
    · have hi' : i = t := by omega
      rw [if_pos x, hi', if_neg hnp]
    · rw [if_neg x]
  refine ⟨?_, ff⟩
  have el : lft (Qt σ q k) t = lft σ t := lft_cg (ff 15 t (Or.inl rfl)) (ff 7 0 (by omega)) (fun j => ff 8 j (by omega)) (ff 14 t (Or.inl rfl)) (fun j => ff 10 j (by omega))
  funext f i
  by_cases hx : i = t ∧ (f = 14 ∨ f = 15 ∨ f = 16 ∨ f = 20)
  · have : Qt σ q (k + 1) f i = spq σ t q f t := by
      unfold Qt
      rw [if_pos hx.2, hx.1, if_pos hpk]
    rw [this, hx.1]
    rcases hx.2 with x | x | x | x
    · rw [x, spq_14, spq_14, el, ff 26 t (Or.inl rfl), ff 16 t (Or.inl rfl), ff 14 t (Or.inl rfl)]
    · rw [x, spq_15, spq_15, el, ff 26 t (Or.inl rfl), ff 16 t (Or.inl rfl), ff 15 t (Or.inl rfl)]
    · rw [x, spq_16, spq_16, ff 26 t (Or.inl rfl), ff 16 t (Or.inl rfl)]
    · rw [x, spq_20, spq_20, ff 20 t (Or.inl rfl)]
  · rw [spq_o _ _ _ _ _ (by omega)]
    unfold Qt
    by_cases x : f = 14 ∨ f = 15 ∨ f = 16 ∨ f = 20
    · rw [if_pos x, if_pos x]
      have : pk σ (k + 1) i ↔ pk σ k i := by
        rw [pk_s]
        constructor
        · rintro (z | z)
          · exact z
          · exact absurd ⟨z.2.1.symm.trans hr, x⟩ hx
        · exact Or.inl
      by_cases y : pk σ k i
      · rw [if_pos y, if_pos (this.mpr y)]
      · rw [if_neg y, if_neg (fun w => y (this.mp w))]
    · rw [if_neg x, if_neg x]
theorem Qt_same {σ : ss_S} {q k : Nat} (h : sp_running σ k = 0 ∨ itr σ k) : Qt σ q (k + 1) = Qt σ q k := by
  funext f i
  unfold Qt
  have : pk σ (k + 1) i ↔ pk σ k i := by
    rw [pk_s]
    constructor
    · rintro (z | z)
      · exact z
      · rcases h with h | h
        · omega
        · exact absurd h z.2.2
    · exact Or.inl
  by_cases x : f = 14 ∨ f = 15 ∨ f = 16 ∨ f = 20
  · rw [if_pos x, if_pos x]
    by_cases y : pk σ k i
    · rw [if_pos y, if_pos (this.mpr y)]
    · rw [if_neg y, if_neg (fun w => y (this.mp w))]
  · rw [if_neg x, if_neg x]
theorem Qt_0 (σ : ss_S) (q : Nat) : Qt σ q 0 = σ := by
  funext f i
  unfold Qt
  split
  · rw [if_neg (fun z => absurd z.1 (Nat.not_lt_zero _))]
  · rfl
