theorem nthd_next (p : Nat → Nat) (t : Nat) : ∀ d k m q, nthd p t d k m = q + 1 → p q = t ∧ k ≤ q ∧ q < k + d ∧ nthd p t d k (m + 1) = nxd p t (k + d - (q + 1)) (q + 1) := by
  intro d
  induction d with
  | zero =>
    intro k m q h
    exact absurd h.symm (by show q + 1 ≠ 0; omega)
  | succ d ih =>
    intro k m q h
    unfold nthd at h
    by_cases hk : p k = t
    · rw [if_pos hk] at h
      by_cases hm : m = 0
      · rw [if_pos hm] at h
        have : q = k := by omega
        subst this
        refine ⟨hk, Nat.le_refl _, by omega, ?_⟩
        unfold nthd
        rw [if_pos hk, if_neg (by omega), hm, show q + (d + 1) - (q + 1) = d by omega]
        clear ih h
        show nthd p t d (q + 1) 0 = nxd p t d (q + 1)
        generalize q + 1 = k
        clear hk
        induction d generalizing k with
        | zero => rfl
        | succ d ih2 =>
          unfold nthd nxd
          split
          · rw [if_pos rfl]
          · exact ih2 (k + 1)
      · rw [if_neg hm] at h
        obtain ⟨h1, h2, h3, h4⟩ := ih _ _ _ h
        refine ⟨h1, by omega, by omega, ?_⟩
        unfold nthd
        rw [if_pos hk, if_neg (by omega), show m + 1 - 1 = m - 1 + 1 by omega, h4, show k + 1 + d - (q + 1) = k + (d + 1) - (q + 1) by omega]
    · rw [if_neg hk] at h
      obtain ⟨h1, h2, h3, h4⟩ := ih _ _ _ h
      refine ⟨h1, by omega, by omega, ?_⟩
      unfold nthd
      rw [if_neg hk, h4, show k + 1 + d - (q + 1) = k + (d + 1) - (q + 1) by omega]
theorem nthd_0 (p : Nat → Nat) (t : Nat) : ∀ d k, nthd p t d k 0 = nxd p t d k := by
  intro d
  induction d with
  | zero => exact fun _ => rfl
  | succ d ih =>
    intro k
    unfold nthd nxd
    split
    · rw [if_pos rfl]
    · exact ih (k + 1)
theorem pq_next {p : Nat → Nat} {n t m q : Nat} (h : pq p n t m = q + 1) : pq p n t (m + 1) = nx p n t (q + 1) ∧ p q = t ∧ q < n := by
  obtain ⟨h1, -, h3, h4⟩ := nthd_next p t n 0 m q h
  refine ⟨?_, h1, by omega⟩
  unfold pq nx
  rw [h4, Nat.zero_add]
theorem pq_0 (p : Nat → Nat) (n t : Nat) : pq p n t 0 = nx p n t 0 := nthd_0 p t n 0
theorem sp_nth_eq (σ : ss_S) (t : Nat) : ∀ d k m, (sp_nth σ t d k m = none ∧ nthd (σ 8) t d k m = 0) ∨ ∃ q, sp_nth σ t d k m = some q ∧ nthd (σ 8) t d k m = q + 1 := by
  intro d
  induction d with
  | zero => exact fun _ _ => Or.inl ⟨rfl, rfl⟩
  | succ d ih =>
    intro k m
    unfold sp_nth nthd
    split
    · split
      · exact Or.inr ⟨k, rfl, rfl⟩
      · exact ih _ _
    · exact ih _ _
theorem sp_next_eq (σ : ss_S) (t : Nat) : (sp_next σ t = none ∧ pq (σ 8) (σ 7 0) t (σ 14 t) = 0) ∨ ∃ q, sp_next σ t = some q ∧ pq (σ 8) (σ 7 0) t (σ 14 t) = q + 1 := sp_nth_eq σ t _ _ _
theorem lcn_le (o : Nat → Nat) (t : Nat) : ∀ n, lcn o t n ≤ n := by
  intro n
  induction n with
  | zero => exact Nat.le_refl 0
  | succ n ih =>
    unfold lcn
    split <;> omega
theorem lcn_0 (o : Nat → Nat) (t : Nat) : ∀ n, lcn o t n = 0 ↔ ∀ l, 1 ≤ l → l ≤ n → o l ≠ t := by
  intro n
  induction n with
  | zero => exact ⟨fun _ l h1 h2 => by omega, fun _ => rfl⟩
  | succ n ih =>
    unfold lcn
    split
    · rename_i h
      exact ⟨fun q => by omega, fun q => absurd h (q (n + 1) (by omega) (by omega))⟩
    · rename_i h
      rw [ih]
      refine ⟨fun q l h1 h2 => ?_, fun q l h1 h2 => q l h1 (by omega)⟩
      by_cases e : l = n + 1
      · rw [e]
        exact h
      · exact q l h1 (by omega)
theorem lcn_eq {o o' : Nat → Nat} {t : Nat} : ∀ n, (∀ l, 1 ≤ l → l ≤ n → (o' l = t ↔ o l = t)) → lcn o' t n = lcn o t n := by
  intro n
  induction n with
  | zero => exact fun _ => rfl
  | succ n ih =>
    intro h
    unfold lcn
    rw [ih (fun l h1 h2 => h l h1 (by omega))]
    by_cases e : o (n + 1) = t
    · rw [if_pos e, if_pos ((h (n + 1) (by omega) (by omega)).mpr e)]
    · rw [if_neg e, if_neg (fun z => e ((h (n + 1) (by omega) (by omega)).mp z))]
theorem lcn_in {o o' : Nat → Nat} {t l0 : Nat} (h1 : 1 ≤ l0) (ho : o l0 ≠ t) (ho' : o' l0 = t) : ∀ n, l0 ≤ n → (∀ l, l ≠ l0 → o' l = o l) → lcn o' t n = lcn o t n + 1 := by
  intro n
  induction n with
  | zero => exact fun h => by omega
  | succ n ih =>
    intro hl h
    unfold lcn
    by_cases e : l0 = n + 1
    · subst e
      rw [if_pos ho', if_neg ho, lcn_eq n (fun l g1 g2 => by rw [h l (by omega)])]
    · rw [ih (by omega) h, h (n + 1) (Ne.symm e)]
      split <;> rfl
theorem sp_fst_spec (σ : ss_S) (l : Nat) : ∀ n, (sp_fst σ l n = 0 ∧ ∀ t, 1 ≤ t → t ≤ n → σ 26 t ≠ l) ∨ ((1 ≤ sp_fst σ l n ∧ sp_fst σ l n ≤ n) ∧ σ 26 (sp_fst σ l n) = l ∧ ∀ t, 1 ≤ t → t ≤ n → σ 26 t = l → σ 27 (sp_fst σ l n) ≤ σ 27 t) := by
  intro n
  induction n with
  | zero => exact Or.inl ⟨rfl, fun t h1 h2 => by omega⟩
  | succ n ih =>
    unfold sp_fst
    split
    · rename_i h
      refine Or.inr ⟨by omega, h.1, fun t h1 h2 h3 => ?_⟩
      by_cases e : t = n + 1
      · rw [e]
        exact Nat.le_refl _
      · rcases ih with q | q
        · exact absurd h3 (q.2 t h1 (by omega))
        · have := q.2.2 t h1 (by omega) h3
          rcases h.2 with z | z
          · omega
          · omega
    · rename_i h
      rcases ih with q | q
      · refine Or.inl ⟨q.1, fun t h1 h2 h3 => ?_⟩
        by_cases e : t = n + 1
        · subst e
          exact h ⟨h3, Or.inl q.1⟩
        · exact q.2 t h1 (by omega) h3
      · refine Or.inr ⟨by omega, q.2.1, fun t h1 h2 h3 => ?_⟩
        by_cases e : t = n + 1
        · subst e
          apply Decidable.byContradiction
          intro z
          exact h ⟨h3, Or.inr (by omega)⟩
        · exact q.2.2 t h1 (by omega) h3
theorem sp_fst_head {σ : ss_S} {l n : Nat} {L : List Nat} (hm : ∀ t, t ∈ L ↔ (1 ≤ t ∧ t ≤ n) ∧ σ 26 t = l) (hp : L.Pairwise (fun a b => σ 27 a < σ 27 b)) : sp_fst σ l n = L.headD 0 := by
  rcases sp_fst_spec σ l n with q | q
  · cases L with
    | nil => exact q.1
    | cons s L =>
      have := (hm s).mp (List.mem_cons_self ..)
      exact absurd this.2 (q.2 s this.1.1 this.1.2)
  · cases L with
    | nil =>
      have := (hm _).mpr ⟨q.1, q.2.1⟩
      cases this
    | cons s L =>
      have h1 := (hm s).mp (List.mem_cons_self ..)
      have h2 := (hm _).mpr ⟨q.1, q.2.1⟩
      have h3 := q.2.2 s h1.1.1 h1.1.2 h1.2
      rcases List.mem_cons.mp h2 with e | e
      · exact e
      · have := (List.pairwise_cons.mp hp).1 _ e
        omega
theorem ch_congr {f f' : Nat → Nat} : ∀ (L : List Nat) (v : Nat), (∀ x ∈ L, f' x = f x) → ch f v L → ch f' v L := by
  intro L
  induction L with
  | nil => exact fun v _ h => h
  | cons x L ih =>
    intro v h hc
    refine ⟨hc.1, ?_⟩
    rw [h x (List.mem_cons_self ..)]
    exact ih _ (fun y hy => h y (List.mem_cons_of_mem _ hy)) hc.2
theorem sp_hr_iff (σ : ss_S) (t : Nat) : ∀ n, sp_hr σ t n ≠ 0 ↔ ∃ r, 1 ≤ r ∧ r ≤ n ∧ σ 22 r = t := by
  intro n
  induction n with
  | zero => exact ⟨fun h => absurd rfl h, fun ⟨r, h1, h2, _⟩ => by omega⟩
  | succ n ih =>
    unfold sp_hr
    by_cases h : sp_hr σ t n ≠ 0 ∨ σ 22 (n + 1) = t
    · rw [if_pos h]
      refine ⟨fun _ => ?_, fun _ => by decide⟩
      rcases h with h | h
      · obtain ⟨r, h1, h2, h3⟩ := ih.mp h
        exact ⟨r, h1, by omega, h3⟩
      · exact ⟨n + 1, by omega, by omega, h⟩
    · rw [if_neg h]
      refine ⟨fun z => absurd rfl z, fun ⟨r, h1, h2, h3⟩ => ?_⟩
      exfalso
      by_cases e : r = n + 1
      · subst e
        exact h (Or.inr h3)
      · exact h (Or.inl (ih.mpr ⟨r, h1, by omega, h3⟩))
theorem sp_hl_iff (σ : ss_S) (t : Nat) : ∀ n, sp_hl σ t n ≠ 0 ↔ sp_hr σ t 32 ≠ 0 ∨ ∃ l, 1 ≤ l ∧ l ≤ n ∧ σ 25 l = t := by
  intro n
  induction n with
  | zero => exact ⟨fun h => Or.inl h, fun h => h.elim id (fun ⟨r, h1, h2, _⟩ => by omega)⟩
  | succ n ih =>
    unfold sp_hl
    by_cases h : sp_hl σ t n ≠ 0 ∨ σ 25 (n + 1) = t
    · rw [if_pos h]
      refine ⟨fun _ => ?_, fun _ => by decide⟩
      rcases h with h | h
      · rcases ih.mp h with h | ⟨r, h1, h2, h3⟩
        · exact Or.inl h
        · exact Or.inr ⟨r, h1, by omega, h3⟩
      · exact Or.inr ⟨n + 1, by omega, by omega, h⟩
    · rw [if_neg h]
      refine ⟨fun z => absurd rfl z, fun z => ?_⟩
      exfalso
      rcases z with z | ⟨r, h1, h2, h3⟩
      · exact h (Or.inl (ih.mpr (Or.inl z)))
      · by_cases e : r = n + 1
        · subst e
          exact h (Or.inr h3)
        · exact h (Or.inl (ih.mpr (Or.inr ⟨r, h1, by omega, h3⟩)))
theorem sp_holds_iff (σ : ss_S) (t : Nat) : sp_holds σ t ≠ 0 ↔ (∃ r, 1 ≤ r ∧ r ≤ 32 ∧ σ 22 r = t) ∨ ∃ l, 1 ≤ l ∧ l ≤ 16 ∧ σ 25 l = t := by
  unfold sp_holds
  rw [sp_hl_iff, sp_hr_iff]
/-- a field replaced -/
def ss_r (σ : ss_S) (f : Nat) (g : Nat → Nat) : ss_S := fun h j => if h = f then g j else σ h j
theorem sp_frR_22 (σ : ss_S) (t : Nat) : ∀ n r, sp_frR σ t n 22 r = if (1 ≤ r ∧ r ≤ n) ∧ σ 22 r = t then 0 else σ 22 r := by
  intro n
  induction n with
  | zero =>
    intro r
    rw [if_neg (fun z => by omega)]
    rfl
  | succ n ih =>
    intro r
    unfold sp_frR
    rw [ss_ue, ih, ih]
    by_cases hj : r = n + 1
    · subst hj
      have e : (if (1 ≤ n + 1 ∧ n + 1 ≤ n) ∧ σ 22 (n + 1) = t then 0 else σ 22 (n + 1)) = σ 22 (n + 1) := if_neg (fun z => by omega)
      rw [if_pos rfl, e]
      by_cases hs : σ 22 (n + 1) = t
      · rw [if_pos hs, if_pos ⟨by omega, hs⟩]
      · rw [if_neg hs, if_neg (fun z => hs z.2)]
    · rw [if_neg hj]
      by_cases hs : (1 ≤ r ∧ r ≤ n) ∧ σ 22 r = t
      · rw [if_pos hs, if_pos ⟨by omega, hs.2⟩]
      · rw [if_neg hs, if_neg (fun z => hs ⟨by omega, z.2⟩)]
theorem sp_frR_g (σ : ss_S) (t g j : Nat) (h : g ≠ 22) : ∀ n, sp_frR σ t n g j = σ g j := by
  intro n
  induction n with
  | zero => rfl
  | succ n ih =>
    unfold sp_frR
    rw [ss_uf _ _ _ _ h, ih]
theorem sp_frR_eq (σ : ss_S) (t n : Nat) : sp_frR σ t n = ss_r σ 22 (fun r => if (1 ≤ r ∧ r ≤ n) ∧ σ 22 r = t then 0 else σ 22 r) := by
  funext f j
  unfold ss_r
  by_cases hf : f = 22
  · rw [if_pos hf, hf]
    exact sp_frR_22 σ t n j
  · rw [if_neg hf]
    exact sp_frR_g σ t f j hf n
