/-! Pure: the steps of a microsecond come to an end -/
def sm (f : Nat → Nat) : Nat → Nat
  | 0 => 0
  | n + 1 => sm f n + f (n + 1)
theorem sm_le {f g : Nat → Nat} (h : ∀ t, f t ≤ g t) : ∀ n, sm f n ≤ sm g n := by
  intro n
  induction n with
  | zero => exact Nat.le_refl _
  | succ n ih => exact Nat.add_le_add ih (h _)
theorem sm_lt {f g : Nat → Nat} (h : ∀ t, f t ≤ g t) {t : Nat} (ht : f t < g t) (h1 : 1 ≤ t) : ∀ n, t ≤ n → sm f n < sm g n := by
  intro n
  induction n with
  | zero => exact fun z => by omega
  | succ n ih =>
    intro hn
    show sm f n + f (n + 1) < sm g n + g (n + 1)
    by_cases e : t = n + 1
    · have := sm_le h n
      rw [e] at ht
      omega
    · have := ih (by omega)
      have := h (n + 1)
      omega
theorem sm_add (f g : Nat → Nat) : ∀ n, sm (fun t => f t + g t) n = sm f n + sm g n := by
  intro n
  induction n with
  | zero => rfl
  | succ n ih =>
    show sm (fun t => f t + g t) n + (f (n + 1) + g (n + 1)) = sm f n + f (n + 1) + (sm g n + g (n + 1))
    omega
theorem sm_ind (p : Nat) : ∀ n, sm (fun t => if p = t then 1 else 0) n ≤ 1 ∧ (n < p → sm (fun t => if p = t then 1 else 0) n = 0) := by
  intro n
  induction n with
  | zero => exact ⟨Nat.zero_le _, fun _ => rfl⟩
  | succ n ih =>
    have e : sm (fun t => if p = t then 1 else 0) (n + 1) = sm (fun t => if p = t then 1 else 0) n + (if p = n + 1 then 1 else 0) := rfl
    rw [e]
    by_cases z : p = n + 1
    · rw [if_pos z]
      have := ih.2 (by omega)
      omega
    · rw [if_neg z]
      have := ih.1
      refine ⟨by omega, fun y => ?_⟩
      have := ih.2 (by omega)
      omega
theorem sm_pnc (σ : ss_S) (T : Nat) : ∀ d k, sm (fun t => pnc σ t d k) T ≤ d := by
  intro d
  induction d with
  | zero =>
    intro k
    have : ∀ T, sm (fun t => pnc σ t 0 k) T = 0 := by
      intro T
      induction T with
      | zero => rfl
      | succ T ih =>
        show sm (fun t => pnc σ t 0 k) T + 0 = 0
        omega
    rw [this]
    exact Nat.le_refl _
  | succ d ih =>
    intro k
    have e : (fun t => pnc σ t (d + 1) k) = fun t => pnc σ t d (k + 1) + (if σ 8 k = t then 1 else 0) := by
      funext t
      show (if σ 8 k = t then pnc σ t d (k + 1) + 1 else pnc σ t d (k + 1)) = _
      split <;> rfl
    rw [e, sm_add]
    have := ih (k + 1)
    have := (sm_ind (σ 8 k) T).1
    omega
def ms (σ : ss_S) : Nat := sm (wt σ) (σ 1 0)
theorem wt_le (σ : ss_S) (t : Nat) : wt σ t ≤ pn σ t + 1 := by
  unfold wt
  split
  · omega
  · split
    · split
      · omega
      · omega
    · omega
theorem ms_le {σ : ss_S} (hV : sp_V σ) : ms σ ≤ 600 := by
  have h1 := sm_le (wt_le σ) (σ 1 0)
  have h2 := sm_add (pn σ) (fun _ => 1) (σ 1 0)
  have h3 : sm (pn σ) (σ 1 0) ≤ σ 7 0 := sm_pnc σ (σ 1 0) (σ 7 0) 0
  have h4 : ∀ T, sm (fun _ => 1) T = T := by
    intro T
    induction T with
    | zero => rfl
    | succ T ih =>
      show sm (fun _ => 1) T + 1 = T + 1
      rw [ih]
  rw [h4] at h2
  have := hV.1
  have := hV.2.2.1
  unfold ms
  have h5 : sm (fun t => pn σ t + 1) (σ 1 0) = sm (pn σ) (σ 1 0) + σ 1 0 := h2
  omega
def FA (b0 C n : Nat) (τ : ss_S) : Prop := ms τ ≤ n ∧ n ≤ 700 ∧ iv τ ∧ sf τ ∧ τ 0 0 = C ∧ sp_Bd (b0 + 25 * (700 - n)) τ
theorem FA.step {b0 C n : Nat} {τ : ss_S} (hb : 2 ^ 24 ≤ b0) (h : FA b0 C n τ) (k : Nat) : ((sp_step τ k).2 = 0 → FA b0 C n (sp_step τ k).1) ∧ ((sp_step τ k).2 ≠ 0 → 1 ≤ n ∧ FA b0 C (n - 1) (sp_step τ k).1) := by
  obtain ⟨h1, h2, h3, h4, h5, h6⟩ := h
  obtain ⟨⟨m1, m2⟩, m3, m4⟩ := mv.step h4 h3 k
  have sgf : ∀ f j, sg f → (sp_step τ k).1 f j = τ f j := fun f j hf => sp_step_f τ k f j hf
  have hs := h4.cg sgf m1.1
  have e0 : (sp_step τ k).1 0 0 = C := (sgf 0 0 (by decide)).trans h5
  have e1 : (sp_step τ k).1 1 0 = τ 1 0 := sgf 1 0 (by decide)
  have m5 := m4 _ (by omega) h6
  refine ⟨fun z => ⟨?_, h2, m1, hs, e0, ?_⟩, fun z => ?_⟩
  · unfold ms at h1 ⊢
    rw [e1]
    exact Nat.le_trans (sm_le m2 _) h1
  · rw [if_pos z] at m5
    exact m5
  · rw [if_neg z] at m5
    obtain ⟨t, v, w⟩ := m3 z
    have := sm_lt m2 w v.1 _ v.2
    have hl : ms (sp_step τ k).1 < ms τ := by
      unfold ms
      rw [e1]
      exact this
    refine ⟨by omega, by omega, by omega, m1, hs, e0, m5.mono (by omega)⟩
theorem FA.fam {b0 C : Nat} (hb : 2 ^ 24 ≤ b0) (hb2 : b0 + 17600 ≤ 2 ^ 31) : sp_Fam C (FA b0 C) := by
  refine ⟨fun n τ h => ⟨h.2.2.2.2.1, _, h.2.2.2.2.2, by omega, by omega, h.2.2.2.1.1⟩, fun n τ c h _ z => (FA.step hb h c).1 z, fun n τ c h _ z => ?_⟩
  obtain ⟨a, b⟩ := (FA.step hb h c).2 z
  exact ⟨n - 1, by omega, b⟩
theorem FA.pU (b0 C : Nat) : pU (FA b0 C) := fun n τ h => ⟨h.2.2.1.2.1, h.2.2.2.1.2.1, h.2.2.2.1.2.2.1⟩
theorem mv.al (σ : ss_S) : ∀ k, mv σ (sp_al σ k) := by
  intro k
  induction k with
  | zero => exact mv.refl σ
  | succ k ih =>
    unfold sp_al
    split
    · exact ih.trans (mv.begin _ _)
    · exact ih
theorem sp_choose_nz (σ : ss_S) (k t : Nat) (h : σ 11 t ≠ 0) : sp_choose σ k 11 t ≠ 0 := by
  rcases sp_choose_cases σ k with ⟨a1, -⟩ | ⟨-, -, a2, -⟩ | ⟨b, a1, a2, a3, a4, a5, a6, a7, a8⟩
  · rw [a1]
    exact h
  · rw [a2, ss_uf _ _ _ _ (by decide)]
    exact h
  · rw [a8, ss_ue]
    split
    · decide
    · split
      · exact h
      · rw [ss_ue]
        split
        · decide
        · rw [ss_uf _ _ _ _ (by decide)]
          exact h
/-- what a microsecond finds -/
def TS (b : Nat) (σ : ss_S) : Prop := sp_Bd b σ ∧ sf σ ∧ iv σ ∧ (∀ k, k < σ 35 0 → σ 38 k ≤ 10000) ∧ ∀ t, σ 20 t ≤ σ 43 0
abbrev sh (f : Nat) : Prop := f < 11 ∨ f = 24 ∨ (32 ≤ f ∧ f ≤ 36)
theorem sf.cg2 {σ τ : ss_S} (h : sf σ) (hs : ∀ f j, sh f → τ f j = σ f j) (h17 : ∀ i, τ 17 i < 65536) (h43 : τ 43 0 ≤ 50000) : sf τ := by
  have h' : sf (fun f j => if sh f ∨ f = 17 then τ f j else σ f j) := h.cg (fun f j hf => by
    by_cases e : sh f
    · show (if sh f ∨ f = 17 then τ f j else σ f j) = σ f j
      rw [if_pos (Or.inl e)]
      exact hs f j e
    · exact if_neg (by omega)) h17
  obtain ⟨⟨a1, a2, a3, a4, a5, a6, a7, a8, a9, a10⟩, h2, h3, h4⟩ := h'
  exact ⟨⟨a1, a2, a3, a4, a5, a6, a7, a8, a9, h43⟩, h2, h3, h4⟩
theorem TS.go {b : Nat} {σ : ss_S} (h : TS b σ) (hb : 2 ^ 24 ≤ b) (hb2 : b + 20000 ≤ 2 ^ 31) (hnow : σ 43 0 < 50000) : MS σ ∧ TS (b + 20000) (sp_micro σ).1 ∧ (sp_micro σ).1 43 0 = σ 43 0 + 1 := by
  obtain ⟨h1, h2, h3, h4, h5⟩ := h
  have hV := h2.1
  have a1 := mv.al σ (σ 32 0) h3
  have a2 : sf (sp_al σ (σ 32 0)) := h2.cg (fun f j hf => sp_al_f _ _ _ (by omega) _) a1.1.1
  have a3 : sp_Bd (b + 500) (sp_al σ (σ 32 0)) := (h1.al (by omega) hV _ (Nat.le_refl _)).mono (by have := hV.2.2.2.1; omega)
  have a4 : FA (b + 500) (σ 0 0) 700 (sp_al σ (σ 32 0)) := ⟨Nat.le_trans (ms_le a2.1) (by decide), Nat.le_refl _, a1.1, a2, sp_al_f _ _ _ (by decide) _, a3.mono (by omega)⟩
  have hF : sp_Fam (σ 0 0) (FA (b + 500) (σ 0 0)) := FA.fam (by omega) (by omega)
  obtain ⟨n', q1, q2, q3, q4, q5, q6, q7⟩ := hF.rounds (F := 2000) 2000 700 _ a4 (by omega) (by omega)
  have q8 : sp_Bd (b + 18000) (sp_rounds 2000 (σ 0 0) 2000 (sp_al σ (σ 32 0))) := q7.mono (by omega)
  have nf : ∀ f j, (f ≠ 31 ∧ f ≠ 39 ∧ f ≠ 40 ∧ f ≠ 41 ∧ f ≠ 42) → sp_mid σ f j = sp_rounds 2000 (σ 0 0) 2000 (sp_al σ (σ 32 0)) f j := fun f j hf => sp_nine_f _ _ _ hf
  have m29 : sp_mid σ 29 0 ≠ 0 → (sp_mid σ 31 0 = 0 ∧ sp_mid σ 43 0 < sp_mid σ 30 0) ∨ (sp_mid σ 31 0 ≠ 0 ∧ sp_mid σ 30 0 ≤ sp_mid σ 43 0) := by
    rw [nf 29 0 (by decide), nf 30 0 (by decide), nf 43 0 (by decide)]
    show _ → (sp_nine _ 31 0 = 0 ∧ _) ∨ (sp_nine _ 31 0 ≠ 0 ∧ _)
    intro z
    have i := q4.2.2.1 z
    unfold sp_nine
    split
    · rename_i y
      rw [ss_us]
      exact Or.inr ⟨by decide, y.2.2⟩
    · rename_i y
      rcases i with i | i
      · refine Or.inl ⟨i.1, ?_⟩
        have : ¬ (sp_rounds 2000 (σ 0 0) 2000 (sp_al σ (σ 32 0)) 30 0 ≤ sp_rounds 2000 (σ 0 0) 2000 (sp_al σ (σ 32 0)) 43 0) := fun w => y ⟨z, i.1, w⟩
        omega
      · exact Or.inr ⟨i.1, Nat.le_of_lt i.2⟩
  have mB : sp_Bd (b + 18001) (sp_mid σ) := by
    show sp_Bd (b + 18001) (sp_nine _)
    unfold sp_nine
    split
    · exact (q8.tell (by omega) (q8 29 0)).u 31 0 (by omega)
    · exact q8.mono (by omega)
  have mS : sf (sp_mid σ) := q5.cg2 (fun f j hf => nf f j (by omega)) (fun i => by rw [nf 17 i (by decide)]; exact q4.1 i) (by rw [nf 43 0 (by decide)]; exact q5.1.2.2.2.2.2.2.2.2.2)
  have q4' := q4
  obtain ⟨i1, i2, i3, i4, i5⟩ := q4'
  have hMS : MS σ := by
    refine ⟨b, FA (b + 500) (σ 0 0), 700, ⟨h1, hb, by omega⟩, hV, hF, FA.pU _ _, by decide, a4, hnow, q4.2.2.1, h4, fun t _ => ?_, h5, b + 18001, mB, by omega, by omega, mS.1⟩
    rw [nf 16 t (by decide), nf 14 t (by decide)]
    exact i4 t
  refine ⟨hMS, ?_⟩
  have hC := hV.2.1
  obtain ⟨c1, c2, c3, c4⟩ := hMS.ch
  have hm := (hMS.micro hC.1).1
  have cf : ∀ f j, (f ≠ 11 ∧ f ≠ 19) → ch1 σ f j = sp_mid σ f j := fun f j hf => sp_choose_f _ _ _ _ hf
  have c16 : ∀ t, ch1 σ 16 t ≠ 0 → ch1 σ 14 t = 0 := fun t => by
    rw [cf 16 t (by decide), cf 14 t (by decide), nf 16 t (by decide), nf 14 t (by decide)]
    exact i4 t
  have c26 : ∀ t, ch1 σ 26 t ≠ 0 → ch1 σ 16 t = 0 ∧ ch1 σ 11 t ≠ 0 := fun t => by
    rw [cf 16 t (by decide), cf 26 t (by decide), nf 16 t (by decide), nf 26 t (by decide)]
    exact fun z => ⟨(i5 t z).1, sp_choose_nz _ _ _ (by rw [nf 11 t (by decide)]; exact (i5 t z).2)⟩
  have c20 : ∀ t, ch1 σ 20 t ≤ ch1 σ 43 0 := fun t => by
    rw [cf 20 t (by decide), cf 43 0 (by decide), sp_mid_f _ _ _ (by decide), sp_mid_f _ _ _ (by decide)]
    exact h5 t
  have c43 : ch1 σ 43 0 = σ 43 0 := by
    rw [cf 43 0 (by decide), sp_mid_f _ _ _ (by decide)]
  have bp : sp_Bd (b + 20000) (sp_micro σ).1 := by
    have u := (mB.pc (by omega) mS.1 (σ 0 0)).mono (b' := b + 18100) (by omega)
    have v := u 43 0
    exact (u.mono (by omega)).u 43 0 (by omega)
  rw [hm] at bp
  rw [hm]
  have e43 : Qs (ch1 σ) 1 (σ 0 0) 43 0 = σ 43 0 + 1 := by rw [Qs_43, c43]
  have e17 : ∀ i, Qs (ch1 σ) 1 (σ 0 0) 17 i < 65536 := fun i => by
    rw [Qs_o _ _ _ _ _ (by decide), cf 17 i (by decide), nf 17 i (by decide)]
    exact i1 i
  have eu : uq (Qs (ch1 σ) 1 (σ 0 0)) := c3.cg (Qs_o (ch1 σ) 1 (σ 0 0) 1 0 (by decide)) (fun j => Qs_o (ch1 σ) 1 (σ 0 0) 3 j (by decide)) (fun j => Qs_o (ch1 σ) 1 (σ 0 0) 11 j (by decide)) (fun j => Qs_o (ch1 σ) 1 (σ 0 0) 19 j (by decide))
  refine ⟨⟨bp, mS.cg2 (fun f j hf => ?_) e17 (by show Qs (ch1 σ) 1 (σ 0 0) 43 0 ≤ 50000; omega), ⟨e17, eu, ?_, fun t => ?_, fun t => ?_⟩, fun k hk => ?_, fun t => ?_⟩, e43⟩
  · show Qs (ch1 σ) 1 (σ 0 0) f j = _
    rw [Qs_o _ _ _ _ _ (by omega)]
    exact cf f j (by omega)
  · unfold i9
    show Qs (ch1 σ) 1 (σ 0 0) 29 0 ≠ 0 → (Qs (ch1 σ) 1 (σ 0 0) 31 0 = 0 ∧ Qs (ch1 σ) 1 (σ 0 0) 43 0 ≤ Qs (ch1 σ) 1 (σ 0 0) 30 0) ∨ (Qs (ch1 σ) 1 (σ 0 0) 31 0 ≠ 0 ∧ Qs (ch1 σ) 1 (σ 0 0) 30 0 < Qs (ch1 σ) 1 (σ 0 0) 43 0)
    rw [Qs_o _ _ _ 29 _ (by decide), Qs_o _ _ _ 30 _ (by decide), Qs_o _ _ _ 31 _ (by decide), Qs_43, cf 29 0 (by decide), cf 30 0 (by decide), cf 31 0 (by decide), cf 43 0 (by decide)]
    intro z
    rcases m29 z with y | y
    · exact Or.inl ⟨y.1, y.2⟩
    · exact Or.inr ⟨y.1, Nat.lt_succ_of_le y.2⟩
  · show Qs (ch1 σ) 1 (σ 0 0) 16 t ≠ 0 → Qs (ch1 σ) 1 (σ 0 0) 14 t = 0
    rw [Qs_t _ _ _ 16 _ (by decide), Qs_t _ _ _ 14 _ (by decide)]
    split
    · rw [spq_16]
      intro z
      by_cases y : ch1 σ 26 t = 0
      · rw [if_pos y] at z
        exact absurd rfl z
      · rw [if_neg y] at z
        exact absurd (c26 t y).1 z
    · exact c16 t
  · show Qs (ch1 σ) 1 (σ 0 0) 26 t ≠ 0 → Qs (ch1 σ) 1 (σ 0 0) 16 t = 0 ∧ Qs (ch1 σ) 1 (σ 0 0) 11 t ≠ 0
    rw [Qs_o _ _ _ 26 _ (by decide), Qs_o _ _ _ 11 _ (by decide), Qs_t _ _ _ 16 _ (by decide)]
    intro z
    refine ⟨?_, (c26 t z).2⟩
    split
    · rw [spq_16, if_neg z]
      exact (c26 t z).1
    · exact (c26 t z).1
  · show Qs (ch1 σ) 1 (σ 0 0) 38 k ≤ 10000
    have hk' : k < σ 35 0 := by
      have e : Qs (ch1 σ) 1 (σ 0 0) 35 0 = σ 35 0 := by rw [Qs_o _ _ _ _ _ (by decide), cf 35 0 (by decide), sp_mid_f _ _ _ (by decide)]
      rw [← e]
      exact hk
    have e38 : ch1 σ 38 k ≤ 10000 := by
      rw [cf 38 k (by decide), sp_mid_f _ _ _ (by decide)]
      exact h4 k hk'
    rw [Qs_38]
    split
    · omega
    · exact e38
  · show Qs (ch1 σ) 1 (σ 0 0) 20 t ≤ Qs (ch1 σ) 1 (σ 0 0) 43 0
    rw [Qs_t _ _ _ 20 _ (by decide), Qs_43]
    have := c20 t
    split
    · rw [spq_20]
      omega
    · omega
