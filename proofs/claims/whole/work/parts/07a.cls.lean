/-! The class's memory: kinds of objects 0 TaskCores 1 Core 2 Interrupt 3 Interrupts 4 Lock 5 Log 6 Part 7 Resource 8 Task 9 Telling 10 arrays of objects 11 arrays of blocks; c K p i: what place p of object i of kind K holds (a reference as the index and one) -/
abbrev cl_B : Type := (Nat → Prop) × (Nat → Nat → Nat) × (Nat → Nat → Prop) × (Nat → Nat → Nat)
def cZ (B : cl_B) (a : Nat) : Prop := B.1 a
def cD (B : cl_B) (K i : Nat) : Nat := B.2.1 K i
def cL (B : cl_B) (K i : Nat) : Prop := B.2.2.1 K i
def cN (B : cl_B) (K i : Nat) : Nat := B.2.2.2 K i
abbrev cc_S : Type := Nat → Nat → Nat → Nat
def cc_u (c : cc_S) (K p i v : Nat) : cc_S := fun K' p' i' => if K' = K then (if p' = p then (if i' = i then v else c K' p' i') else c K' p' i') else c K' p' i'
theorem cc_us (c : cc_S) (K p i v : Nat) : cc_u c K p i v K p i = v := by simp [cc_u]
theorem cc_ui (c : cc_S) (K p v : Nat) {i j : Nat} (h : j ≠ i) : cc_u c K p i v K p j = c K p j := by simp [cc_u, h]
theorem cc_ue (c : cc_S) (K p i v j : Nat) : cc_u c K p i v K p j = if j = i then v else c K p j := by simp [cc_u]
theorem cc_uk (c : cc_S) (p i v p' j : Nat) {K K' : Nat} (h : K' ≠ K) : cc_u c K p i v K' p' j = c K' p' j := by simp [cc_u, h]
theorem cc_up (c : cc_S) (K K' i v j : Nat) {p p' : Nat} (h : p' ≠ p) : cc_u c K p i v K' p' j = c K' p' j := by simp [cc_u, h]
def cl_ref (B : cl_B) (K : Nat) : Nat → Option Nat
  | 0 => none
  | v + 1 => some (cD B K v)
def cl_isI (K p : Nat) : Bool := (([[0, 0, 0, 0, 0, 0, 0, 0, 1, 1, 1, 1, 1, 0, 0, 0, 0, 0, 0, 0], [1, 0, 0, 0, 0, 1, 1, 0, 0, 0, 0, 0, 0, 0, 0, 0, 0, 0, 0, 0], [1, 1, 1, 0, 0, 0, 0, 0, 0, 0, 0, 0, 0, 0, 0, 0, 0, 0, 0, 0], [0, 1, 0, 1, 0, 0, 0, 0, 0, 0, 0, 0, 0, 0, 0, 0, 0, 0, 0, 0], [0, 0, 0, 0, 0, 0, 0, 0, 0, 0, 0, 0, 0, 0, 0, 0, 0, 0, 0, 0], [0, 1, 1, 0, 0, 0, 0, 0, 0, 0, 0, 0, 0, 0, 0, 0, 0, 0, 0, 0], [1, 1, 0, 0, 0, 0, 0, 0, 0, 0, 0, 0, 0, 0, 0, 0, 0, 0, 0, 0], [1, 0, 0, 0, 0, 0, 0, 0, 0, 0, 0, 0, 0, 0, 0, 0, 0, 0, 0, 0], [1, 1, 0, 1, 1, 1, 0, 0, 1, 1, 1, 1, 1, 1, 1, 0, 1, 0, 0, 0], [0, 1, 0, 0, 0, 0, 0, 0, 0, 0, 0, 0, 0, 0, 0, 0, 0, 0, 0, 0]] : List (List Nat)).getD K []).getD p 0 == 1
def cl_tk (K p : Nat) : Nat := (([[10, 10, 10, 10, 3, 5, 5, 9, 99, 99, 99, 99, 99, 99, 99, 99, 99, 99, 99, 99], [99, 5, 8, 8, 8, 99, 99, 99, 99, 99, 99, 99, 99, 99, 99, 99, 99, 99, 99, 99], [99, 99, 99, 2, 99, 99, 99, 99, 99, 99, 99, 99, 99, 99, 99, 99, 99, 99, 99, 99], [2, 99, 8, 99, 99, 99, 99, 99, 99, 99, 99, 99, 99, 99, 99, 99, 99, 99, 99, 99], [8, 8, 99, 99, 99, 99, 99, 99, 99, 99, 99, 99, 99, 99, 99, 99, 99, 99, 99, 99], [11, 99, 99, 99, 99, 99, 99, 99, 99, 99, 99, 99, 99, 99, 99, 99, 99, 99, 99, 99], [99, 99, 6, 99, 99, 99, 99, 99, 99, 99, 99, 99, 99, 99, 99, 99, 99, 99, 99, 99], [99, 8, 7, 99, 99, 99, 99, 99, 99, 99, 99, 99, 99, 99, 99, 99, 99, 99, 99, 99], [99, 99, 1, 99, 99, 99, 6, 6, 99, 99, 99, 99, 99, 99, 99, 7, 99, 8, 8, 99], [8, 99, 9, 99, 99, 99, 99, 99, 99, 99, 99, 99, 99, 99, 99, 99, 99, 99, 99, 99]] : List (List Nat)).getD K []).getD p 99
def cl_at (j : Nat) : Nat := if j = 0 then 8 else if j = 1 then 1 else if j = 2 then 7 else 4
def cl_tag (K i : Nat) : Nat := if K < 10 then K + 1 else if K = 10 then 1004 + i else 1008
def lg_m (c : cc_S) (j : Nat) : Nat := if c 5 2 j ≤ c 5 1 j then c 5 2 j else c 5 1 j
/-- the logs' blocks: made as far as rows are kept -/
def lg_R (B : cl_B) (c : cc_S) (μ : mj_MM) : Prop :=
  (∀ j, cL B 5 j → cL B 11 j ∧ c 5 0 j = j + 1 ∧ cN B 11 j = c 5 1 j / 512 + 1 ∧ (∀ i, lg_m c j ≤ i → c 20 j i = 0) ∧
    ∀ b, b < cN B 11 j → (mj_r μ (cD B 11 j) b = none ∧ lg_m c j ≤ b * 512) ∨ ∃ a, mj_r μ (cD B 11 j) b = some a ∧ mj_t μ a = 1001 ∧ mj_n μ a = 512 ∧ ¬ cZ B a ∧ b * 512 < lg_m c j ∧ ∀ i, i < 512 → mj_l μ a i = lN (c 20 j (b * 512 + i))) ∧
  ∀ j b j' b' a, cL B 5 j → cL B 5 j' → b < cN B 11 j → b' < cN B 11 j' → mj_r μ (cD B 11 j) b = some a → mj_r μ (cD B 11 j') b' = some a → j = j' ∧ b = b'
def cl_R (B : cl_B) (c : cc_S) (μ : mj_MM) : Prop :=
  (∀ K i, cL B K i → mj_t μ (cD B K i) = cl_tag K i) ∧ (∀ K i K' i', cL B K i → cL B K' i' → cD B K i = cD B K' i' → K = K' ∧ i = i') ∧ (∀ K i, cL B K i → 10 ≤ K → mj_n μ (cD B K i) = cN B K i ∧ cN B K i < 2 ^ 31) ∧
  (∀ K p i, cL B K i → cl_isI K p = true → mj_i μ (cD B K i) p = nI (c K p i)) ∧ (∀ K p i, cL B K i → cl_tk K p < 90 → mj_r μ (cD B K i) p = cl_ref B (cl_tk K p) (c K p i) ∧ (c K p i = 0 ∨ cL B (cl_tk K p) (c K p i - 1))) ∧
  (∀ j i, cL B 10 j → i < cN B 10 j → mj_r μ (cD B 10 j) i = cl_ref B (cl_at j) (c 10 j i) ∧ (c 10 j i = 0 ∨ cL B (cl_at j) (c 10 j i - 1))) ∧ lg_R B c μ ∧ (∀ K p i, K < 20 → c K p i < 2 ^ 31) ∧
  (∀ a, cZ B a → mj_t μ a ≠ 0 ∧ ∀ K i, cL B K i → a ≠ cD B K i) ∧ ∀ j, cL B 10 j → j < 4
/-- what belongs to others is as it was -/
def cl_F (B : cl_B) (μ μ' : mj_MM) : Prop := ∀ a, cZ B a → mj_t μ' a = mj_t μ a ∧ mj_n μ' a = mj_n μ a ∧ (∀ k, mj_i μ' a k = mj_i μ a k) ∧ (∀ k, mj_r μ' a k = mj_r μ a k) ∧ ∀ k, mj_l μ' a k = mj_l μ a k
def cl_Q (B : cl_B) (c : cc_S) (μ0 μ : mj_MM) : Prop := cl_R B c μ ∧ cl_F B μ0 μ
theorem cl_isI_lt {K p : Nat} (h : cl_isI K p = true) : K < 10 := by
  apply Decidable.byContradiction
  intro q
  unfold cl_isI at h
  rw [List.getD_eq_getElem?_getD (l := [[0, 0, 0, 0, 0, 0, 0, 0, 1, 1, 1, 1, 1, 0, 0, 0, 0, 0, 0, 0], [1, 0, 0, 0, 0, 1, 1, 0, 0, 0, 0, 0, 0, 0, 0, 0, 0, 0, 0, 0], [1, 1, 1, 0, 0, 0, 0, 0, 0, 0, 0, 0, 0, 0, 0, 0, 0, 0, 0, 0], [0, 1, 0, 1, 0, 0, 0, 0, 0, 0, 0, 0, 0, 0, 0, 0, 0, 0, 0, 0], [0, 0, 0, 0, 0, 0, 0, 0, 0, 0, 0, 0, 0, 0, 0, 0, 0, 0, 0, 0], [0, 1, 1, 0, 0, 0, 0, 0, 0, 0, 0, 0, 0, 0, 0, 0, 0, 0, 0, 0], [1, 1, 0, 0, 0, 0, 0, 0, 0, 0, 0, 0, 0, 0, 0, 0, 0, 0, 0, 0], [1, 0, 0, 0, 0, 0, 0, 0, 0, 0, 0, 0, 0, 0, 0, 0, 0, 0, 0, 0], [1, 1, 0, 1, 1, 1, 0, 0, 1, 1, 1, 1, 1, 1, 1, 0, 1, 0, 0, 0], [0, 1, 0, 0, 0, 0, 0, 0, 0, 0, 0, 0, 0, 0, 0, 0, 0, 0, 0, 0]]), List.getElem?_eq_none (by simpa using q)] at h
  simp at h
theorem cl_tk_lt {K p : Nat} (h : cl_tk K p < 90) : K < 10 := by
  apply Decidable.byContradiction
  intro q
  unfold cl_tk at h
  rw [List.getD_eq_getElem?_getD (l := [[10, 10, 10, 10, 3, 5, 5, 9, 99, 99, 99, 99, 99, 99, 99, 99, 99, 99, 99, 99], [99, 5, 8, 8, 8, 99, 99, 99, 99, 99, 99, 99, 99, 99, 99, 99, 99, 99, 99, 99], [99, 99, 99, 2, 99, 99, 99, 99, 99, 99, 99, 99, 99, 99, 99, 99, 99, 99, 99, 99], [2, 99, 8, 99, 99, 99, 99, 99, 99, 99, 99, 99, 99, 99, 99, 99, 99, 99, 99, 99], [8, 8, 99, 99, 99, 99, 99, 99, 99, 99, 99, 99, 99, 99, 99, 99, 99, 99, 99, 99], [11, 99, 99, 99, 99, 99, 99, 99, 99, 99, 99, 99, 99, 99, 99, 99, 99, 99, 99, 99], [99, 99, 6, 99, 99, 99, 99, 99, 99, 99, 99, 99, 99, 99, 99, 99, 99, 99, 99, 99], [99, 8, 7, 99, 99, 99, 99, 99, 99, 99, 99, 99, 99, 99, 99, 99, 99, 99, 99, 99], [99, 99, 1, 99, 99, 99, 6, 6, 99, 99, 99, 99, 99, 99, 99, 7, 99, 8, 8, 99], [8, 99, 9, 99, 99, 99, 99, 99, 99, 99, 99, 99, 99, 99, 99, 99, 99, 99, 99, 99]]), List.getElem?_eq_none (by simpa using q)] at h
  simp at h
section CL
variable {B : cl_B} {c : cc_S} {μ μ0 μ1 : mj_MM}
theorem cl_R.self (h : cl_R B c μ) : cl_Q B c μ μ := ⟨h, fun _ _ => ⟨rfl, rfl, fun _ => rfl, fun _ => rfl, fun _ => rfl⟩⟩
theorem cl_F.trans {μ2 : mj_MM} (h : cl_F B μ0 μ1) (h2 : cl_F B μ1 μ2) : cl_F B μ0 μ2 := fun a ha => ⟨(h2 a ha).1.trans (h a ha).1, (h2 a ha).2.1.trans (h a ha).2.1, fun k => ((h2 a ha).2.2.1 k).trans ((h a ha).2.2.1 k), fun k => ((h2 a ha).2.2.2.1 k).trans ((h a ha).2.2.2.1 k), fun k => ((h2 a ha).2.2.2.2 k).trans ((h a ha).2.2.2.2 k)⟩
theorem cl_Q.trans {c' : cc_S} {μ2 : mj_MM} (h : cl_Q B c μ0 μ1) (h2 : cl_Q B c' μ1 μ2) : cl_Q B c' μ0 μ2 := ⟨h2.1, h.2.trans h2.2⟩
theorem cl_Q.b (h : cl_Q B c μ0 μ) (K p i : Nat) (hK : K < 20) : c K p i < 2 ^ 31 := h.1.2.2.2.2.2.2.2.1 K p i hK
theorem cl_R.ne (h : cl_R B c μ) {K i K' i' : Nat} (h1 : cL B K i) (h2 : cL B K' i') (hk : K' ≠ K) : cD B K' i' ≠ cD B K i := fun e => hk (h.2.1 K' i' K i h2 h1 e).1
theorem cl_Q.pI (h : cl_Q B c μ0 μ) (K p i v : Nat) (hl : cL B K i) (hp : cl_isI K p = true ∧ K ≠ 5) (hv : v < 2 ^ 31) : cl_Q B (cc_u c K p i v) μ0 (mj_pI μ (cD B K i) p (nI v)) := by
  obtain ⟨⟨a1, a2, a3, a4, a5, a6, a7, a8, a9, a10⟩, f⟩ := h
  have hK := cl_isI_lt hp.1
  refine ⟨⟨a1, a2, a3, fun K' p' i' q1 q2 => ?_, fun K' p' i' q1 q2 => ?_, fun j i' q1 q2 => ?_, ?_, fun K' p' i' q => ?_, a9, a10⟩, fun a ha => ?_⟩
  · by_cases e : cD B K' i' = cD B K i
    · obtain ⟨rfl, rfl⟩ := a2 K' i' K i q1 hl e
      by_cases e2 : p' = p
      · subst e2
        rw [mj_sI, cc_us]
      · rw [cc_up _ _ _ _ _ _ e2, ← a4 K' p' i' q1 q2]
        exact mj_u_ne _ _ (fun q => e2 q.2)
    · rw [mj_ki e, a4 K' p' i' q1 q2]
      unfold cc_u
      split
      · split
        · split
          · rename_i g1 g2 g3
            exact absurd (by rw [g1, g3]) e
          · rfl
        · rfl
      · rfl
  · have e : cc_u c K p i v K' p' i' = c K' p' i' := by
      unfold cc_u
      split
      · split
        · rename_i g1 g2
          rw [g1, g2] at q2
          have : ∀ K, K < 10 → ∀ p, p < 20 → cl_isI K p = true → ¬ cl_tk K p < 90 := by decide
          have hp20 : p < 20 := by
            apply Decidable.byContradiction
            intro q
            have h1 := hp.1
            unfold cl_isI at h1
            have : ∀ K, K < 10 → (([[0, 0, 0, 0, 0, 0, 0, 0, 1, 1, 1, 1, 1, 0, 0, 0, 0, 0, 0, 0], [1, 0, 0, 0, 0, 1, 1, 0, 0, 0, 0, 0, 0, 0, 0, 0, 0, 0, 0, 0], [1, 1, 1, 0, 0, 0, 0, 0, 0, 0, 0, 0, 0, 0, 0, 0, 0, 0, 0, 0], [0, 1, 0, 1, 0, 0, 0, 0, 0, 0, 0, 0, 0, 0, 0, 0, 0, 0, 0, 0], [0, 0, 0, 0, 0, 0, 0, 0, 0, 0, 0, 0, 0, 0, 0, 0, 0, 0, 0, 0], [0, 1, 1, 0, 0, 0, 0, 0, 0, 0, 0, 0, 0, 0, 0, 0, 0, 0, 0, 0], [1, 1, 0, 0, 0, 0, 0, 0, 0, 0, 0, 0, 0, 0, 0, 0, 0, 0, 0, 0], [1, 0, 0, 0, 0, 0, 0, 0, 0, 0, 0, 0, 0, 0, 0, 0, 0, 0, 0, 0], [1, 1, 0, 1, 1, 1, 0, 0, 1, 1, 1, 1, 1, 1, 1, 0, 1, 0, 0, 0], [0, 1, 0, 0, 0, 0, 0, 0, 0, 0, 0, 0, 0, 0, 0, 0, 0, 0, 0, 0]] : List (List Nat)).getD K []).length = 20 := by decide
            rw [List.getD_eq_getElem?_getD (i := p), List.getElem?_eq_none (by rw [this K hK]; omega)] at h1
            simp at h1
          exact absurd q2 (this K hK p hp20 hp.1)
        · rfl
      · rfl
    rw [e]
    exact a5 K' p' i' q1 q2
  · rw [cc_uk _ _ _ _ _ _ (by omega)]
    exact a6 j i' q1 q2
  · have e : ∀ p' i', cc_u c K p i v 5 p' i' = c 5 p' i' := fun p' i' => cc_uk _ _ _ _ _ _ (Ne.symm hp.2)
    have e2 : ∀ p' i', cc_u c K p i v 20 p' i' = c 20 p' i' := fun p' i' => cc_uk _ _ _ _ _ _ (by omega)
    unfold lg_R lg_m at a7 ⊢
    simp only [e, e2]
    exact a7
  · unfold cc_u
    have := a8 K' p' i' q
    split
    · split
      · split
        · exact hv
        · exact this
      · exact this
    · exact this
  · obtain ⟨f1, f2, f3, f4, f5⟩ := f a ha
    exact ⟨f1, f2, fun k => (mj_ki ((a9 a ha).2 K i hl)).trans (f3 k), f4, f5⟩
theorem cl_Q.pR (h : cl_Q B c μ0 μ) (K p i v : Nat) (hl : cL B K i) (hp : cl_tk K p < 90 ∧ K ≠ 5) (hv : v < 2 ^ 31) (ht : v = 0 ∨ cL B (cl_tk K p) (v - 1)) : cl_Q B (cc_u c K p i v) μ0 (mj_pR μ (cD B K i) p (cl_ref B (cl_tk K p) v)) := by
  obtain ⟨⟨a1, a2, a3, a4, a5, a6, a7, a8, a9, a10⟩, f⟩ := h
  have hK := cl_tk_lt hp.1
  refine ⟨⟨a1, a2, a3, fun K' p' i' q1 q2 => ?_, fun K' p' i' q1 q2 => ?_, fun j i' q1 q2 => ?_, ?_, fun K' p' i' q => ?_, a9, a10⟩, fun a ha => ?_⟩
  · have e : cc_u c K p i v K' p' i' = c K' p' i' := by
      unfold cc_u
      split
      · split
        · rename_i g1 g2
          rw [g1, g2] at q2
          have : ∀ K, K < 10 → ∀ p, p < 20 → cl_isI K p = true → ¬ cl_tk K p < 90 := by decide
          have hp20 : p < 20 := by
            apply Decidable.byContradiction
            intro q
            have h1 := q2
            unfold cl_isI at h1
            have : ∀ K, K < 10 → (([[0, 0, 0, 0, 0, 0, 0, 0, 1, 1, 1, 1, 1, 0, 0, 0, 0, 0, 0, 0], [1, 0, 0, 0, 0, 1, 1, 0, 0, 0, 0, 0, 0, 0, 0, 0, 0, 0, 0, 0], [1, 1, 1, 0, 0, 0, 0, 0, 0, 0, 0, 0, 0, 0, 0, 0, 0, 0, 0, 0], [0, 1, 0, 1, 0, 0, 0, 0, 0, 0, 0, 0, 0, 0, 0, 0, 0, 0, 0, 0], [0, 0, 0, 0, 0, 0, 0, 0, 0, 0, 0, 0, 0, 0, 0, 0, 0, 0, 0, 0], [0, 1, 1, 0, 0, 0, 0, 0, 0, 0, 0, 0, 0, 0, 0, 0, 0, 0, 0, 0], [1, 1, 0, 0, 0, 0, 0, 0, 0, 0, 0, 0, 0, 0, 0, 0, 0, 0, 0, 0], [1, 0, 0, 0, 0, 0, 0, 0, 0, 0, 0, 0, 0, 0, 0, 0, 0, 0, 0, 0], [1, 1, 0, 1, 1, 1, 0, 0, 1, 1, 1, 1, 1, 1, 1, 0, 1, 0, 0, 0], [0, 1, 0, 0, 0, 0, 0, 0, 0, 0, 0, 0, 0, 0, 0, 0, 0, 0, 0, 0]] : List (List Nat)).getD K []).length = 20 := by decide
            rw [List.getD_eq_getElem?_getD (i := p), List.getElem?_eq_none (by rw [this K hK]; omega)] at h1
            simp at h1
          exact absurd hp.1 (this K hK p hp20 q2)
        · rfl
      · rfl
    rw [e]
    exact a4 K' p' i' q1 q2
  · by_cases e : cD B K' i' = cD B K i
    · obtain ⟨rfl, rfl⟩ := a2 K' i' K i q1 hl e
      by_cases e2 : p' = p
      · subst e2
        rw [mj_sR, cc_us]
        exact ⟨rfl, ht⟩
      · rw [cc_up _ _ _ _ _ _ e2]
        refine ⟨?_, (a5 K' p' i' q1 q2).2⟩
        rw [← (a5 K' p' i' q1 q2).1]
        exact mj_u_ne _ _ (fun q => e2 q.2)
    · have e' : cc_u c K p i v K' p' i' = c K' p' i' := by
        unfold cc_u
        split
        · split
          · split
            · rename_i g1 g2 g3
              exact absurd (by rw [g1, g3]) e
            · rfl
          · rfl
        · rfl
      rw [e', mj_kr e]
      exact a5 K' p' i' q1 q2
  · have e : cD B 10 j ≠ cD B K i := fun e => by have := (a2 10 j K i q1 hl e).1; omega
    rw [cc_uk _ _ _ _ _ _ (by omega), mj_kr e]
    exact a6 j i' q1 q2
  · have e : ∀ p' i', cc_u c K p i v 5 p' i' = c 5 p' i' := fun p' i' => cc_uk _ _ _ _ _ _ (Ne.symm hp.2)
    have e2 : ∀ p' i', cc_u c K p i v 20 p' i' = c 20 p' i' := fun p' i' => cc_uk _ _ _ _ _ _ (by omega)
    have e3 : ∀ j b, cL B 11 j → mj_r (mj_pR μ (cD B K i) p (cl_ref B (cl_tk K p) v)) (cD B 11 j) b = mj_r μ (cD B 11 j) b := fun j b hj => mj_kr (fun e => by have := (a2 11 j K i hj hl e).1; omega)
    unfold lg_R lg_m at a7 ⊢
    simp only [e, e2]
    refine ⟨fun j hj => ?_, fun j b j' b' a h1 h2 h3 h4 h5 h6 => ?_⟩
    · obtain ⟨g1, g2, g3, g4, g5⟩ := a7.1 j hj
      refine ⟨g1, g2, g3, g4, fun b hb => ?_⟩
      rw [e3 j b g1]
      exact g5 b hb
    · rw [e3 j b (a7.1 j h1).1] at h5
      rw [e3 j' b' (a7.1 j' h2).1] at h6
      exact a7.2 j b j' b' a h1 h2 h3 h4 h5 h6
  · unfold cc_u
    have := a8 K' p' i' q
    split
    · split
      · split
        · exact hv
        · exact this
      · exact this
    · exact this
  · obtain ⟨f1, f2, f3, f4, f5⟩ := f a ha
    exact ⟨f1, f2, f3, fun k => (mj_kr ((a9 a ha).2 K i hl)).trans (f4 k), f5⟩
theorem cl_ref_inj (h : cl_R B c μ) {K v w : Nat} (hv : v = 0 ∨ cL B K (v - 1)) (hw : w = 0 ∨ cL B K (w - 1)) : (cl_ref B K v = cl_ref B K w) = (v = w) := by
  apply propext
  refine ⟨fun e => ?_, fun e => by rw [e]⟩
  cases v with
  | zero =>
    cases w with
    | zero => rfl
    | succ w => cases e
  | succ v =>
    cases w with
    | zero => cases e
    | succ w =>
      have h1 : cL B K v := by
        rcases hv with hv | hv
        · omega
        · exact hv
      have h2 : cL B K w := by
        rcases hw with hw | hw
        · omega
        · exact hw
      have := (h.2.1 K v K w h1 h2 (Option.some.inj e)).2
      omega
end CL
/-- a chain of objects: from a reference on, by a field -/
def ch (f : Nat → Nat) : Nat → List Nat → Prop
  | v, [] => v = 0
  | v, x :: L => v = x + 1 ∧ ch f (f x) L
theorem cl_ref_0 (B : cl_B) (K : Nat) : cl_ref B K 0 = none := rfl
theorem cl_ref_s (B : cl_B) (K v : Nat) : cl_ref B K (v + 1) = some (cD B K v) := rfl
theorem cl_Q.t0 {B : cl_B} {c : cc_S} {μ μ0 : mj_MM} (h : cl_Q B c μ0 μ) {i : Nat} (hl : cL B 0 i) : mj_t μ (cD B 0 i) = 1 := h.1.1 0 i hl
theorem cl_Q.t1 {B : cl_B} {c : cc_S} {μ μ0 : mj_MM} (h : cl_Q B c μ0 μ) {i : Nat} (hl : cL B 1 i) : mj_t μ (cD B 1 i) = 2 := h.1.1 1 i hl
theorem cl_Q.t2 {B : cl_B} {c : cc_S} {μ μ0 : mj_MM} (h : cl_Q B c μ0 μ) {i : Nat} (hl : cL B 2 i) : mj_t μ (cD B 2 i) = 3 := h.1.1 2 i hl
theorem cl_Q.t3 {B : cl_B} {c : cc_S} {μ μ0 : mj_MM} (h : cl_Q B c μ0 μ) {i : Nat} (hl : cL B 3 i) : mj_t μ (cD B 3 i) = 4 := h.1.1 3 i hl
theorem cl_Q.t4 {B : cl_B} {c : cc_S} {μ μ0 : mj_MM} (h : cl_Q B c μ0 μ) {i : Nat} (hl : cL B 4 i) : mj_t μ (cD B 4 i) = 5 := h.1.1 4 i hl
theorem cl_Q.t5 {B : cl_B} {c : cc_S} {μ μ0 : mj_MM} (h : cl_Q B c μ0 μ) {i : Nat} (hl : cL B 5 i) : mj_t μ (cD B 5 i) = 6 := h.1.1 5 i hl
theorem cl_Q.t6 {B : cl_B} {c : cc_S} {μ μ0 : mj_MM} (h : cl_Q B c μ0 μ) {i : Nat} (hl : cL B 6 i) : mj_t μ (cD B 6 i) = 7 := h.1.1 6 i hl
theorem cl_Q.t7 {B : cl_B} {c : cc_S} {μ μ0 : mj_MM} (h : cl_Q B c μ0 μ) {i : Nat} (hl : cL B 7 i) : mj_t μ (cD B 7 i) = 8 := h.1.1 7 i hl
theorem cl_Q.t8 {B : cl_B} {c : cc_S} {μ μ0 : mj_MM} (h : cl_Q B c μ0 μ) {i : Nat} (hl : cL B 8 i) : mj_t μ (cD B 8 i) = 9 := h.1.1 8 i hl
theorem cl_Q.t9 {B : cl_B} {c : cc_S} {μ μ0 : mj_MM} (h : cl_Q B c μ0 μ) {i : Nat} (hl : cL B 9 i) : mj_t μ (cD B 9 i) = 10 := h.1.1 9 i hl
theorem cl_Q.ta0 {B : cl_B} {c : cc_S} {μ μ0 : mj_MM} (h : cl_Q B c μ0 μ) (hl : cL B 10 0) : mj_t μ (cD B 10 0) = 1004 := h.1.1 10 0 hl
theorem cl_Q.e0 {B : cl_B} {c : cc_S} {μ μ0 : mj_MM} (h : cl_Q B c μ0 μ) {i : Nat} (hl : cL B 10 0) (hi : i < cN B 10 0) : mj_r μ (cD B 10 0) i = cl_ref B 8 (c 10 0 i) := (h.1.2.2.2.2.2.1 0 i hl hi).1
theorem cl_Q.ta1 {B : cl_B} {c : cc_S} {μ μ0 : mj_MM} (h : cl_Q B c μ0 μ) (hl : cL B 10 1) : mj_t μ (cD B 10 1) = 1005 := h.1.1 10 1 hl
theorem cl_Q.e1 {B : cl_B} {c : cc_S} {μ μ0 : mj_MM} (h : cl_Q B c μ0 μ) {i : Nat} (hl : cL B 10 1) (hi : i < cN B 10 1) : mj_r μ (cD B 10 1) i = cl_ref B 1 (c 10 1 i) := (h.1.2.2.2.2.2.1 1 i hl hi).1
theorem cl_Q.ta2 {B : cl_B} {c : cc_S} {μ μ0 : mj_MM} (h : cl_Q B c μ0 μ) (hl : cL B 10 2) : mj_t μ (cD B 10 2) = 1006 := h.1.1 10 2 hl
theorem cl_Q.e2 {B : cl_B} {c : cc_S} {μ μ0 : mj_MM} (h : cl_Q B c μ0 μ) {i : Nat} (hl : cL B 10 2) (hi : i < cN B 10 2) : mj_r μ (cD B 10 2) i = cl_ref B 7 (c 10 2 i) := (h.1.2.2.2.2.2.1 2 i hl hi).1
theorem cl_Q.ta3 {B : cl_B} {c : cc_S} {μ μ0 : mj_MM} (h : cl_Q B c μ0 μ) (hl : cL B 10 3) : mj_t μ (cD B 10 3) = 1007 := h.1.1 10 3 hl
theorem cl_Q.e3 {B : cl_B} {c : cc_S} {μ μ0 : mj_MM} (h : cl_Q B c μ0 μ) {i : Nat} (hl : cL B 10 3) (hi : i < cN B 10 3) : mj_r μ (cD B 10 3) i = cl_ref B 4 (c 10 3 i) := (h.1.2.2.2.2.2.1 3 i hl hi).1
theorem cl_Q.tb {B : cl_B} {c : cc_S} {μ μ0 : mj_MM} (h : cl_Q B c μ0 μ) {i : Nat} (hl : cL B 11 i) : mj_t μ (cD B 11 i) = 1008 := h.1.1 11 i hl
theorem cl_Q.i0_8 {B : cl_B} {c : cc_S} {μ μ0 : mj_MM} (h : cl_Q B c μ0 μ) {i : Nat} (hl : cL B 0 i) : mj_i μ (cD B 0 i) 8 = nI (c 0 8 i) := h.1.2.2.2.1 0 8 i hl rfl
theorem cl_Q.i0_9 {B : cl_B} {c : cc_S} {μ μ0 : mj_MM} (h : cl_Q B c μ0 μ) {i : Nat} (hl : cL B 0 i) : mj_i μ (cD B 0 i) 9 = nI (c 0 9 i) := h.1.2.2.2.1 0 9 i hl rfl
theorem cl_Q.i0_10 {B : cl_B} {c : cc_S} {μ μ0 : mj_MM} (h : cl_Q B c μ0 μ) {i : Nat} (hl : cL B 0 i) : mj_i μ (cD B 0 i) 10 = nI (c 0 10 i) := h.1.2.2.2.1 0 10 i hl rfl
theorem cl_Q.i0_11 {B : cl_B} {c : cc_S} {μ μ0 : mj_MM} (h : cl_Q B c μ0 μ) {i : Nat} (hl : cL B 0 i) : mj_i μ (cD B 0 i) 11 = nI (c 0 11 i) := h.1.2.2.2.1 0 11 i hl rfl
theorem cl_Q.i0_12 {B : cl_B} {c : cc_S} {μ μ0 : mj_MM} (h : cl_Q B c μ0 μ) {i : Nat} (hl : cL B 0 i) : mj_i μ (cD B 0 i) 12 = nI (c 0 12 i) := h.1.2.2.2.1 0 12 i hl rfl
theorem cl_Q.r0_0 {B : cl_B} {c : cc_S} {μ μ0 : mj_MM} (h : cl_Q B c μ0 μ) {i : Nat} (hl : cL B 0 i) : mj_r μ (cD B 0 i) 0 = cl_ref B 10 (c 0 0 i) := (h.1.2.2.2.2.1 0 0 i hl (by decide)).1
theorem cl_Q.l0_0 {B : cl_B} {c : cc_S} {μ μ0 : mj_MM} (h : cl_Q B c μ0 μ) {i : Nat} (hl : cL B 0 i) : c 0 0 i = 0 ∨ cL B 10 (c 0 0 i - 1) := (h.1.2.2.2.2.1 0 0 i hl (by decide)).2
theorem cl_Q.r0_1 {B : cl_B} {c : cc_S} {μ μ0 : mj_MM} (h : cl_Q B c μ0 μ) {i : Nat} (hl : cL B 0 i) : mj_r μ (cD B 0 i) 1 = cl_ref B 10 (c 0 1 i) := (h.1.2.2.2.2.1 0 1 i hl (by decide)).1
theorem cl_Q.l0_1 {B : cl_B} {c : cc_S} {μ μ0 : mj_MM} (h : cl_Q B c μ0 μ) {i : Nat} (hl : cL B 0 i) : c 0 1 i = 0 ∨ cL B 10 (c 0 1 i - 1) := (h.1.2.2.2.2.1 0 1 i hl (by decide)).2
theorem cl_Q.r0_2 {B : cl_B} {c : cc_S} {μ μ0 : mj_MM} (h : cl_Q B c μ0 μ) {i : Nat} (hl : cL B 0 i) : mj_r μ (cD B 0 i) 2 = cl_ref B 10 (c 0 2 i) := (h.1.2.2.2.2.1 0 2 i hl (by decide)).1
theorem cl_Q.l0_2 {B : cl_B} {c : cc_S} {μ μ0 : mj_MM} (h : cl_Q B c μ0 μ) {i : Nat} (hl : cL B 0 i) : c 0 2 i = 0 ∨ cL B 10 (c 0 2 i - 1) := (h.1.2.2.2.2.1 0 2 i hl (by decide)).2
theorem cl_Q.r0_3 {B : cl_B} {c : cc_S} {μ μ0 : mj_MM} (h : cl_Q B c μ0 μ) {i : Nat} (hl : cL B 0 i) : mj_r μ (cD B 0 i) 3 = cl_ref B 10 (c 0 3 i) := (h.1.2.2.2.2.1 0 3 i hl (by decide)).1
theorem cl_Q.l0_3 {B : cl_B} {c : cc_S} {μ μ0 : mj_MM} (h : cl_Q B c μ0 μ) {i : Nat} (hl : cL B 0 i) : c 0 3 i = 0 ∨ cL B 10 (c 0 3 i - 1) := (h.1.2.2.2.2.1 0 3 i hl (by decide)).2
theorem cl_Q.r0_4 {B : cl_B} {c : cc_S} {μ μ0 : mj_MM} (h : cl_Q B c μ0 μ) {i : Nat} (hl : cL B 0 i) : mj_r μ (cD B 0 i) 4 = cl_ref B 3 (c 0 4 i) := (h.1.2.2.2.2.1 0 4 i hl (by decide)).1
theorem cl_Q.l0_4 {B : cl_B} {c : cc_S} {μ μ0 : mj_MM} (h : cl_Q B c μ0 μ) {i : Nat} (hl : cL B 0 i) : c 0 4 i = 0 ∨ cL B 3 (c 0 4 i - 1) := (h.1.2.2.2.2.1 0 4 i hl (by decide)).2
theorem cl_Q.r0_5 {B : cl_B} {c : cc_S} {μ μ0 : mj_MM} (h : cl_Q B c μ0 μ) {i : Nat} (hl : cL B 0 i) : mj_r μ (cD B 0 i) 5 = cl_ref B 5 (c 0 5 i) := (h.1.2.2.2.2.1 0 5 i hl (by decide)).1
theorem cl_Q.l0_5 {B : cl_B} {c : cc_S} {μ μ0 : mj_MM} (h : cl_Q B c μ0 μ) {i : Nat} (hl : cL B 0 i) : c 0 5 i = 0 ∨ cL B 5 (c 0 5 i - 1) := (h.1.2.2.2.2.1 0 5 i hl (by decide)).2
theorem cl_Q.r0_6 {B : cl_B} {c : cc_S} {μ μ0 : mj_MM} (h : cl_Q B c μ0 μ) {i : Nat} (hl : cL B 0 i) : mj_r μ (cD B 0 i) 6 = cl_ref B 5 (c 0 6 i) := (h.1.2.2.2.2.1 0 6 i hl (by decide)).1
theorem cl_Q.l0_6 {B : cl_B} {c : cc_S} {μ μ0 : mj_MM} (h : cl_Q B c μ0 μ) {i : Nat} (hl : cL B 0 i) : c 0 6 i = 0 ∨ cL B 5 (c 0 6 i - 1) := (h.1.2.2.2.2.1 0 6 i hl (by decide)).2
theorem cl_Q.r0_7 {B : cl_B} {c : cc_S} {μ μ0 : mj_MM} (h : cl_Q B c μ0 μ) {i : Nat} (hl : cL B 0 i) : mj_r μ (cD B 0 i) 7 = cl_ref B 9 (c 0 7 i) := (h.1.2.2.2.2.1 0 7 i hl (by decide)).1
theorem cl_Q.l0_7 {B : cl_B} {c : cc_S} {μ μ0 : mj_MM} (h : cl_Q B c μ0 μ) {i : Nat} (hl : cL B 0 i) : c 0 7 i = 0 ∨ cL B 9 (c 0 7 i - 1) := (h.1.2.2.2.2.1 0 7 i hl (by decide)).2
theorem cl_Q.i1_0 {B : cl_B} {c : cc_S} {μ μ0 : mj_MM} (h : cl_Q B c μ0 μ) {i : Nat} (hl : cL B 1 i) : mj_i μ (cD B 1 i) 0 = nI (c 1 0 i) := h.1.2.2.2.1 1 0 i hl rfl
theorem cl_Q.i1_5 {B : cl_B} {c : cc_S} {μ μ0 : mj_MM} (h : cl_Q B c μ0 μ) {i : Nat} (hl : cL B 1 i) : mj_i μ (cD B 1 i) 5 = nI (c 1 5 i) := h.1.2.2.2.1 1 5 i hl rfl
theorem cl_Q.i1_6 {B : cl_B} {c : cc_S} {μ μ0 : mj_MM} (h : cl_Q B c μ0 μ) {i : Nat} (hl : cL B 1 i) : mj_i μ (cD B 1 i) 6 = nI (c 1 6 i) := h.1.2.2.2.1 1 6 i hl rfl
theorem cl_Q.r1_1 {B : cl_B} {c : cc_S} {μ μ0 : mj_MM} (h : cl_Q B c μ0 μ) {i : Nat} (hl : cL B 1 i) : mj_r μ (cD B 1 i) 1 = cl_ref B 5 (c 1 1 i) := (h.1.2.2.2.2.1 1 1 i hl (by decide)).1
theorem cl_Q.l1_1 {B : cl_B} {c : cc_S} {μ μ0 : mj_MM} (h : cl_Q B c μ0 μ) {i : Nat} (hl : cL B 1 i) : c 1 1 i = 0 ∨ cL B 5 (c 1 1 i - 1) := (h.1.2.2.2.2.1 1 1 i hl (by decide)).2
theorem cl_Q.r1_2 {B : cl_B} {c : cc_S} {μ μ0 : mj_MM} (h : cl_Q B c μ0 μ) {i : Nat} (hl : cL B 1 i) : mj_r μ (cD B 1 i) 2 = cl_ref B 8 (c 1 2 i) := (h.1.2.2.2.2.1 1 2 i hl (by decide)).1
theorem cl_Q.l1_2 {B : cl_B} {c : cc_S} {μ μ0 : mj_MM} (h : cl_Q B c μ0 μ) {i : Nat} (hl : cL B 1 i) : c 1 2 i = 0 ∨ cL B 8 (c 1 2 i - 1) := (h.1.2.2.2.2.1 1 2 i hl (by decide)).2
theorem cl_Q.r1_3 {B : cl_B} {c : cc_S} {μ μ0 : mj_MM} (h : cl_Q B c μ0 μ) {i : Nat} (hl : cL B 1 i) : mj_r μ (cD B 1 i) 3 = cl_ref B 8 (c 1 3 i) := (h.1.2.2.2.2.1 1 3 i hl (by decide)).1
theorem cl_Q.l1_3 {B : cl_B} {c : cc_S} {μ μ0 : mj_MM} (h : cl_Q B c μ0 μ) {i : Nat} (hl : cL B 1 i) : c 1 3 i = 0 ∨ cL B 8 (c 1 3 i - 1) := (h.1.2.2.2.2.1 1 3 i hl (by decide)).2
theorem cl_Q.r1_4 {B : cl_B} {c : cc_S} {μ μ0 : mj_MM} (h : cl_Q B c μ0 μ) {i : Nat} (hl : cL B 1 i) : mj_r μ (cD B 1 i) 4 = cl_ref B 8 (c 1 4 i) := (h.1.2.2.2.2.1 1 4 i hl (by decide)).1
theorem cl_Q.l1_4 {B : cl_B} {c : cc_S} {μ μ0 : mj_MM} (h : cl_Q B c μ0 μ) {i : Nat} (hl : cL B 1 i) : c 1 4 i = 0 ∨ cL B 8 (c 1 4 i - 1) := (h.1.2.2.2.2.1 1 4 i hl (by decide)).2
theorem cl_Q.i2_0 {B : cl_B} {c : cc_S} {μ μ0 : mj_MM} (h : cl_Q B c μ0 μ) {i : Nat} (hl : cL B 2 i) : mj_i μ (cD B 2 i) 0 = nI (c 2 0 i) := h.1.2.2.2.1 2 0 i hl rfl
theorem cl_Q.i2_1 {B : cl_B} {c : cc_S} {μ μ0 : mj_MM} (h : cl_Q B c μ0 μ) {i : Nat} (hl : cL B 2 i) : mj_i μ (cD B 2 i) 1 = nI (c 2 1 i) := h.1.2.2.2.1 2 1 i hl rfl
theorem cl_Q.i2_2 {B : cl_B} {c : cc_S} {μ μ0 : mj_MM} (h : cl_Q B c μ0 μ) {i : Nat} (hl : cL B 2 i) : mj_i μ (cD B 2 i) 2 = nI (c 2 2 i) := h.1.2.2.2.1 2 2 i hl rfl
theorem cl_Q.r2_3 {B : cl_B} {c : cc_S} {μ μ0 : mj_MM} (h : cl_Q B c μ0 μ) {i : Nat} (hl : cL B 2 i) : mj_r μ (cD B 2 i) 3 = cl_ref B 2 (c 2 3 i) := (h.1.2.2.2.2.1 2 3 i hl (by decide)).1
theorem cl_Q.l2_3 {B : cl_B} {c : cc_S} {μ μ0 : mj_MM} (h : cl_Q B c μ0 μ) {i : Nat} (hl : cL B 2 i) : c 2 3 i = 0 ∨ cL B 2 (c 2 3 i - 1) := (h.1.2.2.2.2.1 2 3 i hl (by decide)).2
theorem cl_Q.i3_1 {B : cl_B} {c : cc_S} {μ μ0 : mj_MM} (h : cl_Q B c μ0 μ) {i : Nat} (hl : cL B 3 i) : mj_i μ (cD B 3 i) 1 = nI (c 3 1 i) := h.1.2.2.2.1 3 1 i hl rfl
theorem cl_Q.i3_3 {B : cl_B} {c : cc_S} {μ μ0 : mj_MM} (h : cl_Q B c μ0 μ) {i : Nat} (hl : cL B 3 i) : mj_i μ (cD B 3 i) 3 = nI (c 3 3 i) := h.1.2.2.2.1 3 3 i hl rfl
theorem cl_Q.r3_0 {B : cl_B} {c : cc_S} {μ μ0 : mj_MM} (h : cl_Q B c μ0 μ) {i : Nat} (hl : cL B 3 i) : mj_r μ (cD B 3 i) 0 = cl_ref B 2 (c 3 0 i) := (h.1.2.2.2.2.1 3 0 i hl (by decide)).1
theorem cl_Q.l3_0 {B : cl_B} {c : cc_S} {μ μ0 : mj_MM} (h : cl_Q B c μ0 μ) {i : Nat} (hl : cL B 3 i) : c 3 0 i = 0 ∨ cL B 2 (c 3 0 i - 1) := (h.1.2.2.2.2.1 3 0 i hl (by decide)).2
theorem cl_Q.r3_2 {B : cl_B} {c : cc_S} {μ μ0 : mj_MM} (h : cl_Q B c μ0 μ) {i : Nat} (hl : cL B 3 i) : mj_r μ (cD B 3 i) 2 = cl_ref B 8 (c 3 2 i) := (h.1.2.2.2.2.1 3 2 i hl (by decide)).1
theorem cl_Q.l3_2 {B : cl_B} {c : cc_S} {μ μ0 : mj_MM} (h : cl_Q B c μ0 μ) {i : Nat} (hl : cL B 3 i) : c 3 2 i = 0 ∨ cL B 8 (c 3 2 i - 1) := (h.1.2.2.2.2.1 3 2 i hl (by decide)).2
theorem cl_Q.r4_0 {B : cl_B} {c : cc_S} {μ μ0 : mj_MM} (h : cl_Q B c μ0 μ) {i : Nat} (hl : cL B 4 i) : mj_r μ (cD B 4 i) 0 = cl_ref B 8 (c 4 0 i) := (h.1.2.2.2.2.1 4 0 i hl (by decide)).1
theorem cl_Q.l4_0 {B : cl_B} {c : cc_S} {μ μ0 : mj_MM} (h : cl_Q B c μ0 μ) {i : Nat} (hl : cL B 4 i) : c 4 0 i = 0 ∨ cL B 8 (c 4 0 i - 1) := (h.1.2.2.2.2.1 4 0 i hl (by decide)).2
theorem cl_Q.r4_1 {B : cl_B} {c : cc_S} {μ μ0 : mj_MM} (h : cl_Q B c μ0 μ) {i : Nat} (hl : cL B 4 i) : mj_r μ (cD B 4 i) 1 = cl_ref B 8 (c 4 1 i) := (h.1.2.2.2.2.1 4 1 i hl (by decide)).1
theorem cl_Q.l4_1 {B : cl_B} {c : cc_S} {μ μ0 : mj_MM} (h : cl_Q B c μ0 μ) {i : Nat} (hl : cL B 4 i) : c 4 1 i = 0 ∨ cL B 8 (c 4 1 i - 1) := (h.1.2.2.2.2.1 4 1 i hl (by decide)).2
theorem cl_Q.i5_1 {B : cl_B} {c : cc_S} {μ μ0 : mj_MM} (h : cl_Q B c μ0 μ) {i : Nat} (hl : cL B 5 i) : mj_i μ (cD B 5 i) 1 = nI (c 5 1 i) := h.1.2.2.2.1 5 1 i hl rfl
theorem cl_Q.i5_2 {B : cl_B} {c : cc_S} {μ μ0 : mj_MM} (h : cl_Q B c μ0 μ) {i : Nat} (hl : cL B 5 i) : mj_i μ (cD B 5 i) 2 = nI (c 5 2 i) := h.1.2.2.2.1 5 2 i hl rfl
theorem cl_Q.r5_0 {B : cl_B} {c : cc_S} {μ μ0 : mj_MM} (h : cl_Q B c μ0 μ) {i : Nat} (hl : cL B 5 i) : mj_r μ (cD B 5 i) 0 = cl_ref B 11 (c 5 0 i) := (h.1.2.2.2.2.1 5 0 i hl (by decide)).1
theorem cl_Q.l5_0 {B : cl_B} {c : cc_S} {μ μ0 : mj_MM} (h : cl_Q B c μ0 μ) {i : Nat} (hl : cL B 5 i) : c 5 0 i = 0 ∨ cL B 11 (c 5 0 i - 1) := (h.1.2.2.2.2.1 5 0 i hl (by decide)).2
theorem cl_Q.i6_0 {B : cl_B} {c : cc_S} {μ μ0 : mj_MM} (h : cl_Q B c μ0 μ) {i : Nat} (hl : cL B 6 i) : mj_i μ (cD B 6 i) 0 = nI (c 6 0 i) := h.1.2.2.2.1 6 0 i hl rfl
theorem cl_Q.i6_1 {B : cl_B} {c : cc_S} {μ μ0 : mj_MM} (h : cl_Q B c μ0 μ) {i : Nat} (hl : cL B 6 i) : mj_i μ (cD B 6 i) 1 = nI (c 6 1 i) := h.1.2.2.2.1 6 1 i hl rfl
theorem cl_Q.r6_2 {B : cl_B} {c : cc_S} {μ μ0 : mj_MM} (h : cl_Q B c μ0 μ) {i : Nat} (hl : cL B 6 i) : mj_r μ (cD B 6 i) 2 = cl_ref B 6 (c 6 2 i) := (h.1.2.2.2.2.1 6 2 i hl (by decide)).1
theorem cl_Q.l6_2 {B : cl_B} {c : cc_S} {μ μ0 : mj_MM} (h : cl_Q B c μ0 μ) {i : Nat} (hl : cL B 6 i) : c 6 2 i = 0 ∨ cL B 6 (c 6 2 i - 1) := (h.1.2.2.2.2.1 6 2 i hl (by decide)).2
theorem cl_Q.i7_0 {B : cl_B} {c : cc_S} {μ μ0 : mj_MM} (h : cl_Q B c μ0 μ) {i : Nat} (hl : cL B 7 i) : mj_i μ (cD B 7 i) 0 = nI (c 7 0 i) := h.1.2.2.2.1 7 0 i hl rfl
theorem cl_Q.r7_1 {B : cl_B} {c : cc_S} {μ μ0 : mj_MM} (h : cl_Q B c μ0 μ) {i : Nat} (hl : cL B 7 i) : mj_r μ (cD B 7 i) 1 = cl_ref B 8 (c 7 1 i) := (h.1.2.2.2.2.1 7 1 i hl (by decide)).1
theorem cl_Q.l7_1 {B : cl_B} {c : cc_S} {μ μ0 : mj_MM} (h : cl_Q B c μ0 μ) {i : Nat} (hl : cL B 7 i) : c 7 1 i = 0 ∨ cL B 8 (c 7 1 i - 1) := (h.1.2.2.2.2.1 7 1 i hl (by decide)).2
theorem cl_Q.r7_2 {B : cl_B} {c : cc_S} {μ μ0 : mj_MM} (h : cl_Q B c μ0 μ) {i : Nat} (hl : cL B 7 i) : mj_r μ (cD B 7 i) 2 = cl_ref B 7 (c 7 2 i) := (h.1.2.2.2.2.1 7 2 i hl (by decide)).1
theorem cl_Q.l7_2 {B : cl_B} {c : cc_S} {μ μ0 : mj_MM} (h : cl_Q B c μ0 μ) {i : Nat} (hl : cL B 7 i) : c 7 2 i = 0 ∨ cL B 7 (c 7 2 i - 1) := (h.1.2.2.2.2.1 7 2 i hl (by decide)).2
theorem cl_Q.i8_0 {B : cl_B} {c : cc_S} {μ μ0 : mj_MM} (h : cl_Q B c μ0 μ) {i : Nat} (hl : cL B 8 i) : mj_i μ (cD B 8 i) 0 = nI (c 8 0 i) := h.1.2.2.2.1 8 0 i hl rfl
theorem cl_Q.i8_1 {B : cl_B} {c : cc_S} {μ μ0 : mj_MM} (h : cl_Q B c μ0 μ) {i : Nat} (hl : cL B 8 i) : mj_i μ (cD B 8 i) 1 = nI (c 8 1 i) := h.1.2.2.2.1 8 1 i hl rfl
theorem cl_Q.i8_3 {B : cl_B} {c : cc_S} {μ μ0 : mj_MM} (h : cl_Q B c μ0 μ) {i : Nat} (hl : cL B 8 i) : mj_i μ (cD B 8 i) 3 = nI (c 8 3 i) := h.1.2.2.2.1 8 3 i hl rfl
theorem cl_Q.i8_4 {B : cl_B} {c : cc_S} {μ μ0 : mj_MM} (h : cl_Q B c μ0 μ) {i : Nat} (hl : cL B 8 i) : mj_i μ (cD B 8 i) 4 = nI (c 8 4 i) := h.1.2.2.2.1 8 4 i hl rfl
theorem cl_Q.i8_5 {B : cl_B} {c : cc_S} {μ μ0 : mj_MM} (h : cl_Q B c μ0 μ) {i : Nat} (hl : cL B 8 i) : mj_i μ (cD B 8 i) 5 = nI (c 8 5 i) := h.1.2.2.2.1 8 5 i hl rfl
theorem cl_Q.i8_8 {B : cl_B} {c : cc_S} {μ μ0 : mj_MM} (h : cl_Q B c μ0 μ) {i : Nat} (hl : cL B 8 i) : mj_i μ (cD B 8 i) 8 = nI (c 8 8 i) := h.1.2.2.2.1 8 8 i hl rfl
theorem cl_Q.i8_9 {B : cl_B} {c : cc_S} {μ μ0 : mj_MM} (h : cl_Q B c μ0 μ) {i : Nat} (hl : cL B 8 i) : mj_i μ (cD B 8 i) 9 = nI (c 8 9 i) := h.1.2.2.2.1 8 9 i hl rfl
theorem cl_Q.i8_10 {B : cl_B} {c : cc_S} {μ μ0 : mj_MM} (h : cl_Q B c μ0 μ) {i : Nat} (hl : cL B 8 i) : mj_i μ (cD B 8 i) 10 = nI (c 8 10 i) := h.1.2.2.2.1 8 10 i hl rfl
theorem cl_Q.i8_11 {B : cl_B} {c : cc_S} {μ μ0 : mj_MM} (h : cl_Q B c μ0 μ) {i : Nat} (hl : cL B 8 i) : mj_i μ (cD B 8 i) 11 = nI (c 8 11 i) := h.1.2.2.2.1 8 11 i hl rfl
theorem cl_Q.i8_12 {B : cl_B} {c : cc_S} {μ μ0 : mj_MM} (h : cl_Q B c μ0 μ) {i : Nat} (hl : cL B 8 i) : mj_i μ (cD B 8 i) 12 = nI (c 8 12 i) := h.1.2.2.2.1 8 12 i hl rfl
theorem cl_Q.i8_13 {B : cl_B} {c : cc_S} {μ μ0 : mj_MM} (h : cl_Q B c μ0 μ) {i : Nat} (hl : cL B 8 i) : mj_i μ (cD B 8 i) 13 = nI (c 8 13 i) := h.1.2.2.2.1 8 13 i hl rfl
theorem cl_Q.i8_14 {B : cl_B} {c : cc_S} {μ μ0 : mj_MM} (h : cl_Q B c μ0 μ) {i : Nat} (hl : cL B 8 i) : mj_i μ (cD B 8 i) 14 = nI (c 8 14 i) := h.1.2.2.2.1 8 14 i hl rfl
theorem cl_Q.i8_16 {B : cl_B} {c : cc_S} {μ μ0 : mj_MM} (h : cl_Q B c μ0 μ) {i : Nat} (hl : cL B 8 i) : mj_i μ (cD B 8 i) 16 = nI (c 8 16 i) := h.1.2.2.2.1 8 16 i hl rfl
theorem cl_Q.r8_2 {B : cl_B} {c : cc_S} {μ μ0 : mj_MM} (h : cl_Q B c μ0 μ) {i : Nat} (hl : cL B 8 i) : mj_r μ (cD B 8 i) 2 = cl_ref B 1 (c 8 2 i) := (h.1.2.2.2.2.1 8 2 i hl (by decide)).1
theorem cl_Q.l8_2 {B : cl_B} {c : cc_S} {μ μ0 : mj_MM} (h : cl_Q B c μ0 μ) {i : Nat} (hl : cL B 8 i) : c 8 2 i = 0 ∨ cL B 1 (c 8 2 i - 1) := (h.1.2.2.2.2.1 8 2 i hl (by decide)).2
theorem cl_Q.r8_6 {B : cl_B} {c : cc_S} {μ μ0 : mj_MM} (h : cl_Q B c μ0 μ) {i : Nat} (hl : cL B 8 i) : mj_r μ (cD B 8 i) 6 = cl_ref B 6 (c 8 6 i) := (h.1.2.2.2.2.1 8 6 i hl (by decide)).1
theorem cl_Q.l8_6 {B : cl_B} {c : cc_S} {μ μ0 : mj_MM} (h : cl_Q B c μ0 μ) {i : Nat} (hl : cL B 8 i) : c 8 6 i = 0 ∨ cL B 6 (c 8 6 i - 1) := (h.1.2.2.2.2.1 8 6 i hl (by decide)).2
theorem cl_Q.r8_7 {B : cl_B} {c : cc_S} {μ μ0 : mj_MM} (h : cl_Q B c μ0 μ) {i : Nat} (hl : cL B 8 i) : mj_r μ (cD B 8 i) 7 = cl_ref B 6 (c 8 7 i) := (h.1.2.2.2.2.1 8 7 i hl (by decide)).1
theorem cl_Q.l8_7 {B : cl_B} {c : cc_S} {μ μ0 : mj_MM} (h : cl_Q B c μ0 μ) {i : Nat} (hl : cL B 8 i) : c 8 7 i = 0 ∨ cL B 6 (c 8 7 i - 1) := (h.1.2.2.2.2.1 8 7 i hl (by decide)).2
theorem cl_Q.r8_15 {B : cl_B} {c : cc_S} {μ μ0 : mj_MM} (h : cl_Q B c μ0 μ) {i : Nat} (hl : cL B 8 i) : mj_r μ (cD B 8 i) 15 = cl_ref B 7 (c 8 15 i) := (h.1.2.2.2.2.1 8 15 i hl (by decide)).1
theorem cl_Q.l8_15 {B : cl_B} {c : cc_S} {μ μ0 : mj_MM} (h : cl_Q B c μ0 μ) {i : Nat} (hl : cL B 8 i) : c 8 15 i = 0 ∨ cL B 7 (c 8 15 i - 1) := (h.1.2.2.2.2.1 8 15 i hl (by decide)).2
theorem cl_Q.r8_17 {B : cl_B} {c : cc_S} {μ μ0 : mj_MM} (h : cl_Q B c μ0 μ) {i : Nat} (hl : cL B 8 i) : mj_r μ (cD B 8 i) 17 = cl_ref B 8 (c 8 17 i) := (h.1.2.2.2.2.1 8 17 i hl (by decide)).1
theorem cl_Q.l8_17 {B : cl_B} {c : cc_S} {μ μ0 : mj_MM} (h : cl_Q B c μ0 μ) {i : Nat} (hl : cL B 8 i) : c 8 17 i = 0 ∨ cL B 8 (c 8 17 i - 1) := (h.1.2.2.2.2.1 8 17 i hl (by decide)).2
theorem cl_Q.r8_18 {B : cl_B} {c : cc_S} {μ μ0 : mj_MM} (h : cl_Q B c μ0 μ) {i : Nat} (hl : cL B 8 i) : mj_r μ (cD B 8 i) 18 = cl_ref B 8 (c 8 18 i) := (h.1.2.2.2.2.1 8 18 i hl (by decide)).1
theorem cl_Q.l8_18 {B : cl_B} {c : cc_S} {μ μ0 : mj_MM} (h : cl_Q B c μ0 μ) {i : Nat} (hl : cL B 8 i) : c 8 18 i = 0 ∨ cL B 8 (c 8 18 i - 1) := (h.1.2.2.2.2.1 8 18 i hl (by decide)).2
theorem cl_Q.i9_1 {B : cl_B} {c : cc_S} {μ μ0 : mj_MM} (h : cl_Q B c μ0 μ) {i : Nat} (hl : cL B 9 i) : mj_i μ (cD B 9 i) 1 = nI (c 9 1 i) := h.1.2.2.2.1 9 1 i hl rfl
theorem cl_Q.r9_0 {B : cl_B} {c : cc_S} {μ μ0 : mj_MM} (h : cl_Q B c μ0 μ) {i : Nat} (hl : cL B 9 i) : mj_r μ (cD B 9 i) 0 = cl_ref B 8 (c 9 0 i) := (h.1.2.2.2.2.1 9 0 i hl (by decide)).1
theorem cl_Q.l9_0 {B : cl_B} {c : cc_S} {μ μ0 : mj_MM} (h : cl_Q B c μ0 μ) {i : Nat} (hl : cL B 9 i) : c 9 0 i = 0 ∨ cL B 8 (c 9 0 i - 1) := (h.1.2.2.2.2.1 9 0 i hl (by decide)).2
theorem cl_Q.r9_2 {B : cl_B} {c : cc_S} {μ μ0 : mj_MM} (h : cl_Q B c μ0 μ) {i : Nat} (hl : cL B 9 i) : mj_r μ (cD B 9 i) 2 = cl_ref B 9 (c 9 2 i) := (h.1.2.2.2.2.1 9 2 i hl (by decide)).1
theorem cl_Q.l9_2 {B : cl_B} {c : cc_S} {μ μ0 : mj_MM} (h : cl_Q B c μ0 μ) {i : Nat} (hl : cL B 9 i) : c 9 2 i = 0 ∨ cL B 9 (c 9 2 i - 1) := (h.1.2.2.2.2.1 9 2 i hl (by decide)).2
