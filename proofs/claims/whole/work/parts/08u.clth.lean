/-- the class's numbers while it is made -/
def cF (C k1 k2 k3 s : Nat) : cc_S := fun K p i =>
  if K = 0 then (if i = 0 then (if p = 0 then 1 else if p = 1 then 2 else if p = 2 then 3 else if p = 3 then 4 else if p = 4 then 1 else if p = 5 then 1 else if p = 6 then (if s = 1 then 2 else 0) else 0) else 0)
  else if K = 1 then (if i < k1 then (if p = 0 then i else if p = 1 then i + 3 else 0) else 0)
  else if K = 5 then (if i = 0 then (if p = 0 then 1 else if p = 1 then 1000 else 0) else if i = 1 then (if s = 1 then (if p = 0 then 2 else if p = 1 then 50000 * C else 0) else 0) else if i < k1 + 2 then (if p = 0 then i + 1 else if p = 1 then 50000 else 0) else 0)
  else if K = 10 then (if p = 1 then (if i < k1 then i + 1 else 0) else if p = 2 then (if i < k2 then i + 1 else 0) else if p = 3 then (if i < k3 then i + 1 else 0) else 0)
  else 0
theorem cF_0 (C : Nat) : cc_u (cc_u (cc_u (cc_u (cc_u (cc_u (cc_u (cc_u (fun _ _ _ => 0) 0 0 0 1) 0 2 0 3) 0 3 0 4) 0 4 0 1) 5 1 0 1000) 5 0 0 1) 0 5 0 1) 0 1 0 2 = cF C 0 0 0 0 := by
  funext K p i
  unfold cc_u cF
  by_cases h0 : K = 0
  · by_cases hi : i = 0
    · subst h0 hi
      simp
      repeat' (first | rfl | split)
      all_goals omega
    · simp [h0, hi]
  · by_cases h5 : K = 5
    · by_cases hi : i = 0
      · subst h5 hi
        simp
      · simp [h5, hi]
        intros
        omega
    · simp [h0, h5]
theorem cF_1 (C k : Nat) : cc_u (cc_u (cc_u (cc_u (cc_u (cF C k 0 0 0) 5 1 (k + 2) 50000) 5 0 (k + 2) (k + 2 + 1)) 1 1 k (k + 2 + 1)) 1 0 k k) 10 1 k (k + 1) = cF C (k + 1) 0 0 0 := by
  funext K p i
  unfold cc_u cF
  by_cases h1 : K = 1
  · by_cases hi : i = k
    · subst h1 hi
      simp
    · have : (i < k + 1) = (i < k) := by
        apply propext
        omega
      simp [h1, hi, this]
  · by_cases h5 : K = 5
    · by_cases hi : i = k + 2
      · subst h5 hi
        simp
      · have : (i < k + 1 + 2) = (i < k + 2) := by
          apply propext
          omega
        simp [h5, hi, this]
    · by_cases h10 : K = 10
      · by_cases hp : p = 1
        · by_cases hi : i = k
          · subst h10 hp hi
            simp
          · have : (i < k + 1) = (i < k) := by
              apply propext
              omega
            simp [h10, hp, hi, this]
        · simp [h10, hp]
      · simp [h1, h5, h10]
theorem cF_2 (C k : Nat) : cc_u (cF C C k 0 0) 10 2 k (k + 1) = cF C C (k + 1) 0 0 := by
  funext K p i
  unfold cc_u cF
  by_cases h10 : K = 10
  · by_cases hp : p = 2
    · by_cases hi : i = k
      · subst h10 hp hi
        simp
      · have : (i < k + 1) = (i < k) := by
          apply propext
          omega
        simp [h10, hp, hi, this]
    · simp [h10, hp]
  · simp [h10]
theorem cF_3 (C k : Nat) : cc_u (cF C C 33 k 0) 10 3 k (k + 1) = cF C C 33 (k + 1) 0 := by
  funext K p i
  unfold cc_u cF
  by_cases h10 : K = 10
  · by_cases hp : p = 3
    · by_cases hi : i = k
      · subst h10 hp hi
        simp
      · have : (i < k + 1) = (i < k) := by
          apply propext
          omega
        simp [h10, hp, hi, this]
    · simp [h10, hp]
  · simp [h10]
theorem cF_4 (C : Nat) : cc_u (cc_u (cc_u (cF C C 33 17 0) 5 1 1 (50000 * C)) 5 0 1 2) 0 6 0 2 = cF C C 33 17 1 := by
  funext K p i
  unfold cc_u cF
  by_cases h0 : K = 0
  · by_cases hi : i = 0
    · by_cases hp : p = 6
      · subst h0 hi hp
        simp
      · simp [h0, hi, hp]
    · simp [h0, hi]
  · by_cases h5 : K = 5
    · by_cases hi : i = 1
      · subst h5 hi
        simp
      · simp [h5, hi]
    · simp [h0, h5]
/-- the book while the class is made -/
def LB (B : cl_B) (h0 C : Nat) (k1 k2 k3 s : Nat) : Prop :=
  cZ B = (fun _ => False) ∧ cD B 0 0 = h0 ∧ (∀ K i, cN B K i = if K = 10 then (if i = 0 then 101 else if i = 1 then C else if i = 2 then 33 else 17) else (if i = 0 then 1000 else if i = 1 then 50000 * C else 50000) / 512 + 1) ∧
  ∀ K i, cL B K i ↔ (K = 0 ∧ i = 0) ∨ (K = 3 ∧ i = 0) ∨ (K = 10 ∧ i < 4) ∨ ((K = 5 ∨ K = 11) ∧ (i = 0 ∨ (2 ≤ i ∧ i < k1 + 2) ∨ (i = 1 ∧ s = 1))) ∨ (K = 1 ∧ i < k1) ∨ (K = 7 ∧ i < k2) ∨ (K = 4 ∧ i < k3)
section TH
variable {G : mj_G} {B : cl_B} {σ τ : ss_S} {c : cc_S} {μ μ0 : mj_MM} {Ex : Option Value → mj_MM → Prop} {N S : Nat}
/-- the relation at the start -/
theorem REP.zero (h0 C : Nat) (hC : 1 ≤ C ∧ C ≤ 8) (hB : LB B h0 C C 33 17 1) : REP B 0 0 0 (sp_0 C) (cF C C 33 17 1) := by
  obtain ⟨b1, b2, b3, b4⟩ := hB
  have s0 : sp_0 C 0 0 = C := rfl
  have s1 : sp_0 C 1 0 = 0 := rfl
  have s7 : sp_0 C 7 0 = 0 := rfl
  have no : ∀ t, ¬ (1 ≤ t ∧ t ≤ sp_0 C 1 0) := fun t => by rw [s1]; omega
  refine ⟨?_, ?_, fun t ht => absurd ht (no t), ⟨fun t ht => absurd ht (no t), fun t ht => absurd ht (no t), fun t ht => absurd ht (no t), fun t ht => absurd ht (no t), fun t ht => absurd ht (no t), fun t ht => absurd ht (no t)⟩, fun k hk => ?_, ⟨fun t ht => absurd ht (no t), fun k hk => Or.inl ?_, fun k hk _ => ?_, fun t ht => absurd ht (no t), fun t ht => absurd ht (no t)⟩, ⟨fun k hk => ?_, fun t ht => absurd ht (no t)⟩, ⟨fun t ht => absurd ht (no t), fun t ht => absurd ht (no t), fun t ht => absurd ht (no t)⟩, ⟨fun r h1 h2 => ⟨rfl, fun z => absurd rfl z⟩, fun r => Nat.le_refl _, fun t ht => absurd ht (no t)⟩, ⟨fun t ht => absurd ht (no t), ⟨rfl, fun l h1 h2 => ⟨rfl, fun z => absurd rfl z⟩⟩, ⟨fun t => Nat.le_refl _, fun l h1 h2 => ⟨[], rfl, fun t => ⟨fun z => (by cases z), fun z => absurd z.1 (no t)⟩, List.Pairwise.nil⟩, fun t ht => absurd ht (no t)⟩, fun t ht => absurd ht (no t)⟩, ?_, ?_, ?_, ?_, ?_, fun r h1 h2 => ?_, ?_⟩
  · refine ⟨(b4 0 0).mpr (by omega), (b4 3 0).mpr (by omega), ⟨(b4 10 0).mpr (by omega), (b4 10 1).mpr (by omega), (b4 10 2).mpr (by omega), (b4 10 3).mpr (by omega)⟩, ⟨b3 10 0, b3 10 1, b3 10 2, b3 10 3⟩, fun k => ?_, fun l => ?_, fun r => ?_, fun t => ?_, fun k => ?_, fun k => ?_, fun k => ?_, fun j => ?_⟩
    · rw [b4, s0]
      omega
    · rw [b4]
      omega
    · rw [b4]
      omega
    · rw [b4, s1]
      omega
    · rw [b4, s1, s7]
      omega
    · rw [b4, show sp_0 C 32 0 = 0 from rfl]
      omega
    · rw [b4, show sp_0 C 35 0 = 0 from rfl]
      omega
    · rw [b4, s0]
      omega
  · refine ⟨⟨rfl, rfl, rfl, rfl, rfl, rfl, rfl⟩, ⟨rfl, rfl, rfl, rfl, rfl⟩, fun t => ?_, fun k hk => ?_, fun r hr => ?_, fun l hl => ?_⟩
    · exact (if_neg (no t)).symm
    · show (if k < C then k + 1 else 0) = k + 1
      exact if_pos hk
    · show (if r < 33 then r + 1 else 0) = r + 1
      rw [if_pos hr]
    · show (if l < 17 then l + 1 else 0) = l + 1
      rw [if_pos hl]
  · have hk' : k < C := hk
    refine ⟨?_, ?_, ?_, ?_⟩
    · show (if k < C then k else 0) = k
      rw [if_pos hk']
    · show (if k < C then k + 3 else 0) = k + 2 + 1
      rw [if_pos hk']
    · show (if k < C then 0 else 0) = 0
      rw [if_pos hk']
    · show (if k < C then 0 else 0) = 0
      rw [if_pos hk']
  · show (if k < C then 0 else 0) = 0
    split <;> rfl
  · show (if k < C then 0 else 0) = 0
    split <;> rfl
  · rw [s7] at hk
    omega
  · refine ⟨fun k hk => absurd hk (Nat.not_lt_zero k), rfl, rfl, fun z => absurd rfl z, [], rfl, fun k => ⟨fun z => (by cases z), fun z => absurd z.1 (Nat.not_lt_zero k)⟩, List.Pairwise.nil⟩
  · exact ⟨fun k hk => absurd hk (Nat.not_lt_zero k), [], rfl, fun k => ⟨fun z => (by cases z), fun z => absurd z.1 (Nat.not_lt_zero k)⟩, List.Pairwise.nil⟩
  · exact ⟨rfl, rfl, fun i hi => absurd hi (Nat.not_lt_zero i)⟩
  · refine ⟨⟨rfl, rfl⟩, fun k hk => ⟨?_, ?_, ?_⟩, fun k t hk ht => absurd ht (Nat.not_lt_zero t)⟩
    · show (if k + 2 = 0 then 1000 else if k + 2 = 1 then 50000 * C else if k + 2 < C + 2 then 50000 else 0) = 50000
      have hk' : k < C := hk
      rw [if_neg (by omega), if_neg (by omega), if_pos (by omega)]
    · show (if k + 2 = 0 then 0 else if k + 2 = 1 then 0 else if k + 2 < C + 2 then 0 else 0) = 0
      have hk' : k < C := hk
      rw [if_neg (by omega), if_neg (by omega), if_pos (by omega)]
    · show (if k < C then 0 else 0) = 0
      split <;> rfl
  · refine ⟨⟨by rw [s1]; omega, by rw [s0]; exact hC, by rw [s7]; omega, Nat.zero_le _, Nat.zero_le _, fun k hk => absurd hk (Nat.not_lt_zero k), fun k hk => absurd hk (Nat.not_lt_zero k), fun k hk => absurd hk (Nat.not_lt_zero k), fun i => by show (0 : Nat) < 65536; decide, Nat.zero_le _⟩, fun t ht => absurd ht (no t), fun t _ => ⟨rfl, rfl, rfl, rfl, rfl, rfl, rfl, rfl, rfl, rfl, rfl⟩⟩
  · rfl
  · intro K p i hK hd
    unfold cF
    by_cases y0 : K = 0
    · rw [if_pos y0]
      rw [if_neg (fun z => hd ((b4 K i).mpr (by omega)))]
    · rw [if_neg y0]
      by_cases y1 : K = 1
      · rw [if_pos y1, if_neg (fun z => hd ((b4 K i).mpr (by omega)))]
      · rw [if_neg y1]
        by_cases y5 : K = 5
        · rw [if_pos y5, if_neg (fun z => hd ((b4 K i).mpr (by omega))), if_neg (fun z => hd ((b4 K i).mpr (by omega))), if_neg (fun z => hd ((b4 K i).mpr (by omega)))]
        · rw [if_neg y5, if_neg (by omega)]
end TH
