theorem lg_pack {a b d : Nat} (ha : a < 2 ^ 20) (hb : b < 2 ^ 20) (hd : d < 2 ^ 20) : ((Int32.toInt64 (nI a)) <<< (Int32.toInt64 40 &&& 63) ||| (Int32.toInt64 (nI b)) <<< (Int32.toInt64 20 &&& 63)) ||| Int32.toInt64 (nI d) = lN (a * 2 ^ 40 + b * 2 ^ 20 + d) := by
  rw [nI_l (by omega), nI_l (by omega), nI_l (by omega)]
  have e1 : lN a <<< (Int32.toInt64 40 &&& 63) = lN (a * 2 ^ 40) := wb_shl a (k := 40) (by decide)
  have e2 : lN b <<< (Int32.toInt64 20 &&& 63) = lN (b * 2 ^ 20) := wb_shl b (k := 20) (by decide)
  rw [e1, e2, g_or (k := 40) (p := 2 ^ 40) (a := b * 2 ^ 20) (b := a) rfl (by omega) (by omega)]
  have e3 : a * 2 ^ 40 + b * 2 ^ 20 = (a * 2 ^ 20 + b) * 2 ^ 20 := by omega
  rw [e3, g_or (k := 20) (p := 2 ^ 20) rfl hd (by omega)]
/-- how many blocks hold so many rows -/
def lg_b (n : Nat) : Nat := (n + 511) / 512
/-- a log's row more -/
def lg_add (c : cc_S) (j x : Nat) : cc_S := cc_u (if c 5 2 j < c 5 1 j then cc_u c 20 j (c 5 2 j) x else c) 5 2 j (c 5 2 j + 1)
def lg_n (c : cc_S) (j : Nat) : Nat := if c 5 2 j < c 5 1 j ∧ c 5 2 j % 512 = 0 then 1 else 0
section LG
variable {G : mj_G} {B : cl_B} {c : cc_S} {μ μ0 : mj_MM} {Ex : Option Value → mj_MM → Prop} {N S : Nat}
theorem lg_add5 (j x p i : Nat) (h : p ≠ 2 ∨ i ≠ j) : lg_add c j x 5 p i = c 5 p i := by
  unfold lg_add
  have e : (if c 5 2 j < c 5 1 j then cc_u c 20 j (c 5 2 j) x else c) 5 p i = c 5 p i := by
    split
    · rfl
    · rfl
  rcases h with h | h
  · rw [cc_up _ _ _ _ _ _ h, e]
  · by_cases hp : p = 2
    · subst hp
      rw [cc_ui _ _ _ _ h, e]
    · rw [cc_up _ _ _ _ _ _ hp, e]
theorem lg_addK (j x K p i : Nat) (h : K ≠ 5 ∧ K ≠ 20) : lg_add c j x K p i = c K p i := by
  unfold lg_add
  rw [cc_uk _ _ _ _ _ _ h.1]
  split
  · rw [cc_uk _ _ _ _ _ _ h.2]
  · rfl
theorem lg_addC (j x : Nat) : lg_add c j x 5 2 j = c 5 2 j + 1 := cc_us _ _ _ _ _
theorem lg_add20 (j x j' i : Nat) : lg_add c j x 20 j' i = if j' = j ∧ i = c 5 2 j ∧ c 5 2 j < c 5 1 j then x else c 20 j' i := by
  unfold lg_add
  rw [cc_uk _ _ _ _ _ _ (by decide)]
  by_cases h : c 5 2 j < c 5 1 j
  · rw [if_pos h]
    by_cases h1 : j' = j
    · subst h1
      rw [cc_ue]
      by_cases h2 : i = c 5 2 j'
      · rw [if_pos h2, if_pos ⟨rfl, h2, h⟩]
      · rw [if_neg h2, if_neg (fun z => h2 z.2.1)]
    · rw [cc_up _ _ _ _ _ _ h1, if_neg (fun z => h1 z.1)]
  · rw [if_neg h, if_neg (fun z => h z.2.2)]
/-- the objects' part of the relation after a row more, the blocks given -/
theorem lg_keep (h : cl_R B c μ) (j x : Nat) (hj : cL B 5 j) (hc : c 5 2 j + 1 < 2 ^ 31) {μ' : mj_MM} (ht : ∀ a, mj_t μ a ≠ 0 → mj_t μ' a = mj_t μ a ∧ mj_n μ' a = mj_n μ a) (hi : ∀ a k, mj_t μ a ≠ 0 → (a ≠ cD B 5 j ∨ k ≠ 2) → mj_i μ' a k = mj_i μ a k) (hi2 : mj_i μ' (cD B 5 j) 2 = nI (c 5 2 j + 1))
    (hr : ∀ a k, mj_t μ a ≠ 0 → (∀ i, cL B 11 i → a ≠ cD B 11 i) → mj_r μ' a k = mj_r μ a k) (hg : lg_R B (lg_add c j x) μ') : cl_R B (lg_add c j x) μ' := by
  obtain ⟨a1, a2, a3, a4, a5, a6, a7, a8, a9, a10⟩ := h
  have tz : ∀ K i, cL B K i → mj_t μ (cD B K i) ≠ 0 := fun K i hl => by
    rw [a1 K i hl]
    unfold cl_tag
    split
    · omega
    · split <;> omega
  refine ⟨fun K i hl => ?_, a2, fun K i hl hk => ?_, fun K p i hl hp => ?_, fun K p i hl hp => ?_, fun j' i hl hn => ?_, hg, fun K p i hK => ?_, fun a ha => ?_, a10⟩
  · rw [(ht _ (tz K i hl)).1]
    exact a1 K i hl
  · rw [(ht _ (tz K i hl)).2]
    exact a3 K i hl hk
  · have hK := cl_isI_lt hp
    by_cases e : K = 5 ∧ p = 2 ∧ i = j
    · obtain ⟨rfl, rfl, rfl⟩ := e
      rw [hi2, lg_addC]
    · rw [hi _ _ (tz K i hl)]
      · by_cases e5 : K = 5
        · subst e5
          rw [lg_add5 _ _ _ _ (by omega)]
          exact a4 5 p i hl hp
        · rw [lg_addK _ _ _ _ _ ⟨e5, by omega⟩]
          exact a4 K p i hl hp
      · by_cases e2 : cD B K i = cD B 5 j
        · obtain ⟨rfl, rfl⟩ := a2 K i 5 j hl hj e2
          right
          intro e3
          exact e ⟨rfl, e3, rfl⟩
        · exact Or.inl e2
  · have hK := cl_tk_lt hp
    rw [hr _ _ (tz K i hl) (fun i' hl' e => by have := (a2 K i 11 i' hl hl' e).1; omega)]
    by_cases e5 : K = 5
    · subst e5
      have : p ≠ 2 := fun e => by subst e; exact absurd hp (by decide)
      rw [lg_add5 _ _ _ _ (Or.inl this)]
      exact a5 5 p i hl hp
    · rw [lg_addK _ _ _ _ _ ⟨e5, by omega⟩]
      exact a5 K p i hl hp
  · rw [hr _ _ (tz 10 j' hl) (fun i' hl' e => by have := (a2 10 j' 11 i' hl hl' e).1; omega), lg_addK _ _ _ _ _ (by decide)]
    exact a6 j' i hl hn
  · by_cases e5 : K = 5
    · subst e5
      by_cases e : p = 2 ∧ i = j
      · obtain ⟨rfl, rfl⟩ := e
        rw [lg_addC]
        exact hc
      · rw [lg_add5 _ _ _ _ (by omega)]
        exact a8 5 p i hK
    · rw [lg_addK _ _ _ _ _ ⟨e5, by omega⟩]
      exact a8 K p i hK
  · obtain ⟨z1, z2⟩ := a9 a ha
    exact ⟨by rw [(ht a z1).1]; exact z1, z2⟩
end LG
