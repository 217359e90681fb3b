def sumf (f : Nat → Nat) : Nat → Nat
  | 0 => 0
  | k + 1 => sumf f k + f k
theorem sumf_le (f : Nat → Nat) : ∀ k k', k ≤ k' → sumf f k ≤ sumf f k' := by
  intro k k'
  induction k' with
  | zero =>
    intro h
    rw [show k = 0 by omega]
    exact Nat.le_refl _
  | succ n ih =>
    intro h
    by_cases q : k = n + 1
    · rw [q]
      exact Nat.le_refl _
    · have := ih (by omega)
      show _ ≤ sumf f n + f n
      omega
theorem sumf_cg {f g : Nat → Nat} : ∀ n, (∀ k, k < n → f k = g k) → sumf f n = sumf g n := by
  intro n
  induction n with
  | zero => exact fun _ => rfl
  | succ n ih =>
    intro h
    show sumf f n + f n = sumf g n + g n
    rw [ih (fun k hk => h k (by omega)), h n (by omega)]
theorem sumf_add (f g : Nat → Nat) : ∀ n, sumf (fun k => f k + g k) n = sumf f n + sumf g n := by
  intro n
  induction n with
  | zero => rfl
  | succ n ih =>
    show sumf _ n + (f n + g n) = (sumf f n + f n) + (sumf g n + g n)
    rw [ih]
    omega
section WH
variable {w w' wh : Nat → Nat} {C n q : Nat}
theorem wbef_le (h1 : ∀ k, k < C → ∀ t, t < n → w' (50000 * k + t) = w (50000 * k + t)) {k t : Nat} (hk : k < C) (ht : t ≤ n) : wbef w' k t = wbef w k t := by
  unfold wbef
  split
  · rfl
  · rw [show 50000 * k + t - 1 = 50000 * k + (t - 1) by omega]
    exact h1 k hk (t - 1) (by omega)
theorem wsw_lt (h1 : ∀ k, k < C → ∀ t, t < n → w' (50000 * k + t) = w (50000 * k + t)) {k t : Nat} (hk : k < C) (ht : t < n) : wsw w' k t = wsw w k t := by
  unfold wsw
  rw [h1 k hk t ht, wbef_le h1 hk (Nat.le_of_lt ht)]
theorem wk_le (h1 : ∀ k, k < C → ∀ t, t < n → w' (50000 * k + t) = w (50000 * k + t)) {k : Nat} (hk : k < C) : ∀ t, t ≤ n → wk w' k t = wk w k t := by
  intro t
  induction t with
  | zero => exact fun _ => rfl
  | succ t ih =>
    intro ht
    show wk w' k t + wsw w' k t = wk w k t + wsw w k t
    rw [ih (by omega), wsw_lt h1 hk (by omega)]
theorem wc_lt (h1 : ∀ k, k < C → ∀ t, t < n → w' (50000 * k + t) = w (50000 * k + t)) {t : Nat} (ht : t < n) : ∀ k, k ≤ C → wc w' t k = wc w t k := by
  intro k
  induction k with
  | zero => exact fun _ => rfl
  | succ k ih =>
    intro hk
    show wc w' t k + wsw w' k t = wc w t k + wsw w k t
    rw [ih (by omega), wsw_lt h1 (by omega) ht]
theorem wa_le (h1 : ∀ k, k < C → ∀ t, t < n → w' (50000 * k + t) = w (50000 * k + t)) : ∀ t, t ≤ n → wa w' C t = wa w C t := by
  intro t
  induction t with
  | zero => exact fun _ => rfl
  | succ t ih =>
    intro ht
    show wa w' C t + wc w' t C = wa w C t + wc w t C
    rw [ih (by omega), wc_lt h1 (by omega) C (Nat.le_refl _)]
theorem wsw_n (h1 : ∀ k, k < C → ∀ t, t < n → w' (50000 * k + t) = w (50000 * k + t)) (h2 : ∀ k, k < C → ∀ t, n ≤ t → t < n + q → w' (50000 * k + t) = wh k) {k : Nat} (hk : k < C) (hq : 1 ≤ q) : wsw w' k n = if wh k = wbef w k n then 0 else 1 := by
  unfold wsw
  rw [h2 k hk n (Nat.le_refl _) (by omega), wbef_le h1 hk (Nat.le_refl _)]
theorem wbef_in (h2 : ∀ k, k < C → ∀ t, n ≤ t → t < n + q → w' (50000 * k + t) = wh k) {k t : Nat} (hk : k < C) (h3 : n < t) (h4 : t ≤ n + q) : wbef w' k t = wh k := by
  unfold wbef
  rw [if_neg (by omega), show 50000 * k + t - 1 = 50000 * k + (t - 1) by omega]
  exact h2 k hk (t - 1) (by omega) (by omega)
theorem wsw_in (h2 : ∀ k, k < C → ∀ t, n ≤ t → t < n + q → w' (50000 * k + t) = wh k) {k t : Nat} (hk : k < C) (h3 : n < t) (h4 : t < n + q) : wsw w' k t = 0 := by
  unfold wsw
  rw [h2 k hk t (by omega) h4, wbef_in h2 hk h3 (Nat.le_of_lt h4), if_pos rfl]
theorem wk_in (h1 : ∀ k, k < C → ∀ t, t < n → w' (50000 * k + t) = w (50000 * k + t)) (h2 : ∀ k, k < C → ∀ t, n ≤ t → t < n + q → w' (50000 * k + t) = wh k) {k : Nat} (hk : k < C) : ∀ j, 1 ≤ j → j ≤ q → wk w' k (n + j) = wk w k n + if wh k = wbef w k n then 0 else 1 := by
  intro j
  induction j with
  | zero => exact fun h => absurd h (by omega)
  | succ j ih =>
    intro _ hj
    show wk w' k (n + j) + wsw w' k (n + j) = _
    cases j with
    | zero => rw [Nat.add_zero, wk_le h1 hk n (Nat.le_refl _), wsw_n h1 h2 hk (by omega)]
    | succ j => rw [ih (by omega) (by omega), wsw_in h2 hk (by omega) (by omega), Nat.add_zero]
theorem wc_in (h2 : ∀ k, k < C → ∀ t, n ≤ t → t < n + q → w' (50000 * k + t) = wh k) {t : Nat} (h3 : n < t) (h4 : t < n + q) : ∀ k, k ≤ C → wc w' t k = 0 := by
  intro k
  induction k with
  | zero => exact fun _ => rfl
  | succ k ih =>
    intro hk
    show wc w' t k + wsw w' k t = 0
    rw [ih (by omega), wsw_in h2 (by omega) h3 h4]
theorem wa_in (h1 : ∀ k, k < C → ∀ t, t < n → w' (50000 * k + t) = w (50000 * k + t)) (h2 : ∀ k, k < C → ∀ t, n ≤ t → t < n + q → w' (50000 * k + t) = wh k) : ∀ j, 1 ≤ j → j ≤ q → wa w' C (n + j) = wa w C n + wc w' n C := by
  intro j
  induction j with
  | zero => exact fun h => absurd h (by omega)
  | succ j ih =>
    intro _ hj
    show wa w' C (n + j) + wc w' (n + j) C = _
    cases j with
    | zero => rw [Nat.add_zero, wa_le h1 n (Nat.le_refl _)]
    | succ j => rw [ih (by omega) (by omega), wc_in (t := n + (j + 1)) h2 (by omega) (by omega) C (Nat.le_refl _), Nat.add_zero]
end WH
theorem wsw_01 (w : Nat → Nat) (k t : Nat) : wsw w k t ≤ 1 := by
  unfold wsw
  split <;> omega
theorem wk_mono (w : Nat → Nat) (k : Nat) : ∀ t t', t ≤ t' → wk w k t ≤ wk w k t' := by
  intro t t'
  induction t' with
  | zero =>
    intro h
    rw [show t = 0 by omega]
    exact Nat.le_refl _
  | succ n ih =>
    intro h
    by_cases q : t = n + 1
    · rw [q]
      exact Nat.le_refl _
    · have := ih (by omega)
      show _ ≤ wk w k n + wsw w k n
      omega
theorem wk_bd (w : Nat → Nat) (k : Nat) : ∀ t, wk w k t ≤ t := by
  intro t
  induction t with
  | zero => exact Nat.le_refl _
  | succ t ih =>
    have := wsw_01 w k t
    show wk w k t + wsw w k t ≤ t + 1
    omega
theorem wc_mono (w : Nat → Nat) (t : Nat) : ∀ k k', k ≤ k' → wc w t k ≤ wc w t k' := by
  intro k k'
  induction k' with
  | zero =>
    intro h
    rw [show k = 0 by omega]
    exact Nat.le_refl _
  | succ n ih =>
    intro h
    by_cases q : k = n + 1
    · rw [q]
      exact Nat.le_refl _
    · have := ih (by omega)
      show _ ≤ wc w t n + wsw w n t
      omega
theorem wc_bd (w : Nat → Nat) (t : Nat) : ∀ k, wc w t k ≤ k := by
  intro k
  induction k with
  | zero => exact Nat.le_refl _
  | succ k ih =>
    have := wsw_01 w k t
    show wc w t k + wsw w k t ≤ k + 1
    omega
theorem wa_mono (w : Nat → Nat) (C : Nat) : ∀ t t', t ≤ t' → wa w C t ≤ wa w C t' := by
  intro t t'
  induction t' with
  | zero =>
    intro h
    rw [show t = 0 by omega]
    exact Nat.le_refl _
  | succ n ih =>
    intro h
    by_cases q : t = n + 1
    · rw [q]
      exact Nat.le_refl _
    · have := ih (by omega)
      show _ ≤ wa w C n + wc w n C
      omega
theorem wa_bd (w : Nat → Nat) (C : Nat) : ∀ t, wa w C t ≤ C * t := by
  intro t
  induction t with
  | zero => exact Nat.le_refl _
  | succ t ih =>
    have := wc_bd w t C
    show wa w C t + wc w t C ≤ C * (t + 1)
    rw [Nat.mul_succ]
    omega
/-- who runs in a stretch -/
theorem Qs_w1 (σ : ss_S) (C q : Nat) (h : σ 43 0 + q ≤ 50000) : ∀ k, k < C → ∀ t, t < σ 43 0 → Qs σ q C 44 (50000 * k + t) = σ 44 (50000 * k + t) := by
  intro k hk t ht
  rw [Qs_44, if_neg]
  intro z
  have : (50000 * k + t) % 50000 = t := by omega
  omega
theorem Qs_w2 (σ : ss_S) (C q : Nat) (h : σ 43 0 + q ≤ 50000) : ∀ k, k < C → ∀ t, σ 43 0 ≤ t → t < σ 43 0 + q → Qs σ q C 44 (50000 * k + t) = whoc σ k := by
  intro k hk t ht ht2
  have e1 : (50000 * k + t) % 50000 = t := by omega
  have e2 : (50000 * k + t) / 50000 = k := by omega
  rw [Qs_44, e1, e2, if_pos ⟨hk, ht, ht2⟩]
theorem nsw_wc (σ : ss_S) (C q : Nat) (h : σ 43 0 + q ≤ 50000) (hq : 1 ≤ q) : ∀ k, k ≤ C → wc (Qs σ q C 44) (σ 43 0) k = nsw σ k := by
  intro k
  induction k with
  | zero => exact fun _ => rfl
  | succ k ih =>
    intro hk
    show wc _ _ k + wsw _ k _ = nsw σ k + _
    rw [ih (by omega), wsw_n (Qs_w1 σ C q h) (Qs_w2 σ C q h) (by omega) hq]
    rfl
theorem nsw_bd (σ : ss_S) : ∀ k, nsw σ k ≤ k := by
  intro k
  induction k with
  | zero => exact Nat.le_refl _
  | succ k ih =>
    show nsw σ k + (if _ then 0 else 1) ≤ k + 1
    split <;> omega
theorem nsw_mono (σ : ss_S) : ∀ k k', k ≤ k' → nsw σ k ≤ nsw σ k' := by
  intro k k'
  induction k' with
  | zero =>
    intro h
    rw [show k = 0 by omega]
    exact Nat.le_refl _
  | succ n ih =>
    intro h
    by_cases q : k = n + 1
    · rw [q]
      exact Nat.le_refl _
    · have := ih (by omega)
      show _ ≤ nsw σ n + _
      omega
/-- the blocks of the logs -/
def BL (σ : ss_S) : Nat := bm (σ 39 0) + lg_b (wa (σ 44) (σ 0 0) (σ 43 0)) + sumf (fun k => lg_b (wk (σ 44) k (σ 43 0))) (σ 0 0)
/-- the blocks that a core's SWITCH makes -/
def wd (σ : ss_S) (k : Nat) : Nat := if whoc σ k = sp_before σ k then 0 else (if wk (σ 44) k (σ 43 0) % 512 = 0 then 1 else 0) + (if (wa (σ 44) (σ 0 0) (σ 43 0) + nsw σ k) % 512 = 0 then 1 else 0)
theorem lg_bs (x : Nat) : lg_b (x + 1) = lg_b x + if x % 512 = 0 then 1 else 0 := by
  unfold lg_b
  split <;> omega
theorem BL_Qs (σ : ss_S) (q : Nat) (h : σ 43 0 + q ≤ 50000) (hq : 1 ≤ q) : BL (Qs σ q (σ 0 0)) = BL σ + sumf (wd σ) (σ 0 0) := by
  have w1 := Qs_w1 σ (σ 0 0) q h
  have w2 := Qs_w2 σ (σ 0 0) q h
  unfold BL
  rw [Qs_43, Qs_o _ _ _ 39 0 (by decide), Qs_o _ _ _ 0 0 (by decide), wa_in w1 w2 q hq (Nat.le_refl _), nsw_wc σ (σ 0 0) q h hq _ (Nat.le_refl _)]
  have e1 : sumf (fun k => lg_b (wk (Qs σ q (σ 0 0) 44) k (σ 43 0 + q))) (σ 0 0) = sumf (fun k => lg_b (wk (σ 44) k (σ 43 0)) + (if whoc σ k = sp_before σ k then 0 else if wk (σ 44) k (σ 43 0) % 512 = 0 then 1 else 0)) (σ 0 0) := by
    refine sumf_cg _ (fun k hk => ?_)
    show lg_b (wk (Qs σ q (σ 0 0) 44) k (σ 43 0 + q)) = _
    rw [wk_in w1 w2 hk q hq (Nat.le_refl _)]
    show lg_b (wk (σ 44) k (σ 43 0) + if whoc σ k = sp_before σ k then 0 else 1) = _
    by_cases z : whoc σ k = sp_before σ k
    · rw [if_pos z, if_pos z]
      rfl
    · rw [if_neg z, if_neg z, lg_bs]
  have e2 : ∀ n, lg_b (wa (σ 44) (σ 0 0) (σ 43 0) + nsw σ n) = lg_b (wa (σ 44) (σ 0 0) (σ 43 0)) + sumf (fun k => if whoc σ k = sp_before σ k then 0 else if (wa (σ 44) (σ 0 0) (σ 43 0) + nsw σ k) % 512 = 0 then 1 else 0) n := by
    intro n
    induction n with
    | zero => rfl
    | succ n ih =>
      show lg_b (wa (σ 44) (σ 0 0) (σ 43 0) + (nsw σ n + if whoc σ n = sp_before σ n then 0 else 1)) = lg_b (wa (σ 44) (σ 0 0) (σ 43 0)) + (sumf _ n + if whoc σ n = sp_before σ n then 0 else if (wa (σ 44) (σ 0 0) (σ 43 0) + nsw σ n) % 512 = 0 then 1 else 0)
      by_cases z : whoc σ n = sp_before σ n
      · rw [if_pos z, if_pos z, Nat.add_zero, ih, Nat.add_zero]
      · rw [if_neg z, if_neg z, ← Nat.add_assoc, lg_bs, ih, Nat.add_assoc]
  have e3 : sumf (wd σ) (σ 0 0) = sumf (fun k => (if whoc σ k = sp_before σ k then 0 else if wk (σ 44) k (σ 43 0) % 512 = 0 then 1 else 0) + (if whoc σ k = sp_before σ k then 0 else if (wa (σ 44) (σ 0 0) (σ 43 0) + nsw σ k) % 512 = 0 then 1 else 0)) (σ 0 0) := by
    refine sumf_cg _ (fun k hk => ?_)
    unfold wd
    by_cases z : whoc σ k = sp_before σ k
    · rw [if_pos z, if_pos z, if_pos z]
    · rw [if_neg z, if_neg z, if_neg z]
  rw [e1, e2, e3, sumf_add, sumf_add]
  omega
