/-! The numbers of a state (the reference's fields by number, places by index), and how the reference's memory holds them -/
abbrev ss_S : Type := Nat → Nat → Nat
def ss_u (σ : ss_S) (f i v : Nat) : ss_S := fun g j => if g = f then (if j = i then v else σ g j) else σ g j
theorem ss_us (σ : ss_S) (f i v : Nat) : ss_u σ f i v f i = v := by simp [ss_u]
theorem ss_uf (σ : ss_S) {f g : Nat} (i v j : Nat) (h : g ≠ f) : ss_u σ f i v g j = σ g j := by simp [ss_u, h]
theorem ss_ui (σ : ss_S) {i j : Nat} (f g v : Nat) (h : j ≠ i) : ss_u σ f i v g j = σ g j := by simp [ss_u, h]
theorem ss_ue (σ : ss_S) (f i v j : Nat) : ss_u σ f i v f j = if j = i then v else σ f j := by simp [ss_u]
/-- a field's kind of array (9: none), its length, its kind of number (0 int, 1 long, 9 none) -/
def rf_k (k : Nat) : Nat := [9, 9, 0, 0, 0, 2, 2, 9, 0, 0, 1, 0, 1, 0, 0, 1, 2, 0, 0, 2, 1, 9, 0, 1, 0, 0, 0, 1, 9, 9, 9, 9, 9, 0, 1, 9, 0, 1, 1, 9, 0, 0, 1, 9, 3].getD k 9
def rf_n (k : Nat) : Nat := [0, 0, 101, 101, 101, 101, 101, 0, 500, 500, 500, 101, 101, 101, 101, 101, 101, 101, 101, 101, 101, 0, 33, 33, 33, 17, 101, 101, 0, 0, 0, 0, 0, 500, 500, 0, 500, 500, 500, 0, 1000, 1000, 1000, 0, 400000].getD k 0
def rf_s (k : Nat) : Nat := [0, 0, 9, 9, 9, 9, 9, 0, 9, 9, 9, 9, 9, 9, 9, 9, 9, 9, 9, 9, 9, 1, 9, 9, 9, 9, 9, 9, 1, 0, 1, 0, 0, 9, 9, 0, 9, 9, 9, 0, 9, 9, 9, 1, 9].getD k 9
/-- what of a microsecond count is kept as left - 1 is kept so that -1 has a number -/
def rf_e (k v : Nat) : Int64 := if k = 15 then lN v - 1 else lN v
theorem rf_n_lt (k : Nat) : rf_n k < 2 ^ 31 := by
  unfold rf_n
  by_cases h : k < 45
  · have : ∀ k, k < 45 → ([0, 0, 101, 101, 101, 101, 101, 0, 500, 500, 500, 101, 101, 101, 101, 101, 101, 101, 101, 101, 101, 0, 33, 33, 33, 17, 101, 101, 0, 0, 0, 0, 0, 500, 500, 0, 500, 500, 500, 0, 1000, 1000, 1000, 0, 400000] : List Nat).getD k 0 < 2 ^ 31 := by decide
    exact this k h
  · rw [List.getD_eq_getElem?_getD, List.getElem?_eq_none (by simpa using h)]
    decide
def rf_R (m : Nat) (A : Nat → Nat) (σ : ss_S) (μ : mj_MM) : Prop :=
  mj_t μ m = 11 ∧ (∀ k, rf_k k < 9 → mj_r μ m k = some (A k) ∧ mj_t μ (A k) = 1000 + rf_k k ∧ mj_n μ (A k) = rf_n k) ∧ (∀ k k', rf_k k < 9 → rf_k k' < 9 → A k = A k' → k = k') ∧
  (∀ k i, rf_k k < 9 → rf_k k ≠ 1 → i < rf_n k → mj_i μ (A k) i = nI (σ k i)) ∧ (∀ k i, rf_k k = 1 → i < rf_n k → mj_l μ (A k) i = rf_e k (σ k i)) ∧
  (∀ k, rf_s k = 0 → mj_i μ m k = nI (σ k 0)) ∧ ∀ k, rf_s k = 1 → mj_l μ m k = lN (σ k 0)
/-- nothing but the reference's own numbers has changed -/
def rf_F (m : Nat) (A : Nat → Nat) (μ μ' : mj_MM) : Prop :=
  (∀ a, mj_t μ' a = mj_t μ a) ∧ (∀ a, mj_n μ' a = mj_n μ a) ∧ (∀ a k, mj_r μ' a k = mj_r μ a k) ∧ ∀ a k, a ≠ m → (∀ j, rf_k j < 9 → a ≠ A j) → mj_i μ' a k = mj_i μ a k ∧ mj_l μ' a k = mj_l μ a k
def rf_Q (m : Nat) (A : Nat → Nat) (σ : ss_S) (μ μ' : mj_MM) : Prop := rf_R m A σ μ' ∧ rf_F m A μ μ'
section RF
variable {m : Nat} {A : Nat → Nat} {σ : ss_S} {μ μ' : mj_MM}
theorem rf_R.self (h : rf_R m A σ μ) : rf_Q m A σ μ μ := ⟨h, fun _ => rfl, fun _ => rfl, fun _ _ => rfl, fun _ _ _ _ => ⟨rfl, rfl⟩⟩
theorem rf_Q.trans {σ' : ss_S} {μ2 : mj_MM} (h : rf_Q m A σ μ μ') (h2 : rf_Q m A σ' μ' μ2) : rf_Q m A σ' μ μ2 :=
  ⟨h2.1, fun a => (h2.2.1 a).trans (h.2.1 a), fun a => (h2.2.2.1 a).trans (h.2.2.1 a), fun a k => (h2.2.2.2.1 a k).trans (h.2.2.2.1 a k), fun a k h1 h3 => ⟨((h2.2.2.2.2 a k h1 h3).1).trans (h.2.2.2.2 a k h1 h3).1, ((h2.2.2.2.2 a k h1 h3).2).trans (h.2.2.2.2 a k h1 h3).2⟩⟩
theorem rf_Q.t (h : rf_Q m A σ μ μ') : mj_t μ' m = 11 := h.1.1
theorem rf_Q.r (h : rf_Q m A σ μ μ') (k : Nat) (hk : rf_k k < 9) : mj_r μ' m k = some (A k) := (h.1.2.1 k hk).1
theorem rf_Q.a (h : rf_Q m A σ μ μ') (k : Nat) (hk : rf_k k < 9) : mj_t μ' (A k) = 1000 + rf_k k := (h.1.2.1 k hk).2.1
theorem rf_Q.n (h : rf_Q m A σ μ μ') (k : Nat) (hk : rf_k k < 9) : mj_n μ' (A k) = rf_n k := (h.1.2.1 k hk).2.2
theorem rf_Q.v (h : rf_Q m A σ μ μ') (k : Nat) {i : Nat} (hk : rf_k k < 9) (hi : i < rf_n k) : vp_in (nI i) (mj_n μ' (A k)) := by
  rw [h.n k hk]
  exact vp_in_nI hi (rf_n_lt k)
theorem rf_Q.i (h : rf_Q m A σ μ μ') (k : Nat) {i : Nat} (hk : rf_k k < 9 ∧ rf_k k ≠ 1) (hi : i < rf_n k) : mj_i μ' (A k) i = nI (σ k i) := h.1.2.2.2.1 k i hk.1 hk.2 hi
theorem rf_Q.l (h : rf_Q m A σ μ μ') (k : Nat) {i : Nat} (hk : rf_k k = 1) (hi : i < rf_n k) : mj_l μ' (A k) i = rf_e k (σ k i) := h.1.2.2.2.2.1 k i hk hi
theorem rf_Q.si (h : rf_Q m A σ μ μ') (k : Nat) (hk : rf_s k = 0) : mj_i μ' m k = nI (σ k 0) := h.1.2.2.2.2.2.1 k hk
theorem rf_Q.sl (h : rf_Q m A σ μ μ') (k : Nat) (hk : rf_s k = 1) : mj_l μ' m k = lN (σ k 0) := h.1.2.2.2.2.2.2 k hk
theorem rf_Q.am (h : rf_Q m A σ μ μ') (k : Nat) (hk : rf_k k < 9) : m ≠ A k := fun e => by
  have h1 := h.t
  have h2 := h.a k hk
  rw [← e, h1] at h2
  omega
theorem rf_sk (k : Nat) (h : rf_s k < 9) : rf_k k = 9 := by
  by_cases hk : k < 45
  · have : ∀ k, k < 45 → rf_s k < 9 → rf_k k = 9 := by decide
    exact this k hk h
  · unfold rf_s at h
    rw [List.getD_eq_getElem?_getD, List.getElem?_eq_none (by simpa using hk)] at h
    exact absurd h (by decide)
theorem rf_Q.pI (h : rf_Q m A σ μ μ') (k i v : Nat) (hk : rf_k k < 9 ∧ rf_k k ≠ 1) (hi : i < rf_n k) : rf_Q m A (ss_u σ k i v) μ (mj_pI μ' (A k) i (nI v)) := by
  have hm := h.am k hk.1
  obtain ⟨⟨r1, r2, r3, r4, r5, r6, r7⟩, f1, f2, f3, f4⟩ := h
  refine ⟨⟨r1, r2, r3, fun k' i' a1 a2 a3 => ?_, fun k' i' a1 a3 => ?_, fun k' a1 => ?_, fun k' a1 => ?_⟩, f1, f2, f3, fun a k' a1 a2 => ?_⟩
  · by_cases e : A k' = A k
    · have := r3 k' k a1 hk.1 e
      subst this
      by_cases e2 : i' = i
      · subst e2
        rw [mj_sI, ss_us]
      · rw [ss_ui _ _ _ _ e2, ← r4 k' i' a1 a2 a3]
        exact mj_u_ne _ _ (fun q => e2 q.2)
    · rw [mj_ki e, r4 k' i' a1 a2 a3, ss_uf _ _ _ _ (fun q => e (by rw [q]))]
  · rw [ss_uf _ _ _ _ (fun q => hk.2 (by rw [← q]; exact a1))]
    exact r5 k' i' a1 a3
  · rw [mj_ki hm, r6 k' a1, ss_uf _ _ _ _ (fun q => by have := rf_sk k' (by omega); rw [q] at this; omega)]
  · rw [ss_uf _ _ _ _ (fun q => by have := rf_sk k' (by omega); rw [q] at this; omega)]
    exact r7 k' a1
  · exact ⟨(mj_ki (a2 k hk.1)).trans (f4 a k' a1 a2).1, (f4 a k' a1 a2).2⟩
theorem rf_Q.pL (h : rf_Q m A σ μ μ') (k i v : Nat) (hk : rf_k k = 1) (hi : i < rf_n k) : rf_Q m A (ss_u σ k i v) μ (mj_pL μ' (A k) i (rf_e k v)) := by
  have hk9 : rf_k k < 9 := by omega
  have hm := h.am k hk9
  obtain ⟨⟨r1, r2, r3, r4, r5, r6, r7⟩, f1, f2, f3, f4⟩ := h
  refine ⟨⟨r1, r2, r3, fun k' i' a1 a2 a3 => ?_, fun k' i' a1 a3 => ?_, fun k' a1 => ?_, fun k' a1 => ?_⟩, f1, f2, f3, fun a k' a1 a2 => ?_⟩
  · rw [ss_uf _ _ _ _ (fun q => a2 (by rw [q]; exact hk))]
    exact r4 k' i' a1 a2 a3
  · by_cases e : A k' = A k
    · have := r3 k' k (by omega) hk9 e
      subst this
      by_cases e2 : i' = i
      · subst e2
        rw [mj_sL, ss_us]
      · rw [ss_ui _ _ _ _ e2, ← r5 k' i' a1 a3]
        exact mj_u_ne _ _ (fun q => e2 q.2)
    · rw [mj_kl e, r5 k' i' a1 a3, ss_uf _ _ _ _ (fun q => e (by rw [q]))]
  · rw [ss_uf _ _ _ _ (fun q => by have := rf_sk k' (by omega); rw [q] at this; omega)]
    exact r6 k' a1
  · rw [mj_kl hm, r7 k' a1, ss_uf _ _ _ _ (fun q => by have := rf_sk k' (by omega); rw [q] at this; omega)]
  · exact ⟨(f4 a k' a1 a2).1, (mj_kl (a2 k hk9)).trans (f4 a k' a1 a2).2⟩
theorem rf_Q.sI (h : rf_Q m A σ μ μ') (k v : Nat) (hk : rf_s k = 0) : rf_Q m A (ss_u σ k 0 v) μ (mj_pI μ' m k (nI v)) := by
  have hm := fun k' hk' => h.am k' hk'
  have hne : ∀ k', rf_k k' < 9 → k' ≠ k := fun k' h1 e => by have := rf_sk k (by omega); rw [e] at h1; omega
  obtain ⟨⟨r1, r2, r3, r4, r5, r6, r7⟩, f1, f2, f3, f4⟩ := h
  refine ⟨⟨r1, r2, r3, fun k' i' a1 a2 a3 => ?_, fun k' i' a1 a3 => ?_, fun k' a1 => ?_, fun k' a1 => ?_⟩, f1, f2, f3, fun a k' a1 a2 => ?_⟩
  · rw [mj_ki (Ne.symm (hm k' a1)), ss_uf _ _ _ _ (hne k' a1)]
    exact r4 k' i' a1 a2 a3
  · rw [ss_uf _ _ _ _ (hne k' (by omega))]
    exact r5 k' i' a1 a3
  · by_cases e : k' = k
    · subst e
      rw [mj_sI, ss_us]
    · rw [ss_uf _ _ _ _ e, ← r6 k' a1]
      exact mj_u_ne _ _ (fun q => e q.2)
  · rw [ss_uf _ _ _ _ (fun q => by rw [q, hk] at a1; cases a1)]
    exact r7 k' a1
  · exact ⟨(mj_ki a1).trans (f4 a k' a1 a2).1, (f4 a k' a1 a2).2⟩
theorem rf_Q.sL (h : rf_Q m A σ μ μ') (k v : Nat) (hk : rf_s k = 1) : rf_Q m A (ss_u σ k 0 v) μ (mj_pL μ' m k (lN v)) := by
  have hm := fun k' hk' => h.am k' hk'
  have hne : ∀ k', rf_k k' < 9 → k' ≠ k := fun k' h1 e => by have := rf_sk k (by omega); rw [e] at h1; omega
  obtain ⟨⟨r1, r2, r3, r4, r5, r6, r7⟩, f1, f2, f3, f4⟩ := h
  refine ⟨⟨r1, r2, r3, fun k' i' a1 a2 a3 => ?_, fun k' i' a1 a3 => ?_, fun k' a1 => ?_, fun k' a1 => ?_⟩, f1, f2, f3, fun a k' a1 a2 => ?_⟩
  · rw [ss_uf _ _ _ _ (hne k' a1)]
    exact r4 k' i' a1 a2 a3
  · rw [mj_kl (Ne.symm (hm k' (by omega))), ss_uf _ _ _ _ (hne k' (by omega))]
    exact r5 k' i' a1 a3
  · rw [ss_uf _ _ _ _ (fun q => by rw [q, hk] at a1; cases a1)]
    exact r6 k' a1
  · by_cases e : k' = k
    · subst e
      rw [mj_sL, ss_us]
    · rw [ss_uf _ _ _ _ e, ← r7 k' a1]
      exact mj_u_ne _ _ (fun q => e q.2)
  · exact ⟨(f4 a k' a1 a2).1, (mj_kl a1).trans (f4 a k' a1 a2).2⟩
end RF
