section PF
variable {b : Nat} {σ τ : ss_S}
theorem TB.up (h : TB b σ) (hV : sp_V τ) (hu : uq τ) (hB : sp_Bd b τ) (hs : ∀ f j, (f = 11 ∨ f = 14 ∨ f = 16 ∨ f = 17 ∨ f = 20 ∨ f = 26 ∨ f = 29 ∨ f = 30 ∨ f = 31 ∨ f = 43) → τ f j = σ f j) (g1 : gp τ) (g2 : gq τ) (h38 : ∀ k, k < τ 35 0 → τ 38 k ≤ 10000) : TB b τ := by
  obtain ⟨-, -, -, -, ⟨i1, i2, i3, i4, i5⟩, -, h7, h8⟩ := h
  refine ⟨hB, hV, g1, g2, ⟨fun i => ?_, hu, i9_cg i3 (fun f hf => hs f 0 (by omega)) (hs 43 0 (by decide)), fun t => ?_, fun t => ?_⟩, h38, fun t => ?_, fun z t => ?_⟩
  · rw [hs 17 i (by decide)]
    exact i1 i
  · rw [hs 16 t (by decide), hs 14 t (by decide)]
    exact i4 t
  · rw [hs 26 t (by decide), hs 16 t (by decide), hs 11 t (by decide)]
    exact i5 t
  · rw [hs 20 t (by decide), hs 43 0 (by decide)]
    exact h7 t
  · rw [hs 43 0 (by decide)] at z
    rw [hs 11 t (by decide)]
    exact h8 z t
theorem TB.task (h : TB b σ) (hb : 2 ^ 24 ≤ b) (r c a : Int) (e : Nat) (he : e < 2) (hV : sp_V (an_task σ r c a e).2) (hu : uq (an_task σ r c a e).2) : TB b (an_task σ r c a e).2 := by
  have hC := h.2.1.2.1
  have hT := h.2.1.1
  unfold an_task at hV hu ⊢
  split at hV
  · rename_i z1
    rw [if_pos z1] at hu ⊢
    split at hV
    · rename_i z2
      rw [if_pos z2] at hu ⊢
      split at hV
      · rename_i z3
        rw [if_pos z3] at hu ⊢
        split at hV
        · rename_i z4
          rw [if_pos z4] at hu ⊢
          exact h
        · rename_i z4
          rw [if_neg z4] at hu ⊢
          have f : ∀ f j, 7 ≤ f → an_new σ r.toNat c.toNat a.toNat e f j = σ f j := fun f j hf => by
            unfold an_new
            rw [ss_uf _ _ _ _ (by omega), ss_uf _ _ _ _ (by omega), ss_uf _ _ _ _ (by omega), ss_uf _ _ _ _ (by omega), ss_uf _ _ _ _ (by omega), ss_uf _ _ _ _ (by omega)]
          refine h.up hV hu ?_ (fun g j hg => f g j (by omega)) (h.2.2.1.cg (f 7 0 (by decide)) (fun j => f 9 j (by decide)) (fun j => f 10 j (by decide))) ?_ ?_
          · have B := h.1
            exact (((((B.u 1 0 (by omega)).u 2 _ (by omega)).u 3 _ (by omega)).u 4 _ (by omega)).u 5 _ (by omega)).u 6 _ (by omega)
          · intro k hk h9
            have hk' : k < σ 7 0 := by
              rw [← f 7 0 (by decide)]
              exact hk
            have h9' : σ 9 k = 9 := by
              rw [← f 9 k (by decide)]
              exact h9
            show an_new σ r.toNat c.toNat a.toNat e 10 k ≠ 0
            rw [f 10 k (by decide)]
            exact h.2.2.2.1 k hk' h9'
          · intro k hk
            show an_new σ r.toNat c.toNat a.toNat e 38 k ≤ 10000
            rw [f 38 k (by decide)]
            refine h.2.2.2.2.2.1 k ?_
            rw [← f 35 0 (by decide)]
            exact hk
      · rename_i z3
        rw [if_neg z3]
        exact h
    · rename_i z2
      rw [if_neg z2]
      exact h
  · rename_i z1
    rw [if_neg z1]
    exact h
theorem TB.part (h : TB b σ) (hb : 2 ^ 24 ≤ b) (t k v : Int) (hV : sp_V (an_part σ t k v).2) (hu : uq (an_part σ t k v).2) : TB b (an_part σ t k v).2 := by
  have hT := h.2.1.1
  have h7 := h.2.1.2.2.1
  unfold an_part at hV hu ⊢
  split at hV
  · rename_i z1
    rw [if_pos z1] at hu ⊢
    split at hV
    · rename_i z2
      rw [if_pos z2] at hu ⊢
      split at hV
      · rename_i z3
        rw [if_pos z3] at hu ⊢
        split at hV
        · rename_i z4
          rw [if_pos z4] at hu ⊢
          exact h
        · rename_i z4
          rw [if_neg z4] at hu ⊢
          have z2' : 0 ≤ k ∧ k ≤ 13 ∧ 0 ≤ v ∧ v < 6700000 ∧ (k = 8 ∨ k = 9 → 1 ≤ v) := by
            unfold an_good at z2
            omega
          have f : ∀ f j, f < 7 ∨ 10 < f → an_add σ t.toNat k.toNat v.toNat f j = σ f j := fun f j hf => by
            unfold an_add
            rw [ss_uf _ _ _ _ (by omega), ss_uf _ _ _ _ (by omega), ss_uf _ _ _ _ (by omega), ss_uf _ _ _ _ (by omega)]
          have e7 : an_add σ t.toNat k.toNat v.toNat 7 0 = σ 7 0 + 1 := ss_us _ _ _ _
          have e9 : ∀ j, an_add σ t.toNat k.toNat v.toNat 9 j = if j = σ 7 0 then k.toNat else σ 9 j := fun j => by
            unfold an_add
            rw [ss_uf _ _ _ _ (by decide), ss_uf _ _ _ _ (by decide), ss_ue]
            split
            · rfl
            · rw [ss_uf _ _ _ _ (by decide)]
          have e10 : ∀ j, an_add σ t.toNat k.toNat v.toNat 10 j = if j = σ 7 0 then v.toNat else σ 10 j := fun j => by
            unfold an_add
            rw [ss_uf _ _ _ _ (by decide), ss_ue]
            split
            · rfl
            · rw [ss_uf _ _ _ _ (by decide), ss_uf _ _ _ _ (by decide)]
          refine h.up hV hu ?_ (fun g j hg => f g j (by omega)) ?_ ?_ ?_
          · have B := h.1
            exact (((B.u 8 _ (by omega)).u 9 _ (by omega)).u 10 _ (by omega)).u 7 _ (by omega)
          · intro j hj h9
            have hj' : j < σ 7 0 + 1 := by
              rw [← e7]
              exact hj
            have h9' : (if j = σ 7 0 then k.toNat else σ 9 j) = 8 := by
              rw [← e9]
              exact h9
            show an_add σ t.toNat k.toNat v.toNat 10 j ≠ 0
            rw [e10]
            by_cases e : j = σ 7 0
            · rw [if_pos e] at h9' ⊢
              omega
            · rw [if_neg e] at h9' ⊢
              exact h.2.2.1 j (by omega) h9'
          · intro j hj h9
            have hj' : j < σ 7 0 + 1 := by
              rw [← e7]
              exact hj
            have h9' : (if j = σ 7 0 then k.toNat else σ 9 j) = 9 := by
              rw [← e9]
              exact h9
            show an_add σ t.toNat k.toNat v.toNat 10 j ≠ 0
            rw [e10]
            by_cases e : j = σ 7 0
            · rw [if_pos e] at h9' ⊢
              omega
            · rw [if_neg e] at h9' ⊢
              exact h.2.2.2.1 j (by omega) h9'
          · intro j hj
            show an_add σ t.toNat k.toNat v.toNat 38 j ≤ 10000
            rw [f 38 j (by decide)]
            refine h.2.2.2.2.2.1 j ?_
            rw [← f 35 0 (by decide)]
            exact hj
      · rename_i z3
        rw [if_neg z3]
        exact h
    · rename_i z2
      rw [if_neg z2]
      exact h
  · rename_i z1
    rw [if_neg z1]
    exact h
theorem TB.keep (h : TB b σ) (hV : sp_V τ) (hu : uq τ) (hB : sp_Bd b τ) (hs : ∀ f j, (7 ≤ f ∧ f ≤ 10) ∨ (f = 11 ∨ f = 14 ∨ f = 16 ∨ f = 17 ∨ f = 20 ∨ f = 26 ∨ f = 29 ∨ f = 30 ∨ f = 31 ∨ f = 43) → τ f j = σ f j) (h38 : ∀ k, k < τ 35 0 → τ 38 k ≤ 10000) : TB b τ := by
  refine h.up hV hu hB (fun f j hf => hs f j (Or.inr hf)) (h.2.2.1.cg (hs 7 0 (by decide)) (fun j => hs 9 j (by decide)) (fun j => hs 10 j (by decide))) (fun k hk h9 => ?_) h38
  rw [hs 7 0 (by decide)] at hk
  rw [hs 9 k (by decide)] at h9
  rw [hs 10 k (by decide)]
  exact h.2.2.2.1 k hk h9
theorem TB.manner (h : TB b σ) (hb : 2 ^ 24 ≤ b) (t : Int) (f : Nat) (hf : f < 2) (hV : sp_V (an_manner σ t f).2) (hu : uq (an_manner σ t f).2) : TB b (an_manner σ t f).2 := by
  unfold an_manner at hV hu ⊢
  split at hV
  · rename_i z1
    rw [if_pos z1] at hu ⊢
    split at hV
    · rename_i z2
      rw [if_pos z2] at hu ⊢
      refine h.keep hV hu (h.1.u 6 _ (by omega)) (fun g j hg => ss_uf _ _ _ _ (by omega)) (fun k hk => ?_)
      have hk' : k < σ 35 0 := hk
      exact h.2.2.2.2.2.1 k hk'
    · rename_i z2
      rw [if_neg z2]
      exact h
  · rename_i z1
    rw [if_neg z1]
    exact h
theorem TB.activate (h : TB b σ) (hb : 2 ^ 24 ≤ b) (t v : Int) (hV : sp_V (an_activate σ t v).2) (hu : uq (an_activate σ t v).2) : TB b (an_activate σ t v).2 := by
  have hT := h.2.1.1
  have hA := h.2.1.2.2.2.1
  unfold an_activate at hV hu ⊢
  split at hV
  · rename_i z1
    rw [if_pos z1] at hu ⊢
    split at hV
    · rename_i z2
      rw [if_pos z2] at hu ⊢
      split at hV
      · rename_i z3
        rw [if_pos z3] at hu ⊢
        exact h
      · rename_i z3
        rw [if_neg z3] at hu ⊢
        refine h.keep hV hu (((h.1.u 33 _ (by omega)).u 34 _ (by omega)).u 32 _ (by omega)) (fun g j hg => (ss_uf _ _ _ _ (by omega)).trans ((ss_uf _ _ _ _ (by omega)).trans (ss_uf _ _ _ _ (by omega)))) (fun k hk => ?_)
        have hk' : k < σ 35 0 := hk
        exact h.2.2.2.2.2.1 k hk'
    · rename_i z2
      rw [if_neg z2]
      exact h
  · rename_i z1
    rw [if_neg z1]
    exact h
theorem TB.interrupt (h : TB b σ) (hb : 2 ^ 24 ≤ b) (l v w : Int) (hV : sp_V (an_interrupt σ l v w).2) (hu : uq (an_interrupt σ l v w).2) : TB b (an_interrupt σ l v w).2 := by
  have hA := h.2.1.2.2.2.2.1
  unfold an_interrupt at hV hu ⊢
  split at hV
  · rename_i z1
    rw [if_pos z1] at hu ⊢
    split at hV
    · rename_i z2
      rw [if_pos z2] at hu ⊢
      exact h
    · rename_i z2
      rw [if_neg z2] at hu ⊢
      refine h.keep hV hu ((((h.1.u 36 _ (by omega)).u 37 _ (by omega)).u 38 _ (by omega)).u 35 _ (by omega)) (fun g j hg => (ss_uf _ _ _ _ (by omega)).trans ((ss_uf _ _ _ _ (by omega)).trans ((ss_uf _ _ _ _ (by omega)).trans (ss_uf _ _ _ _ (by omega))))) (fun k hk => ?_)
      have hk' : k < σ 35 0 + 1 := by
        have e : ss_u (ss_u (ss_u (ss_u σ 36 (σ 35 0) l.toNat) 37 (σ 35 0) v.toNat) 38 (σ 35 0) w.toNat) 35 0 (σ 35 0 + 1) 35 0 = σ 35 0 + 1 := ss_us _ _ _ _
        rw [← e]
        exact hk
      show ss_u (ss_u (ss_u (ss_u σ 36 (σ 35 0) l.toNat) 37 (σ 35 0) v.toNat) 38 (σ 35 0) w.toNat) 35 0 (σ 35 0 + 1) 38 k ≤ 10000
      rw [ss_uf _ _ _ _ (by decide), ss_ue]
      split
      · omega
      · rw [ss_uf _ _ _ _ (by decide), ss_uf _ _ _ _ (by decide)]
        exact h.2.2.2.2.2.1 k (by omega)
  · rename_i z1
    rw [if_neg z1]
    exact h
theorem TB.event (h : TB b σ) (hb : 2 ^ 24 ≤ b) (t e : Int) : TB (b + 1) (an_event σ t e).2 := by
  have h' : TB (b + 1) σ := ⟨h.1.mono (by omega), h.2⟩
  unfold an_event
  split
  · split
    · split
      · rename_i z1 z2 z3
        obtain ⟨h1, h2, h3, h4, h5, h6, h7, h8⟩ := h
        have he : e.toNat < 65536 := by omega
        have f : ∀ g j, (g ≠ 11 ∧ g ≠ 12 ∧ g ≠ 17 ∧ g ≠ 21) → sp_set σ t.toNat e.toNat g j = σ g j := fun g j hg => sp_set_f _ _ _ _ _ hg
        have hm := (mv.set σ t.toNat e.toNat he h5).1
        refine ⟨h1.set hb _ h5.1 he, h2.cg (fun g j hg => f g j (by omega)) hm.1, h3.cg (f 7 0 (by decide)) (fun j => f 9 j (by decide)) (fun j => f 10 j (by decide)), fun k hk h9 => ?_, hm, fun k hk => ?_, fun t' => ?_, fun z => ?_⟩
        · have hk : k < sp_set σ t.toNat e.toNat 7 0 := hk
          have h9 : sp_set σ t.toNat e.toNat 9 k = 9 := h9
          rw [f 7 0 (by decide)] at hk
          rw [f 9 k (by decide)] at h9
          show sp_set σ t.toNat e.toNat 10 k ≠ 0
          rw [f 10 k (by decide)]
          exact h4 k hk h9
        · have hk : k < sp_set σ t.toNat e.toNat 35 0 := hk
          rw [f 35 0 (by decide)] at hk
          show sp_set σ t.toNat e.toNat 38 k ≤ 10000
          rw [f 38 k (by decide)]
          exact h6 k hk
        · show sp_set σ t.toNat e.toNat 20 t' ≤ sp_set σ t.toNat e.toNat 43 0
          rw [f 20 t' (by decide), f 43 0 (by decide)]
          exact h7 t'
        · have z : sp_set σ t.toNat e.toNat 43 0 = 0 := z
          rw [f 43 0 (by decide)] at z
          exact absurd (h8 z t.toNat) z3.2
      · exact h'
    · exact h'
  · exact h'
theorem TB.zero (C : Nat) (hV : sp_V (sp_0 C)) : TB (2 ^ 24) (sp_0 C) := by
  have hC : C ≤ 8 := hV.2.1.2
  refine ⟨fun f i => ?_, hV, fun k hk => absurd hk (Nat.not_lt_zero k), fun k hk => absurd hk (Nat.not_lt_zero k), ⟨fun i => by show (0 : Nat) < 65536; decide, ⟨fun t t' v => ?_, fun t v => ?_⟩, fun z => absurd rfl z, fun t _ => rfl, fun t z => absurd rfl z⟩, fun k hk => absurd hk (Nat.not_lt_zero k), fun t => Nat.le_refl _, fun _ t => rfl⟩
  · unfold sp_0
    split
    · split
      · omega
      · decide
    · split
      · decide
      · decide
  · have v2 : t ≤ 0 := v.2
    omega
  · have v2 : t ≤ 0 := v.2
    omega
theorem BL_le (hV : sp_V σ) : BL σ ≤ 1600 := by
  have hC := hV.2.1.2
  have hn : σ 43 0 ≤ 50000 := hV.2.2.2.2.2.2.2.2.2
  unfold BL
  have b1 : bm (σ 39 0) ≤ 2 := by
    unfold bm lg_b
    split <;> omega
  have b2 : lg_b (wa (σ 44) (σ 0 0) (σ 43 0)) ≤ 782 := by
    have h1 := wa_bd (σ 44) (σ 0 0) (σ 43 0)
    have h2 : σ 0 0 * σ 43 0 ≤ 8 * 50000 := Nat.mul_le_mul hC hn
    unfold lg_b
    omega
  have b3 : ∀ C, sumf (fun k => lg_b (wk (σ 44) k (σ 43 0))) C ≤ 98 * C := by
    intro C
    induction C with
    | zero => exact Nat.le_refl _
    | succ C ih =>
      have h1 := wk_bd (σ 44) C (σ 43 0)
      have h2 : lg_b (wk (σ 44) C (σ 43 0)) ≤ 98 := by
        unfold lg_b
        omega
      show sumf (fun k => lg_b (wk (σ 44) k (σ 43 0))) C + lg_b (wk (σ 44) C (σ 43 0)) ≤ 98 * (C + 1)
      omega
  have := b3 (σ 0 0)
  omega
end PF
