/-- the ceilings are those of the parts -/
def r24 (σ : ss_S) : Prop := ∀ r, 1 ≤ r → r ≤ 32 → σ 24 r = cfc (σ 2) (σ 8) (σ 9) (σ 10) r (σ 7 0)
theorem sp_ht_spec (σ : ss_S) (t : Nat) : ∀ n, σ 2 t ≤ sp_ht σ t n ∧ (∀ r, 1 ≤ r → r ≤ n → σ 22 r = t → σ 24 r ≤ sp_ht σ t n) ∧ (sp_ht σ t n = σ 2 t ∨ ∃ r, (1 ≤ r ∧ r ≤ n) ∧ σ 22 r = t ∧ sp_ht σ t n = σ 24 r) := by
  intro n
  induction n with
  | zero => exact ⟨Nat.le_refl _, fun r h1 h2 => by omega, Or.inl rfl⟩
  | succ n ih =>
    obtain ⟨i1, i2, i3⟩ := ih
    unfold sp_ht
    split
    · rename_i h
      refine ⟨by omega, fun r h1 h2 h3 => ?_, Or.inr ⟨n + 1, by omega, h.1, rfl⟩⟩
      by_cases q : r = n + 1
      · rw [q]
        exact Nat.le_refl _
      · have := i2 r h1 (by omega) h3
        omega
    · rename_i h
      refine ⟨i1, fun r h1 h2 h3 => ?_, ?_⟩
      · by_cases q : r = n + 1
        · subst q
          apply Decidable.byContradiction
          intro z
          exact h ⟨h3, by omega⟩
        · exact i2 r h1 (by omega) h3
      · rcases i3 with z | ⟨r, z1, z2, z3⟩
        · exact Or.inl z
        · exact Or.inr ⟨r, by omega, z2, z3⟩
def hfold (f : Nat → Nat) : List Nat → Nat → Nat
  | [], a => a
  | r :: L, a => hfold f L (if a < f r then f r else a)
theorem hfold_spec (f : Nat → Nat) : ∀ (L : List Nat) (a : Nat), a ≤ hfold f L a ∧ (∀ r ∈ L, f r ≤ hfold f L a) ∧ (hfold f L a = a ∨ ∃ r ∈ L, hfold f L a = f r) := by
  intro L
  induction L with
  | nil => exact fun a => ⟨Nat.le_refl _, fun r h => (by cases h), Or.inl rfl⟩
  | cons x L ih =>
    intro a
    obtain ⟨i1, i2, i3⟩ := ih (if a < f x then f x else a)
    show a ≤ hfold f L _ ∧ (∀ r ∈ x :: L, f r ≤ hfold f L _) ∧ (hfold f L _ = a ∨ ∃ r ∈ x :: L, hfold f L _ = f r)
    by_cases q : a < f x
    · rw [if_pos q] at i1 i2 i3 ⊢
      refine ⟨by omega, fun r h => ?_, Or.inr ?_⟩
      · rcases List.mem_cons.mp h with z | z
        · rw [z]
          exact i1
        · exact i2 r z
      · rcases i3 with z | ⟨r, z1, z2⟩
        · exact ⟨x, List.mem_cons_self .., z⟩
        · exact ⟨r, List.mem_cons_of_mem _ z1, z2⟩
    · rw [if_neg q] at i1 i2 i3 ⊢
      refine ⟨i1, fun r h => ?_, ?_⟩
      · rcases List.mem_cons.mp h with z | z
        · rw [z]
          omega
        · exact i2 r z
      · rcases i3 with z | ⟨r, z1, z2⟩
        · exact Or.inl z
        · exact Or.inr ⟨r, List.mem_cons_of_mem _ z1, z2⟩
theorem sp_run_spec (σ : ss_S) (k : Nat) : ∀ n, (sp_run σ k n = 0 ∧ ∀ t, 1 ≤ t → t ≤ n → ¬ (σ 3 t = k ∧ σ 11 t = 2)) ∨ ((1 ≤ sp_run σ k n ∧ sp_run σ k n ≤ n) ∧ σ 3 (sp_run σ k n) = k ∧ σ 11 (sp_run σ k n) = 2) := by
  intro n
  induction n with
  | zero => exact Or.inl ⟨rfl, fun t h1 h2 => by omega⟩
  | succ n ih =>
    unfold sp_run
    split
    · rename_i h
      exact Or.inr ⟨by omega, h⟩
    · rename_i h
      rcases ih with z | z
      · refine Or.inl ⟨z.1, fun t h1 h2 => ?_⟩
        by_cases q : t = n + 1
        · rw [q]
          exact h
        · exact z.2 t h1 (by omega)
      · exact Or.inr ⟨by omega, z.2⟩
/-- one READY task against the best so far -/
def bstep (σ : ss_S) (was : Nat) (p : Nat × Nat) (t : Nat) : Nat × Nat :=
  if σ 11 t = 1 ∧ (p.2 < sp_height σ t + 1 ∨ (p.2 = sp_height σ t + 1 ∧ p.1 ≠ was ∧ σ 12 t < σ 12 p.1)) then (t, sp_height σ t + 1) else p
theorem sp_best_fold (σ : ss_S) (k was : Nat) : ∀ n, sp_best σ k was n = (onl (σ 3) k n).foldl (bstep σ was) (was, if 0 < was then sp_height σ was + 1 else 0) := by
  intro n
  induction n with
  | zero => rfl
  | succ n ih =>
    unfold sp_best onl
    by_cases q : σ 3 (n + 1) = k
    · rw [if_pos q, List.foldl_append, ← ih]
      show _ = bstep σ was (sp_best σ k was n) (n + 1)
      unfold bstep
      by_cases z : σ 11 (n + 1) = 1 ∧ ((sp_best σ k was n).2 < sp_height σ (n + 1) + 1 ∨ (sp_best σ k was n).2 = sp_height σ (n + 1) + 1 ∧ (sp_best σ k was n).1 ≠ was ∧ σ 12 (n + 1) < σ 12 (sp_best σ k was n).1)
      · rw [if_pos z, if_pos ⟨q, z⟩]
      · rw [if_neg z, if_neg (fun y => z y.2)]
    · rw [if_neg q, if_neg (fun y => q y.1), ih]
theorem onl_mem (s : Nat → Nat) (k : Nat) : ∀ n t, t ∈ onl s k n ↔ (1 ≤ t ∧ t ≤ n) ∧ s t = k := by
  intro n
  induction n with
  | zero =>
    intro t
    exact ⟨fun h => (by cases h), fun h => by omega⟩
  | succ n ih =>
    intro t
    unfold onl
    split
    · rename_i q
      rw [List.mem_append, ih, List.mem_singleton]
      refine ⟨fun h => ?_, fun h => ?_⟩
      · rcases h with h | h
        · exact ⟨by omega, h.2⟩
        · rw [h]
          exact ⟨by omega, q⟩
      · by_cases z : t = n + 1
        · exact Or.inr z
        · exact Or.inl ⟨by omega, h.2⟩
    · rename_i q
      rw [ih]
      refine ⟨fun h => ⟨by omega, h.2⟩, fun h => ⟨?_, h.2⟩⟩
      have : t ≠ n + 1 := fun z => by
        rw [z] at h
        exact q h.2
      omega
section CI
variable {G : mj_G} {B : cl_B} {e t0 t1 b : Nat} {σ : ss_S} {c : cc_S} {μ μ0 : mj_MM} {Ex : Option Value → mj_MM → Prop} {N S : Nat}
theorem REP.height (hP : REP B e t0 t1 σ c) (h24 : r24 σ) (t : Nat) (ht : 1 ≤ t ∧ t ≤ σ 1 0) (L : List Nat) (w2 : ∀ r, r ∈ L ↔ (1 ≤ r ∧ r ≤ 32) ∧ σ 22 r = t) : hfold (c 7 0) L (c 8 1 t) = sp_height σ t := by
  have e1 : c 8 1 t = σ 2 t := (hP.h2 t ht).2.1
  have ec : ∀ r, 1 ≤ r ∧ r ≤ 32 → c 7 0 r = σ 24 r := fun r hr => (hP.h15 r hr.1 hr.2).trans (h24 r hr.1 hr.2).symm
  obtain ⟨a1, a2, a3⟩ := sp_ht_spec σ t 32
  obtain ⟨b1, b2, b3⟩ := hfold_spec (c 7 0) L (c 8 1 t)
  unfold sp_height
  rw [e1] at b1 b2 b3 ⊢
  apply Nat.le_antisymm
  · rcases b3 with z | ⟨r, z1, z2⟩
    · omega
    · have := (w2 r).mp z1
      rw [z2, ec r this.1]
      exact a2 r this.1.1 this.1.2 this.2
  · rcases a3 with z | ⟨r, z1, z2, z3⟩
    · omega
    · rw [z3, ← ec r z1]
      exact b2 r ((w2 r).mpr ⟨z1, z2⟩)
theorem rl_heightC (hQ : cl_Q B c μ0 μ) (he : ∀ x : Int32, Ex (some (.int x)) μ → Ex (some (.int x)) μ) : ∀ (L : List Nat) (v a : Nat), a < 2 ^ 31 → ch (c 7 2) v L → (∀ r ∈ L, cL B 7 r) → Ex (some (.int (nI (hfold (c 7 0) L a)))) μ → mj_J G mY_K_height Ex N S 10 [(1, .int (nI a)), (2, va_rf (cl_ref B 7 v))] [] μ := by
  intro L
  induction L with
  | nil =>
    intro v a ha hc hl h
    have hv : v = 0 := hc
    subst hv
    exact bk_K_height_10 ⟨fun _ => h, fun b z => (by cases z)⟩
  | cons r L ih =>
    intro v a ha hc hl h
    obtain ⟨hv, hc⟩ := hc
    subst hv
    have hr := hl r (List.mem_cons_self ..)
    have b0 := hQ.b 7 0 r (by decide)
    refine bk_K_height_10 ⟨fun z => (by cases z), fun b z => ?_⟩
    cases z
    refine ⟨hQ.t7 hr, ?_⟩
    rw [hQ.i7_0 hr, hQ.r7_2 hr]
    have e : (if nI a < nI (c 7 0 r) then nI (c 7 0 r) else nI a) = nI (if a < c 7 0 r then c 7 0 r else a) := by
      by_cases q : a < c 7 0 r
      · rw [if_pos q, if_pos ((nI_ltI ha b0).mpr q)]
      · rw [if_neg q, if_neg (fun z => q ((nI_ltI ha b0).mp z))]
    rw [e]
    exact ih _ _ (by split <;> omega) hc (fun x hx => hl x (List.mem_cons_of_mem _ hx)) h
theorem lc_height (hQ : cl_Q B c μ0 μ) (hP : REP B e t0 t1 σ c) (h24 : r24 σ) (t : Nat) (ht : 1 ≤ t ∧ t ≤ σ 1 0) : mj_M G my_K_height mY_K_height [va_rf (some (cD B 8 t))] (mj_nc μ) (mj_ns μ) μ (mj_XI (fun x μ' => x = nI (sp_height σ t) ∧ μ' = μ)) := by
  have hkt := hP.k ht
  obtain ⟨L, w1, w2, w3⟩ := hP.h8.2.2 t ht
  have hL7 : ∀ r ∈ L, cL B 7 r := fun r hr => hP.re (by have := ((w2 r).mp hr).1; omega)
  refine mj_of (by decide) rfl (by decide) (Nat.le_of_ble_eq_true rfl) rfl ⟨Nat.le_refl _, Nat.le_refl _⟩ ?_
  refine bk_K_height_0 ⟨hQ.t8 hkt, ?_⟩
  rw [hQ.i8_1 hkt, hQ.r8_15 hkt]
  refine rl_heightC hQ (fun _ h => h) L _ _ (hQ.b 8 1 t (by decide)) w1 hL7 ?_
  rw [hP.height h24 t ht L w2]
  exact ⟨⟨_, rfl, rfl, rfl⟩, rfl, rfl⟩
theorem REP.height_lt (hQ : cl_Q B c μ0 μ) (hP : REP B e t0 t1 σ c) (h24 : r24 σ) (t : Nat) (ht : 1 ≤ t ∧ t ≤ σ 1 0) : sp_height σ t < 2 ^ 31 := by
  obtain ⟨L, w1, w2, w3⟩ := hP.h8.2.2 t ht
  rw [← hP.height h24 t ht L w2]
  rcases (hfold_spec (c 7 0) L (c 8 1 t)).2.2 with z | ⟨r, z1, z2⟩
  · rw [z]
    exact hQ.b 8 1 t (by decide)
  · rw [z2]
    exact hQ.b 7 0 r (by decide)
theorem lc_comesBefore (hQ : cl_Q B c μ0 μ) (hP : REP B e t0 t1 σ c) (h24 : r24 σ) (t s : Nat) (ht : 1 ≤ t ∧ t ≤ σ 1 0) (hs : 1 ≤ s ∧ s ≤ σ 1 0) : mj_M G my_K_comesBefore mY_K_comesBefore [va_rf (some (cD B 8 t)), va_rf (some (cD B 8 s))] (mj_nc μ) (mj_ns μ) μ (mj_XI (fun x μ' => x = (if sp_height σ s < sp_height σ t ∨ (sp_height σ s = sp_height σ t ∧ σ 11 s ≠ 2 ∧ σ 12 t < σ 12 s) then 1 else 0) ∧ μ' = μ)) := by
  have hkt := hP.k ht
  have hks := hP.k hs
  have b1 := REP.height_lt hQ hP h24 t ht
  have b2 := REP.height_lt hQ hP h24 s hs
  have e9 : c 8 9 s = σ 11 s := hP.h3.1 s hs
  have e10 : c 8 10 s = σ 12 s := hP.h3.2.1 s hs
  have e10t : c 8 10 t = σ 12 t := hP.h3.2.1 t ht
  have b9 := hQ.b 8 9 s (by decide)
  have b10 := hQ.b 8 10 s (by decide)
  have b10t := hQ.b 8 10 t (by decide)
  refine mj_of (by decide) rfl (by decide) (Nat.le_of_ble_eq_true rfl) rfl ⟨Nat.le_refl _, Nat.le_refl _⟩ ?_
  refine bk_K_comesBefore_0 ⟨hQ.t8 hkt, _, lc_height hQ hP h24 t ht, fun x μ1 h r1 r2 => ?_⟩
  obtain ⟨rfl, rfl⟩ := h
  refine bk_K_comesBefore_4 ⟨_, rfl, hQ.t8 hks, _, lc_height hQ hP h24 s hs, fun x μ1 h r1 r2 => ?_⟩
  obtain ⟨rfl, rfl⟩ := h
  refine bk_K_comesBefore_9 ?_
  rw [mj_lt b2 b1, mj_zz b1 b2]
  refine ⟨fun q => ?_, fun q => ⟨fun q2 => ?_, fun q2 => ⟨_, rfl, hQ.t8 hks, ?_⟩⟩⟩
  · rw [if_pos (Or.inl q)]
    exact ⟨⟨_, rfl, rfl, rfl⟩, rfl, rfl⟩
  · rw [if_neg (by omega)]
    exact ⟨⟨_, rfl, rfl, rfl⟩, rfl, rfl⟩
  · rw [hQ.i8_9 hks, hQ.i8_10 hks, hQ.i8_10 hkt, e9, e10, e10t, mj_z2 (by omega), mj_le (by omega) (by omega)]
    refine ⟨fun q3 => ?_, fun q3 => ⟨hQ.t8 hkt, fun q4 => ?_, fun q4 => ?_⟩⟩
    · rw [if_neg (by omega)]
      exact ⟨⟨_, rfl, rfl, rfl⟩, rfl, rfl⟩
    · rw [if_neg (by omega)]
      exact ⟨⟨_, rfl, rfl, rfl⟩, rfl, rfl⟩
    · rw [if_pos (by omega)]
      exact ⟨⟨_, rfl, rfl, rfl⟩, rfl, rfl⟩
theorem REP.run (hP : REP B e t0 t1 σ c) (k : Nat) (hk : k < σ 0 0) : c 1 4 k = enc (sp_running σ k) := by
  obtain ⟨h5a, h5b, h5c, h5d, h5e⟩ := hP.h5
  unfold sp_running
  rcases sp_run_spec σ k (σ 1 0) with z | z
  · rw [z.1]
    rcases h5b k hk with y | ⟨t, y1, y2, y3⟩
    · exact y
    · rw [← y3] at y2
      exact absurd ⟨y3, (h5a t y1).mpr y2⟩ (z.2 t y1.1 y1.2)
  · have := (h5a _ z.1).mp z.2.2
    rw [z.2.1] at this
    rw [this, enc_s (by omega)]
theorem r7.st (h : r7 t1 σ c) (t v : Nat) (h0 : σ 11 t ≠ 0) (hv : v ≠ 0) : r7 t1 (ss_u σ 11 t v) c := by
  obtain ⟨h7a, h7b, h7c⟩ := h
  have ee : ∀ t', ss_u σ 11 t v 11 t' ≠ 0 → σ 11 t' ≠ 0 := fun t' h => by
    rw [ss_ue] at h
    by_cases q : t' = t
    · rw [q]
      exact h0
    · rw [if_neg q] at h
      exact h
  have e0 : ∀ t', ss_u σ 11 t v 11 t' = 0 → σ 11 t' = 0 := fun t' h => by
    rw [ss_ue] at h
    by_cases q : t' = t
    · rw [if_pos q] at h
      exact absurd h hv
    · rw [if_neg q] at h
      exact h
  exact ⟨fun t' g1 g2 g3 => h7a t' g1 g2 (ee t' g3), fun t' g1 g2 => h7b t' g1 (g2.imp (e0 t') id), fun t' g1 g2 => h7c t' g1 (ee t' g2)⟩
theorem r9d.st (h : r9d σ) (t v : Nat) (hv : v ≠ 0) : r9d (ss_u σ 11 t v) := by
  intro t' ht' hs
  obtain ⟨g1, g2, g3⟩ := h t' ht' hs
  refine ⟨g1, ?_, g3⟩
  rw [ss_ue]
  split
  · exact hv
  · exact g2
theorem r14.st (h : r14 σ) (t v : Nat) (ht : t ≤ σ 1 0) : r14 (ss_u σ 11 t v) := by
  refine ⟨h.1, h.2.1, fun t' ht' => ?_⟩
  have q : t' ≠ t := fun q => by
    have : σ 1 0 < t' := ht'
    omega
  have this := h.2.2 t' ht'
  simp [ss_u, q]
  exact this
/-- the running task of a core is READY again -/
theorem REP.offR (hP : REP B e t0 t1 σ c) (t : Nat) (ht : 1 ≤ t ∧ t ≤ σ 1 0) (h11 : σ 11 t = 2) : REP B e t0 t1 (ss_u (ss_u σ 19 t 0) 11 t 1) (cc_u (cc_u (cc_u c 1 6 (σ 3 t) 0) 8 9 t 1) 1 4 (σ 3 t) 0) := by
  have hkt := hP.k ht
  have h3t := (hP.h2 t ht).2.2.2.2.2.2.2
  have hck := hP.co h3t
  obtain ⟨hb, h1, h2, ⟨h3a, h3b, h3c, h3d, h3e, h3f⟩, h4, h5, h6, h7, h8, ⟨h9a, h9b, h9c, h9d⟩, h10, h11', h12, h13, h14, h15, h16⟩ := hP
  have h5' : r5 (ss_u σ 19 t 0) (cc_u c 1 6 (σ 3 t) 0) := by
    obtain ⟨h5a, h5b, h5c, h5d, h5e⟩ := h5
    have hr := (h5a t ht).mp h11
    refine ⟨h5a, h5b, fun k hk hz => ?_, fun t' ht' hs => ?_, fun t' ht' hs => ?_⟩
    · show cc_u c 1 6 (σ 3 t) 0 1 6 k = 0
      rw [cc_ue]
      split
      · rfl
      · exact h5c k hk hz
    · show cc_u c 1 6 (σ 3 t) 0 1 6 (σ 3 t') = ss_u σ 19 t 0 19 t'
      rw [cc_ue, ss_ue]
      by_cases q : t' = t
      · rw [if_pos q, if_pos (by rw [q])]
      · have hr' := (h5a t' ht').mp hs
        rw [if_neg q, if_neg (fun z => by rw [z, hr] at hr'; omega)]
        exact h5d t' ht' hs
    · rw [ss_ue]
      split
      · rfl
      · exact h5e t' ht' hs
  have h14' : r14 (ss_u σ 19 t 0) := by
    refine ⟨h14.1, h14.2.1, fun t' ht' => ?_⟩
    have q : t' ≠ t := fun q => by
      have : σ 1 0 < t' := ht'
      omega
    have this := h14.2.2 t' ht'
    simp [ss_u, q]
    exact this
  refine ⟨hb, h1, h2, ⟨eq_u (K := 8) (p := 9) (f := 11) (c := cc_u c 1 6 (σ 3 t) 0) (σ := ss_u σ 19 t 0) (V := fun t => 1 ≤ t ∧ t ≤ σ 1 0) h3a t 1, h3b, h3c, h3d, h3e, h3f⟩, h4, r5.off (σ := ss_u σ 19 t 0) h5' t 1 ht h3t h11 (ss_us σ 19 t 0) (by decide), h6, r7.st (σ := ss_u σ 19 t 0) h7 t 1 (by show σ 11 t ≠ 0; omega) (by decide), h8, ⟨h9a, h9b, h9c, r9d.st (σ := ss_u σ 19 t 0) h9d t 1 (by decide)⟩, h10, h11', h12, h13, h14'.st t 1 ht.2, h15, ((h16.u 1 6 _ _ (Or.inl hck)).u 8 9 t _ (Or.inl hkt)).u 1 4 _ _ (Or.inl hck)⟩
/-- a READY task runs on a core where nobody runs -/
theorem REP.onR (hP : REP B e t0 t1 σ c) (t : Nat) (ht : 1 ≤ t ∧ t ≤ σ 1 0) (h11 : σ 11 t = 1) (h0 : c 1 4 (σ 3 t) = 0) : REP B e t0 t1 (ss_u σ 11 t 2) (cc_u (cc_u c 8 9 t 2) 1 4 (σ 3 t) (t + 1)) := by
  have hkt := hP.k ht
  have h3t := (hP.h2 t ht).2.2.2.2.2.2.2
  have hck := hP.co h3t
  obtain ⟨hb, h1, h2, ⟨h3a, h3b, h3c, h3d, h3e, h3f⟩, h4, h5, h6, h7, h8, ⟨h9a, h9b, h9c, h9d⟩, h10, h11', h12, h13, h14, h15, h16⟩ := hP
  have h5' : r5 (ss_u σ 11 t 2) (cc_u c 1 4 (σ 3 t) (t + 1)) := by
    obtain ⟨h5a, h5b, h5c, h5d, h5e⟩ := h5
    refine ⟨fun t' ht' => ?_, fun k hk => ?_, fun k hk hz => ?_, fun t' ht' hs => ?_, fun t' ht' hs => ?_⟩
    · show ss_u σ 11 t 2 11 t' = 2 ↔ cc_u c 1 4 (σ 3 t) (t + 1) 1 4 (σ 3 t') = t' + 1
      rw [ss_ue, cc_ue]
      by_cases q : t' = t
      · rw [if_pos q, if_pos (by rw [q]), q]
        exact ⟨fun _ => rfl, fun _ => rfl⟩
      · rw [if_neg q]
        by_cases q2 : σ 3 t' = σ 3 t
        · rw [if_pos q2, h5a t' ht', q2, h0]
          exact ⟨fun z => by omega, fun z => by omega⟩
        · rw [if_neg q2]
          exact h5a t' ht'
    · show cc_u c 1 4 (σ 3 t) (t + 1) 1 4 k = 0 ∨ ∃ t', (1 ≤ t' ∧ t' ≤ σ 1 0) ∧ cc_u c 1 4 (σ 3 t) (t + 1) 1 4 k = t' + 1 ∧ σ 3 t' = k
      rw [cc_ue]
      by_cases q : k = σ 3 t
      · rw [if_pos q]
        exact Or.inr ⟨t, ht, rfl, q.symm⟩
      · rw [if_neg q]
        exact h5b k hk
    · have hz2 : cc_u c 1 4 (σ 3 t) (t + 1) 1 4 k = 0 := hz
      rw [cc_ue] at hz2
      show c 1 6 k = 0
      by_cases q : k = σ 3 t
      · rw [if_pos q] at hz2
        omega
      · rw [if_neg q] at hz2
        exact h5c k hk hz2
    · have hs2 : ss_u σ 11 t 2 11 t' = 2 := hs
      rw [ss_ue] at hs2
      show c 1 6 (σ 3 t') = σ 19 t'
      by_cases q : t' = t
      · rw [q, h5c _ h3t h0]
        exact (h5e t ht (by omega)).symm
      · rw [if_neg q] at hs2
        exact h5d t' ht' hs2
    · have hs2 : ss_u σ 11 t 2 11 t' ≠ 2 := hs
      rw [ss_ue] at hs2
      by_cases q : t' = t
      · rw [if_pos q] at hs2
        exact absurd rfl hs2
      · rw [if_neg q] at hs2
        exact h5e t' ht' hs2
  exact ⟨hb, h1, h2, ⟨eq_u h3a t 2, h3b, h3c, h3d, h3e, h3f⟩, h4, h5', h6, h7.st t 2 (by omega) (by decide), h8, ⟨h9a, h9b, h9c, h9d.st t 2 (by decide)⟩, h10, h11', h12, h13, h14.st t 2 ht.2, h15, (h16.u 8 9 t _ (Or.inl hkt)).u 1 4 _ _ (Or.inl hck)⟩
/-- the runner stays, SCHEDULE is done with -/
theorem REP.stay (hP : REP B e t0 t1 σ c) (t : Nat) (ht : 1 ≤ t ∧ t ≤ σ 1 0) (h11 : σ 11 t = 2) : REP B e t0 t1 (ss_u σ 19 t 0) (cc_u c 1 6 (σ 3 t) 0) := by
  have h3t := (hP.h2 t ht).2.2.2.2.2.2.2
  have hck := hP.co h3t
  obtain ⟨hb, h1, h2, h3, h4, ⟨h5a, h5b, h5c, h5d, h5e⟩, h6, h7, h8, h9, h10, h11', h12, h13, h14, h15, h16⟩ := hP
  have hr := (h5a t ht).mp h11
  refine ⟨hb, h1, h2, h3, h4, ⟨h5a, h5b, fun k hk hz => ?_, fun t' ht' hs => ?_, fun t' ht' hs => ?_⟩, h6, h7, h8, h9, h10, h11', h12, h13, ⟨h14.1, h14.2.1, fun t' ht' => ?_⟩, h15, h16.u 1 6 _ _ (Or.inl hck)⟩
  · show cc_u c 1 6 (σ 3 t) 0 1 6 k = 0
    rw [cc_ue]
    split
    · rfl
    · exact h5c k hk hz
  · show cc_u c 1 6 (σ 3 t) 0 1 6 (σ 3 t') = ss_u σ 19 t 0 19 t'
    rw [cc_ue, ss_ue]
    by_cases q : t' = t
    · rw [if_pos q, if_pos (by rw [q])]
    · have hr' := (h5a t' ht').mp hs
      rw [if_neg q, if_neg (fun z => by rw [z, hr] at hr'; omega)]
      exact h5d t' ht' hs
  · rw [ss_ue]
    split
    · rfl
    · exact h5e t' ht' hs
  · have q : t' ≠ t := fun q => by
      have : σ 1 0 < t' := ht'
      omega
    have this := h14.2.2 t' ht'
    simp [ss_u, q]
    exact this
end CI
