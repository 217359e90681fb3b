/-- what lay there stays as it was, but for the object m itself -/
def fr_N (m : Nat) (μ μ' : mj_MM) : Prop := ∀ a, mj_t μ a ≠ 0 → mj_t μ' a = mj_t μ a ∧ (a ≠ m → mj_n μ' a = mj_n μ a ∧ (∀ k, mj_i μ' a k = mj_i μ a k) ∧ (∀ k, mj_r μ' a k = mj_r μ a k) ∧ ∀ k, mj_l μ' a k = mj_l μ a k)
theorem fr_N.refl (m : Nat) (μ : mj_MM) : fr_N m μ μ := fun _ _ => ⟨rfl, fun _ => ⟨rfl, fun _ => rfl, fun _ => rfl, fun _ => rfl⟩⟩
theorem fr_N.trans {m : Nat} {μ μ1 μ2 : mj_MM} (h : fr_N m μ μ1) (h2 : fr_N m μ1 μ2) : fr_N m μ μ2 := by
  intro a ha
  obtain ⟨p1, p2⟩ := h a ha
  obtain ⟨q1, q2⟩ := h2 a (by rw [p1]; exact ha)
  refine ⟨q1.trans p1, fun hm => ?_⟩
  obtain ⟨p3, p4, p5, p6⟩ := p2 hm
  obtain ⟨q3, q4, q5, q6⟩ := q2 hm
  exact ⟨q3.trans p3, fun k => (q4 k).trans (p4 k), fun k => (q5 k).trans (p5 k), fun k => (q6 k).trans (p6 k)⟩
theorem fr_N.new {m a : Nat} {μ : mj_MM} (t n k j : Nat) (ha : mj_t μ a = 0) : fr_N m μ (mj_pR (mj_new μ a t n k) m j (some a)) := by
  intro b hb
  have hba : b ≠ a := fun e => hb (by rw [e]; exact ha)
  refine ⟨by show mj_w _ _ _ b = _; simp [mj_w, hba, mj_t], fun hm => ⟨by show mj_w _ _ _ b = _; simp [mj_w, hba, mj_n], fun k => ?_, fun k => ?_, fun k => ?_⟩⟩
  · simp [mj_i, mj_pR, mj_new, mj_w, hba]
  · rw [mj_kr hm]
    simp [mj_r, mj_new, mj_w, hba]
  · simp [mj_l, mj_pR, mj_new, mj_w, hba]
/-- the arrays of L made, all blank -/
def rf_I (m : Nat) (L : List Nat) (A : Nat → Nat) (μ : mj_MM) : Prop :=
  mj_t μ m = 11 ∧ (∀ k ∈ L, mj_r μ m k = some (A k) ∧ mj_t μ (A k) = 1000 + rf_k k ∧ mj_n μ (A k) = rf_n k ∧ (∀ i, mj_i μ (A k) i = 0) ∧ ∀ i, mj_l μ (A k) i = 0) ∧ (∀ k ∈ L, ∀ k' ∈ L, A k = A k' → k = k') ∧ (∀ k, mj_i μ m k = 0) ∧ ∀ k, mj_l μ m k = 0
theorem rf_I.new {m a k : Nat} {L : List Nat} {A : Nat → Nat} {μ : mj_MM} (h : rf_I m L A μ) (t n : Nat) (ht : t = 1000 + rf_k k) (hn : n = rf_n k) (hk : k ∉ L) (ha : mj_t μ a = 0) : rf_I m (k :: L) (mj_w A k a) (mj_pR (mj_new μ a t n n) m k (some a)) := by
  obtain ⟨h1, h2, h3, h4, h5⟩ := h
  have hma : m ≠ a := fun e => by rw [e, ha] at h1; cases h1
  have hA : ∀ j ∈ L, A j ≠ a := fun j hj e => by
    have := (h2 j hj).2.1
    rw [e, ha] at this
    omega
  have hkL : ∀ j ∈ L, j ≠ k := fun j hj e => hk (e ▸ hj)
  refine ⟨by show mj_w _ _ _ m = _; simp [mj_w, hma]; exact h1, fun j hj => ?_, fun j hj j' hj' e => ?_, fun j => ?_, fun j => ?_⟩
  · rcases List.mem_cons.mp hj with rfl | hj
    · have e : mj_w A j a j = a := by simp [mj_w]
      rw [e]
      refine ⟨mj_sR _ _ _ _, ?_, ?_, fun i => ?_, fun i => ?_⟩
      · show mj_w _ _ _ a = _
        simp [mj_w, ht]
      · show mj_w _ _ _ a = _
        simp [mj_w, hn]
      · exact mj_new0I μ a t n n i
      · exact mj_new0L μ a t n n i
    · have e : mj_w A k a j = A j := by simp [mj_w, hkL j hj]
      rw [e]
      obtain ⟨g1, g2, g3, g4, g5⟩ := h2 j hj
      have ej := hA j hj
      refine ⟨?_, ?_, ?_, fun i => ?_, fun i => ?_⟩
      · have : mj_r (mj_pR (mj_new μ a t n n) m k (some a)) m j = mj_r (mj_new μ a t n n) m j := mj_u_ne _ _ (fun q => hkL j hj q.2)
        rw [this]
        simp [mj_r, mj_new, mj_w, hma]
        exact g1
      · show mj_w _ _ _ (A j) = _
        simp [mj_w, ej]
        exact g2
      · show mj_w _ _ _ (A j) = _
        simp [mj_w, ej]
        exact g3
      · simp [mj_i, mj_pR, mj_new, mj_w, ej]
        exact g4 i
      · simp [mj_l, mj_pR, mj_new, mj_w, ej]
        exact g5 i
  · rcases List.mem_cons.mp hj with q | q
    · rcases List.mem_cons.mp hj' with q' | q'
      · exact q.trans q'.symm
      · subst q
        have e1 : mj_w A j a j = a := by simp [mj_w]
        have e2 : mj_w A j a j' = A j' := by simp [mj_w, hkL j' q']
        rw [e1, e2] at e
        exact absurd e.symm (hA j' q')
    · have e2 : mj_w A k a j = A j := by simp [mj_w, hkL j q]
      rcases List.mem_cons.mp hj' with q' | q'
      · subst q'
        have e1 : mj_w A j' a j' = a := by simp [mj_w]
        rw [e1, e2] at e
        exact absurd e (hA j q)
      · have e3 : mj_w A k a j' = A j' := by simp [mj_w, hkL j' q']
        rw [e2, e3] at e
        exact h3 j q j' q' e
  · simp [mj_i, mj_pR, mj_new, mj_w, hma]
    exact h4 j
  · simp [mj_l, mj_pR, mj_new, mj_w, hma]
    exact h5 j
/-- the numbers at the start -/
def sp_0 (c : Nat) : ss_S := fun f i => if f = 0 then (if i = 0 then c else 0) else if f = 15 then 1 else 0
def an_cores (v : Int) : Nat := if 1 ≤ v ∧ v ≤ 8 then v.toNat else 1
theorem rf_k_lt {k : Nat} (h : rf_k k < 9) : k ∈ [44, 42, 41, 40, 38, 37, 36, 34, 33, 27, 26, 25, 24, 23, 22, 20, 19, 18, 17, 16, 15, 14, 13, 12, 11, 10, 9, 8, 6, 5, 4, 3, 2] := by
  by_cases hk : k < 45
  · have : ∀ k, k < 45 → rf_k k < 9 → k ∈ [44, 42, 41, 40, 38, 37, 36, 34, 33, 27, 26, 25, 24, 23, 22, 20, 19, 18, 17, 16, 15, 14, 13, 12, 11, 10, 9, 8, 6, 5, 4, 3, 2] := by decide
    exact this k hk h
  · unfold rf_k at h
    rw [List.getD_eq_getElem?_getD, List.getElem?_eq_none (by simpa using hk)] at h
    exact absurd h (by decide)
theorem rf_I.R {m : Nat} {A : Nat → Nat} {μ : mj_MM} (c : Nat) (h : rf_I m [44, 42, 41, 40, 38, 37, 36, 34, 33, 27, 26, 25, 24, 23, 22, 20, 19, 18, 17, 16, 15, 14, 13, 12, 11, 10, 9, 8, 6, 5, 4, 3, 2] A μ) : rf_R m A (sp_0 c) (mj_pI μ m 0 (nI c)) := by
  obtain ⟨h1, h2, h3, h4, h5⟩ := h
  have hm : ∀ k, rf_k k < 9 → A k ≠ m := fun k hk e => by
    have := (h2 k (rf_k_lt hk)).2.1
    rw [e, h1] at this
    omega
  have hk0 : ∀ k, rf_k k < 9 → k ≠ 0 := fun k hk e => by rw [e] at hk; exact absurd hk (by decide)
  refine ⟨h1, fun k hk => ⟨(h2 k (rf_k_lt hk)).1, (h2 k (rf_k_lt hk)).2.1, (h2 k (rf_k_lt hk)).2.2.1⟩, fun k k' hk hk' e => h3 k (rf_k_lt hk) k' (rf_k_lt hk') e, fun k i hk hk1 _ => ?_, fun k i hk _ => ?_, fun k hk => ?_, fun k hk => ?_⟩
  · rw [mj_ki (hm k hk), (h2 k (rf_k_lt hk)).2.2.2.1 i]
    unfold sp_0
    have h15 : k ≠ 15 := fun e => by rw [e] at hk1; exact hk1 (by decide)
    rw [if_neg (hk0 k hk), if_neg h15]
    rfl
  · show mj_l μ (A k) i = _
    rw [(h2 k (rf_k_lt (by omega))).2.2.2.2 i]
    unfold sp_0 rf_e
    rw [if_neg (hk0 k (by omega))]
    split <;> decide
  · have h15 : k ≠ 15 := fun e => by rw [e] at hk; exact absurd hk (by decide)
    unfold sp_0
    by_cases e : k = 0
    · subst e
      rw [mj_sI, if_pos rfl, if_pos rfl]
    · rw [if_neg e, if_neg h15]
      have : mj_i (mj_pI μ m 0 (nI c)) m k = mj_i μ m k := mj_u_ne _ _ (fun q => e q.2)
      rw [this, h4]
      rfl
  · show mj_l μ m k = _
    have h15 : k ≠ 15 := fun e => by rw [e] at hk; exact absurd hk (by decide)
    have h0 : k ≠ 0 := fun e => by rw [e] at hk; exact absurd hk (by decide)
    unfold sp_0
    rw [h5, if_neg h0, if_neg h15]
    rfl
theorem mj_ncp (μ : mj_MM) (a t n k m j : Nat) (x : Option Nat) : mj_nc (mj_pR (mj_new μ a t n k) m j x) = mj_nc μ + 1 := rfl
theorem mj_nsp (μ : mj_MM) (a t n k m j : Nat) (x : Option Nat) : mj_ns (mj_pR (mj_new μ a t n k) m j x) = mj_ns μ + k := rfl
theorem mj_tpR (μ : mj_MM) (m j : Nat) (x : Option Nat) : mj_t (mj_pR μ m j x) = mj_t μ := rfl
theorem mj_tnw (μ : mj_MM) (a t n k : Nat) : mj_t (mj_new μ a t n k) = mj_w (mj_t μ) a t := rfl
section RO
variable {G : mj_G} {m : Nat} {A : Nat → Nat} {σ : ss_S} {μ μ0 : mj_MM} {Ex : Option Value → mj_MM → Prop} {N S : Nat}
theorem rc_init (ht : mj_t μ m = 11) (hi : ∀ k, mj_i μ m k = 0) (hl : ∀ k, mj_l μ m k = 0) (v : Int32) :
    mj_M G my_M_init mY_M_init [va_rf (some m), .int v] (mj_nc μ + 33) (mj_ns μ + 408833) μ (mj_XV (fun μ' => (∃ A, rf_R m A (sp_0 (an_cores v.toInt)) μ') ∧ fr_N m μ μ')) := by
  refine mj_of (by decide) rfl (by decide) (Nat.le_of_ble_eq_true rfl) rfl ⟨Nat.le_add_right _ _, Nat.le_add_right _ _⟩ ?_
  have i0 : rf_I m [] (fun _ => 0) μ := ⟨ht, fun k hk => (by cases hk), fun k hk => (by cases hk), hi, hl⟩
  have f0 := fr_N.refl m μ
  generalize hE : (fun (v_1 : Option Value) (μ' : mj_MM) => mj_XV (fun μ' => (∃ A, rf_R m A (sp_0 (an_cores v.toInt)) μ') ∧ fr_N m μ μ') v_1 μ' ∧ mj_nc μ' = mj_nc μ + 33 ∧ mj_ns μ' = mj_ns μ + 408833) = Ex
  refine bk_M_init_0 ⟨by omega, fun a1 g1 => ?_⟩
  have q1 := g1
  try simp only [mj_tnw] at q1
  have i1 := i0.new (k := 2) 1000 101 rfl rfl (by decide) (by (try simp only [mj_tnw, mj_tpR]); exact q1)
  have f1 := f0.trans (fr_N.new (m := m) 1000 101 101 2 (by (try simp only [mj_tnw, mj_tpR]); exact q1))
  refine ⟨by have q := i1.1; simp only [mj_tnw, mj_tpR] at q ⊢; exact q, by omega, fun a2 g2 => ?_⟩
  have q2 := g2
  try simp only [mj_tnw] at q2
  have i2 := i1.new (k := 3) 1000 101 rfl rfl (by decide) (by (try simp only [mj_tnw, mj_tpR]); exact q2)
  have f2 := f1.trans (fr_N.new (m := m) 1000 101 101 3 (by (try simp only [mj_tnw, mj_tpR]); exact q2))
  refine ⟨by omega, fun a3 g3 => ?_⟩
  have q3 := g3
  try simp only [mj_tnw] at q3
  have i3 := i2.new (k := 4) 1000 101 rfl rfl (by decide) (by (try simp only [mj_tnw, mj_tpR]); exact q3)
  have f3 := f2.trans (fr_N.new (m := m) 1000 101 101 4 (by (try simp only [mj_tnw, mj_tpR]); exact q3))
  refine ⟨by omega, fun a4 g4 => ?_⟩
  have q4 := g4
  try simp only [mj_tnw] at q4
  have i4 := i3.new (k := 5) 1002 101 rfl rfl (by decide) (by (try simp only [mj_tnw, mj_tpR]); exact q4)
  have f4 := f3.trans (fr_N.new (m := m) 1002 101 101 5 (by (try simp only [mj_tnw, mj_tpR]); exact q4))
  generalize hμ0 : mj_pR (mj_new (mj_pR (mj_new (mj_pR (mj_new (mj_pR (mj_new μ a1 1000 101 101) m 2 (some a1)) a2 1000 101 101) m 3 (some a2)) a3 1000 101 101) m 4 (some a3)) a4 1002 101 101) m 5 (some a4) = ν0 at i4 f4 ⊢
  have c0 : mj_nc ν0 = mj_nc μ + 4 := by rw [← hμ0]; simp only [mj_ncp]
  have d0 : mj_ns ν0 = mj_ns μ + 404 := by rw [← hμ0]; simp only [mj_nsp]
  clear hμ0
  refine bk_M_init_36 ⟨by omega, fun a5 g5 => ?_⟩
  have q5 := g5
  try simp only [mj_tnw] at q5
  have i5 := i4.new (k := 6) 1002 101 rfl rfl (by decide) (by (try simp only [mj_tnw, mj_tpR]); exact q5)
  have f5 := f4.trans (fr_N.new (m := m) 1002 101 101 6 (by (try simp only [mj_tnw, mj_tpR]); exact q5))
  refine ⟨by have q := i5.1; simp only [mj_tnw, mj_tpR] at q ⊢; exact q, by omega, fun a6 g6 => ?_⟩
  have q6 := g6
  try simp only [mj_tnw] at q6
  have i6 := i5.new (k := 8) 1000 500 rfl rfl (by decide) (by (try simp only [mj_tnw, mj_tpR]); exact q6)
  have f6 := f5.trans (fr_N.new (m := m) 1000 500 500 8 (by (try simp only [mj_tnw, mj_tpR]); exact q6))
  refine ⟨by omega, fun a7 g7 => ?_⟩
  have q7 := g7
  try simp only [mj_tnw] at q7
  have i7 := i6.new (k := 9) 1000 500 rfl rfl (by decide) (by (try simp only [mj_tnw, mj_tpR]); exact q7)
  have f7 := f6.trans (fr_N.new (m := m) 1000 500 500 9 (by (try simp only [mj_tnw, mj_tpR]); exact q7))
  refine ⟨by omega, fun a8 g8 => ?_⟩
  have q8 := g8
  try simp only [mj_tnw] at q8
  have i8 := i7.new (k := 10) 1001 500 rfl rfl (by decide) (by (try simp only [mj_tnw, mj_tpR]); exact q8)
  have f8 := f7.trans (fr_N.new (m := m) 1001 500 500 10 (by (try simp only [mj_tnw, mj_tpR]); exact q8))
  generalize hμ1 : mj_pR (mj_new (mj_pR (mj_new (mj_pR (mj_new (mj_pR (mj_new ν0 a5 1002 101 101) m 6 (some a5)) a6 1000 500 500) m 8 (some a6)) a7 1000 500 500) m 9 (some a7)) a8 1001 500 500) m 10 (some a8) = ν1 at i8 f8 ⊢
  have c1 : mj_nc ν1 = mj_nc μ + 8 := by rw [← hμ1]; simp only [mj_ncp]; omega
  have d1 : mj_ns ν1 = mj_ns μ + 2005 := by rw [← hμ1]; simp only [mj_nsp]; omega
  clear hμ1
  refine bk_M_init_71 ⟨by omega, fun a9 g9 => ?_⟩
  have q9 := g9
  try simp only [mj_tnw] at q9
  have i9 := i8.new (k := 11) 1000 101 rfl rfl (by decide) (by (try simp only [mj_tnw, mj_tpR]); exact q9)
  have f9 := f8.trans (fr_N.new (m := m) 1000 101 101 11 (by (try simp only [mj_tnw, mj_tpR]); exact q9))
  refine ⟨by have q := i9.1; simp only [mj_tnw, mj_tpR] at q ⊢; exact q, by omega, fun a10 g10 => ?_⟩
  have q10 := g10
  try simp only [mj_tnw] at q10
  have i10 := i9.new (k := 12) 1001 101 rfl rfl (by decide) (by (try simp only [mj_tnw, mj_tpR]); exact q10)
  have f10 := f9.trans (fr_N.new (m := m) 1001 101 101 12 (by (try simp only [mj_tnw, mj_tpR]); exact q10))
  refine ⟨by omega, fun a11 g11 => ?_⟩
  have q11 := g11
  try simp only [mj_tnw] at q11
  have i11 := i10.new (k := 13) 1000 101 rfl rfl (by decide) (by (try simp only [mj_tnw, mj_tpR]); exact q11)
  have f11 := f10.trans (fr_N.new (m := m) 1000 101 101 13 (by (try simp only [mj_tnw, mj_tpR]); exact q11))
  refine ⟨by omega, fun a12 g12 => ?_⟩
  have q12 := g12
  try simp only [mj_tnw] at q12
  have i12 := i11.new (k := 14) 1000 101 rfl rfl (by decide) (by (try simp only [mj_tnw, mj_tpR]); exact q12)
  have f12 := f11.trans (fr_N.new (m := m) 1000 101 101 14 (by (try simp only [mj_tnw, mj_tpR]); exact q12))
  generalize hμ2 : mj_pR (mj_new (mj_pR (mj_new (mj_pR (mj_new (mj_pR (mj_new ν1 a9 1000 101 101) m 11 (some a9)) a10 1001 101 101) m 12 (some a10)) a11 1000 101 101) m 13 (some a11)) a12 1000 101 101) m 14 (some a12) = ν2 at i12 f12 ⊢
  have c2 : mj_nc ν2 = mj_nc μ + 12 := by rw [← hμ2]; simp only [mj_ncp]; omega
  have d2 : mj_ns ν2 = mj_ns μ + 2409 := by rw [← hμ2]; simp only [mj_nsp]; omega
  clear hμ2
  refine bk_M_init_103 ⟨by omega, fun a13 g13 => ?_⟩
  have q13 := g13
  try simp only [mj_tnw] at q13
  have i13 := i12.new (k := 15) 1001 101 rfl rfl (by decide) (by (try simp only [mj_tnw, mj_tpR]); exact q13)
  have f13 := f12.trans (fr_N.new (m := m) 1001 101 101 15 (by (try simp only [mj_tnw, mj_tpR]); exact q13))
  refine ⟨by have q := i13.1; simp only [mj_tnw, mj_tpR] at q ⊢; exact q, by omega, fun a14 g14 => ?_⟩
  have q14 := g14
  try simp only [mj_tnw] at q14
  have i14 := i13.new (k := 16) 1002 101 rfl rfl (by decide) (by (try simp only [mj_tnw, mj_tpR]); exact q14)
  have f14 := f13.trans (fr_N.new (m := m) 1002 101 101 16 (by (try simp only [mj_tnw, mj_tpR]); exact q14))
  refine ⟨by omega, fun a15 g15 => ?_⟩
  have q15 := g15
  try simp only [mj_tnw] at q15
  have i15 := i14.new (k := 17) 1000 101 rfl rfl (by decide) (by (try simp only [mj_tnw, mj_tpR]); exact q15)
  have f15 := f14.trans (fr_N.new (m := m) 1000 101 101 17 (by (try simp only [mj_tnw, mj_tpR]); exact q15))
  refine ⟨by omega, fun a16 g16 => ?_⟩
  have q16 := g16
  try simp only [mj_tnw] at q16
  have i16 := i15.new (k := 18) 1000 101 rfl rfl (by decide) (by (try simp only [mj_tnw, mj_tpR]); exact q16)
  have f16 := f15.trans (fr_N.new (m := m) 1000 101 101 18 (by (try simp only [mj_tnw, mj_tpR]); exact q16))
  generalize hμ3 : mj_pR (mj_new (mj_pR (mj_new (mj_pR (mj_new (mj_pR (mj_new ν2 a13 1001 101 101) m 15 (some a13)) a14 1002 101 101) m 16 (some a14)) a15 1000 101 101) m 17 (some a15)) a16 1000 101 101) m 18 (some a16) = ν3 at i16 f16 ⊢
  have c3 : mj_nc ν3 = mj_nc μ + 16 := by rw [← hμ3]; simp only [mj_ncp]; omega
  have d3 : mj_ns ν3 = mj_ns μ + 2813 := by rw [← hμ3]; simp only [mj_nsp]; omega
  clear hμ3
  refine bk_M_init_135 ⟨by omega, fun a17 g17 => ?_⟩
  have q17 := g17
  try simp only [mj_tnw] at q17
  have i17 := i16.new (k := 19) 1002 101 rfl rfl (by decide) (by (try simp only [mj_tnw, mj_tpR]); exact q17)
  have f17 := f16.trans (fr_N.new (m := m) 1002 101 101 19 (by (try simp only [mj_tnw, mj_tpR]); exact q17))
  refine ⟨by have q := i17.1; simp only [mj_tnw, mj_tpR] at q ⊢; exact q, by omega, fun a18 g18 => ?_⟩
  have q18 := g18
  try simp only [mj_tnw] at q18
  have i18 := i17.new (k := 20) 1001 101 rfl rfl (by decide) (by (try simp only [mj_tnw, mj_tpR]); exact q18)
  have f18 := f17.trans (fr_N.new (m := m) 1001 101 101 20 (by (try simp only [mj_tnw, mj_tpR]); exact q18))
  refine ⟨by omega, fun a19 g19 => ?_⟩
  have q19 := g19
  try simp only [mj_tnw] at q19
  have i19 := i18.new (k := 22) 1000 33 rfl rfl (by decide) (by (try simp only [mj_tnw, mj_tpR]); exact q19)
  have f19 := f18.trans (fr_N.new (m := m) 1000 33 33 22 (by (try simp only [mj_tnw, mj_tpR]); exact q19))
  refine ⟨by omega, fun a20 g20 => ?_⟩
  have q20 := g20
  try simp only [mj_tnw] at q20
  have i20 := i19.new (k := 23) 1001 33 rfl rfl (by decide) (by (try simp only [mj_tnw, mj_tpR]); exact q20)
  have f20 := f19.trans (fr_N.new (m := m) 1001 33 33 23 (by (try simp only [mj_tnw, mj_tpR]); exact q20))
  generalize hμ4 : mj_pR (mj_new (mj_pR (mj_new (mj_pR (mj_new (mj_pR (mj_new ν3 a17 1002 101 101) m 19 (some a17)) a18 1001 101 101) m 20 (some a18)) a19 1000 33 33) m 22 (some a19)) a20 1001 33 33) m 23 (some a20) = ν4 at i20 f20 ⊢
  have c4 : mj_nc ν4 = mj_nc μ + 20 := by rw [← hμ4]; simp only [mj_ncp]; omega
  have d4 : mj_ns ν4 = mj_ns μ + 3081 := by rw [← hμ4]; simp only [mj_nsp]; omega
  clear hμ4
  refine bk_M_init_167 ⟨by omega, fun a21 g21 => ?_⟩
  have q21 := g21
  try simp only [mj_tnw] at q21
  have i21 := i20.new (k := 24) 1000 33 rfl rfl (by decide) (by (try simp only [mj_tnw, mj_tpR]); exact q21)
  have f21 := f20.trans (fr_N.new (m := m) 1000 33 33 24 (by (try simp only [mj_tnw, mj_tpR]); exact q21))
  refine ⟨by have q := i21.1; simp only [mj_tnw, mj_tpR] at q ⊢; exact q, by omega, fun a22 g22 => ?_⟩
  have q22 := g22
  try simp only [mj_tnw] at q22
  have i22 := i21.new (k := 25) 1000 17 rfl rfl (by decide) (by (try simp only [mj_tnw, mj_tpR]); exact q22)
  have f22 := f21.trans (fr_N.new (m := m) 1000 17 17 25 (by (try simp only [mj_tnw, mj_tpR]); exact q22))
  refine ⟨by omega, fun a23 g23 => ?_⟩
  have q23 := g23
  try simp only [mj_tnw] at q23
  have i23 := i22.new (k := 26) 1000 101 rfl rfl (by decide) (by (try simp only [mj_tnw, mj_tpR]); exact q23)
  have f23 := f22.trans (fr_N.new (m := m) 1000 101 101 26 (by (try simp only [mj_tnw, mj_tpR]); exact q23))
  refine ⟨by omega, fun a24 g24 => ?_⟩
  have q24 := g24
  try simp only [mj_tnw] at q24
  have i24 := i23.new (k := 27) 1001 101 rfl rfl (by decide) (by (try simp only [mj_tnw, mj_tpR]); exact q24)
  have f24 := f23.trans (fr_N.new (m := m) 1001 101 101 27 (by (try simp only [mj_tnw, mj_tpR]); exact q24))
  generalize hμ5 : mj_pR (mj_new (mj_pR (mj_new (mj_pR (mj_new (mj_pR (mj_new ν4 a21 1000 33 33) m 24 (some a21)) a22 1000 17 17) m 25 (some a22)) a23 1000 101 101) m 26 (some a23)) a24 1001 101 101) m 27 (some a24) = ν5 at i24 f24 ⊢
  have c5 : mj_nc ν5 = mj_nc μ + 24 := by rw [← hμ5]; simp only [mj_ncp]; omega
  have d5 : mj_ns ν5 = mj_ns μ + 3333 := by rw [← hμ5]; simp only [mj_nsp]; omega
  clear hμ5
  refine bk_M_init_199 ⟨by omega, fun a25 g25 => ?_⟩
  have q25 := g25
  try simp only [mj_tnw] at q25
  have i25 := i24.new (k := 33) 1000 500 rfl rfl (by decide) (by (try simp only [mj_tnw, mj_tpR]); exact q25)
  have f25 := f24.trans (fr_N.new (m := m) 1000 500 500 33 (by (try simp only [mj_tnw, mj_tpR]); exact q25))
  refine ⟨by have q := i25.1; simp only [mj_tnw, mj_tpR] at q ⊢; exact q, by omega, fun a26 g26 => ?_⟩
  have q26 := g26
  try simp only [mj_tnw] at q26
  have i26 := i25.new (k := 34) 1001 500 rfl rfl (by decide) (by (try simp only [mj_tnw, mj_tpR]); exact q26)
  have f26 := f25.trans (fr_N.new (m := m) 1001 500 500 34 (by (try simp only [mj_tnw, mj_tpR]); exact q26))
  refine ⟨by omega, fun a27 g27 => ?_⟩
  have q27 := g27
  try simp only [mj_tnw] at q27
  have i27 := i26.new (k := 36) 1000 500 rfl rfl (by decide) (by (try simp only [mj_tnw, mj_tpR]); exact q27)
  have f27 := f26.trans (fr_N.new (m := m) 1000 500 500 36 (by (try simp only [mj_tnw, mj_tpR]); exact q27))
  refine ⟨by omega, fun a28 g28 => ?_⟩
  have q28 := g28
  try simp only [mj_tnw] at q28
  have i28 := i27.new (k := 37) 1001 500 rfl rfl (by decide) (by (try simp only [mj_tnw, mj_tpR]); exact q28)
  have f28 := f27.trans (fr_N.new (m := m) 1001 500 500 37 (by (try simp only [mj_tnw, mj_tpR]); exact q28))
  generalize hμ6 : mj_pR (mj_new (mj_pR (mj_new (mj_pR (mj_new (mj_pR (mj_new ν5 a25 1000 500 500) m 33 (some a25)) a26 1001 500 500) m 34 (some a26)) a27 1000 500 500) m 36 (some a27)) a28 1001 500 500) m 37 (some a28) = ν6 at i28 f28 ⊢
  have c6 : mj_nc ν6 = mj_nc μ + 28 := by rw [← hμ6]; simp only [mj_ncp]; omega
  have d6 : mj_ns ν6 = mj_ns μ + 5333 := by rw [← hμ6]; simp only [mj_nsp]; omega
  clear hμ6
  refine bk_M_init_235 ⟨by omega, fun a29 g29 => ?_⟩
  have q29 := g29
  try simp only [mj_tnw] at q29
  have i29 := i28.new (k := 38) 1001 500 rfl rfl (by decide) (by (try simp only [mj_tnw, mj_tpR]); exact q29)
  have f29 := f28.trans (fr_N.new (m := m) 1001 500 500 38 (by (try simp only [mj_tnw, mj_tpR]); exact q29))
  refine ⟨by have q := i29.1; simp only [mj_tnw, mj_tpR] at q ⊢; exact q, by omega, fun a30 g30 => ?_⟩
  have q30 := g30
  try simp only [mj_tnw] at q30
  have i30 := i29.new (k := 40) 1000 1000 rfl rfl (by decide) (by (try simp only [mj_tnw, mj_tpR]); exact q30)
  have f30 := f29.trans (fr_N.new (m := m) 1000 1000 1000 40 (by (try simp only [mj_tnw, mj_tpR]); exact q30))
  refine ⟨by omega, fun a31 g31 => ?_⟩
  have q31 := g31
  try simp only [mj_tnw] at q31
  have i31 := i30.new (k := 41) 1000 1000 rfl rfl (by decide) (by (try simp only [mj_tnw, mj_tpR]); exact q31)
  have f31 := f30.trans (fr_N.new (m := m) 1000 1000 1000 41 (by (try simp only [mj_tnw, mj_tpR]); exact q31))
  refine ⟨by omega, fun a32 g32 => ?_⟩
  have q32 := g32
  try simp only [mj_tnw] at q32
  have i32 := i31.new (k := 42) 1001 1000 rfl rfl (by decide) (by (try simp only [mj_tnw, mj_tpR]); exact q32)
  have f32 := f31.trans (fr_N.new (m := m) 1001 1000 1000 42 (by (try simp only [mj_tnw, mj_tpR]); exact q32))
  refine ⟨by omega, fun a33 g33 => ?_⟩
  have q33 := g33
  try simp only [mj_tnw] at q33
  have i33 := i32.new (k := 44) 1003 400000 rfl rfl (by decide) (by (try simp only [mj_tnw, mj_tpR]); exact q33)
  have f33 := f32.trans (fr_N.new (m := m) 1003 400000 400000 44 (by (try simp only [mj_tnw, mj_tpR]); exact q33))
  generalize hμ7 : mj_pR (mj_new (mj_pR (mj_new (mj_pR (mj_new (mj_pR (mj_new (mj_pR (mj_new ν6 a29 1001 500 500) m 38 (some a29)) a30 1000 1000 1000) m 40 (some a30)) a31 1000 1000 1000) m 41 (some a31)) a32 1001 1000 1000) m 42 (some a32)) a33 1003 400000 400000) m 44 (some a33) = ν7 at i33 f33 ⊢
  have c7 : mj_nc ν7 = mj_nc μ + 33 := by rw [← hμ7]; simp only [mj_ncp]; omega
  have d7 : mj_ns ν7 = mj_ns μ + 408833 := by rw [← hμ7, mj_nsp, mj_nsp, mj_nsp, mj_nsp, mj_nsp]; omega
  clear hμ7
  have fin : ∀ c : Nat, c = an_cores v.toInt → Ex none (mj_pI ν7 m 0 (nI c)) := by
    intro c hc
    subst hc
    rw [← hE]
    refine ⟨⟨rfl, ⟨_, i33.R _⟩, ?_⟩, c7, d7⟩
    refine f33.trans fun b hb => ⟨rfl, fun hm => ⟨rfl, fun k => mj_ki hm, fun _ => rfl, fun _ => rfl⟩⟩
  unfold an_cores at fin
  refine ⟨fun q => fin 1 ?_, fun q => ⟨fun q2 => ?_, fun q2 => fin 1 ?_⟩⟩
  · rw [mj_iLT, show (1 : Int32).toInt = 1 from by decide] at q
    rw [if_neg (by omega)]
  · rw [mj_iLT, show (1 : Int32).toInt = 1 from by decide] at q
    rw [mj_iLE, show (8 : Int32).toInt = 8 from by decide] at q2
    obtain ⟨n, h1, rfl, h3⟩ := mj_nn (v := v) (by omega)
    exact fin n (by rw [if_pos (by omega), h3, Int.toNat_natCast])
  · rw [mj_iLE, show (8 : Int32).toInt = 8 from by decide] at q2
    rw [if_neg (by omega)]
end RO
