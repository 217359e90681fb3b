def lastw : List Nat → Nat → Nat
  | [], w => w
  | x :: L, _ => lastw L (x + 1)
theorem ch_app {f : Nat → Nat} {t : Nat} (h0 : f t = 0) : ∀ (L : List Nat) (v s w : Nat), ch f v L → L.Nodup → t ∉ L → L ≠ [] → lastw L w = s + 1 → s ∈ L ∧ ch (fun x => if x = s then t + 1 else f x) v (L ++ [t]) := by
  intro L
  induction L with
  | nil => exact fun v s w _ _ _ h => absurd rfl h
  | cons x L ih =>
    intro v s w hc hn ht _ hl
    obtain ⟨hv, hc⟩ := hc
    obtain ⟨n1, n2⟩ := List.nodup_cons.mp hn
    have htx : t ≠ x := fun z => ht (by rw [z]; exact List.mem_cons_self ..)
    have htL : t ∉ L := fun z => ht (List.mem_cons_of_mem _ z)
    cases L with
    | nil =>
      have hs : s = x := by
        have : x + 1 = s + 1 := hl
        omega
      subst hs
      refine ⟨List.mem_cons_self .., hv, ?_⟩
      show ch _ (if s = s then t + 1 else f s) [t]
      rw [if_pos rfl]
      refine ⟨rfl, ?_⟩
      show (if t = s then t + 1 else f t) = 0
      rw [if_neg htx]
      exact h0
    | cons y L =>
      obtain ⟨i1, i2⟩ := ih (f x) s (x + 1) hc n2 htL (by simp) hl
      refine ⟨List.mem_cons_of_mem _ i1, hv, ?_⟩
      show ch _ (if x = s then t + 1 else f x) _
      rw [if_neg (fun z => n1 (by rw [z]; exact i1))]
      exact i2
theorem sp_spin_f (σ : ss_S) (t x g j : Nat) (h : g ≠ 26 ∧ g ≠ 27 ∧ g ≠ 28) : sp_spin σ t x g j = σ g j := by
  unfold sp_spin
  rw [ss_uf _ _ _ _ h.2.1, ss_uf _ _ _ _ h.1, ss_uf _ _ _ _ h.2.2]
section CK
variable {G : mj_G} {B : cl_B} {e t0 t1 b : Nat} {σ : ss_S} {c : cc_S} {μ μ0 : mj_MM} {Ex : Option Value → mj_MM → Prop} {N S : Nat}
theorem rl_atHandC (hQ : cl_Q B c μ0 μ) (hP : REP B e t0 t1 σ c) : ∀ (L : List Nat) (v : Nat), ch (c 2 3) v L → (∀ k ∈ L, k < σ 35 0) → Ex (some (va_rf (cl_ref B 2 (ffst σ L)))) μ → mj_J G mY_U_atHand Ex N S 5 [(0, va_rf (some (cD B 3 0))), (1, .int (nI (σ 43 0))), (2, va_rf (cl_ref B 2 v))] [] μ := by
  have hu := hP.u
  have hnow : σ 43 0 ≤ 50000 := hP.v.2.2.2.2.2.2.2.2.2
  have eo : c 3 2 0 = enc (σ 29 0) := hP.h10.2.2.1
  intro L
  induction L with
  | nil =>
    intro v hc hl he
    have hv : v = 0 := hc
    subst hv
    exact bk_U_atHand_5 ⟨fun _ => he, fun b z => (by cases z)⟩
  | cons k L ih =>
    intro v hc hl he
    obtain ⟨hv, hc⟩ := hc
    subst hv
    have hk := hl k (List.mem_cons_self ..)
    have hik := hP.i hk
    obtain ⟨e0, e1, e2⟩ := hP.h10.1 k hk
    have b0 := hQ.b 2 0 k (by decide)
    have b1 := hQ.b 2 1 k (by decide)
    have nxt : ¬ (σ 37 k ≤ σ 43 0 ∧ (7 < σ 36 k ∨ σ 29 0 = 0)) → mj_J G mY_U_atHand Ex N S 5 [(0, va_rf (some (cD B 3 0))), (1, .int (nI (σ 43 0))), (2, va_rf (cl_ref B 2 (c 2 3 k)))] [] μ := fun q => by
      refine ih _ hc (fun x hx => hl x (List.mem_cons_of_mem _ hx)) ?_
      unfold ffst at he
      rw [if_neg q] at he
      exact he
    have fin : (σ 37 k ≤ σ 43 0 ∧ (7 < σ 36 k ∨ σ 29 0 = 0)) → Ex (some (va_rf (cl_ref B 2 (k + 1)))) μ := fun q => by
      unfold ffst at he
      rw [if_pos q] at he
      exact he
    refine bk_U_atHand_5 ⟨fun z => (by cases z), fun b z => ?_⟩
    cases z
    rw [hQ.i2_1 hik, hQ.r2_3 hik, hQ.i2_0 hik, hQ.r3_2 hu, e0, e1, mj_lt (by omega) (by omega), eo]
    refine ⟨hQ.t2 hik, fun q => nxt (by omega), fun q => ⟨hQ.t3 hu, fun q2 => fin ⟨by omega, Or.inr ?_⟩, fun b q2 => ?_⟩⟩
    · apply Decidable.byContradiction
      intro z
      rw [enc_s z] at q2
      cases q2
    · have h29 : σ 29 0 ≠ 0 := fun z => by
        rw [z] at q2
        cases q2
      rw [mj_c7, mj_le (by omega) (by decide)]
      exact ⟨fun q3 => nxt (by omega), fun q3 => fin ⟨by omega, Or.inl (by omega)⟩⟩
theorem lc_atHand (hQ : cl_Q B c μ0 μ) (hP : REP B e t0 t1 σ c) : mj_M G my_U_atHand mY_U_atHand [va_rf (some (cD B 3 0)), .int (nI (σ 43 0))] (mj_nc μ) (mj_ns μ) μ (mj_XR (fun x μ' => x = cl_ref B 2 (sp_atHand σ) ∧ μ' = μ)) := by
  have hu := hP.u
  obtain ⟨L, w1, w2, w3⟩ := hP.h10.2.2.2.2
  refine mj_of (by decide) rfl (by decide) (Nat.le_of_ble_eq_true rfl) rfl ⟨Nat.le_refl _, Nat.le_refl _⟩ ?_
  refine bk_U_atHand_0 ⟨hQ.t3 hu, ?_⟩
  rw [hQ.r3_0 hu]
  refine rl_atHandC hQ hP L _ w1 (fun k hk => ((w2 k).mp hk).1) ?_
  rw [ffst_hand w2 w3]
  exact ⟨⟨_, rfl, rfl, rfl⟩, rfl, rfl⟩
theorem rl_addQ (hQ : cl_Q B c μ0 μ) (t : Nat) (ht : cL B 8 t) (l : Nat) : ∀ (L : List Nat) (v w : Nat), ch (c 8 18) v L → (∀ x ∈ L, cL B 8 x) → (t ∈ L → Ex none μ) → (t ∉ L → mj_J G mY_L_addToQueue Ex N S 7 [(0, va_rf (some (cD B 4 l))), (1, va_rf (some (cD B 8 t))), (2, va_rf (cl_ref B 8 (lastw L w))), (3, va_rf none)] [] μ) →
    mj_J G mY_L_addToQueue Ex N S 7 [(0, va_rf (some (cD B 4 l))), (1, va_rf (some (cD B 8 t))), (2, va_rf (cl_ref B 8 w)), (3, va_rf (cl_ref B 8 v))] [] μ := by
  intro L
  induction L with
  | nil =>
    intro v w hc hl h1 h2
    have hv : v = 0 := hc
    subst hv
    exact h2 (by simp)
  | cons x L ih =>
    intro v w hc hl h1 h2
    obtain ⟨hv, hc⟩ := hc
    subst hv
    have hx := hl x (List.mem_cons_self ..)
    refine bk_L_addToQueue_7 ⟨fun z => (by cases z), fun b z => ?_⟩
    cases z
    have ei : (cl_ref B 8 (x + 1) = some (cD B 8 t)) = (x = t) := by
      rw [show some (cD B 8 t) = cl_ref B 8 (t + 1) from rfl, cl_ref_inj hQ.1 (Or.inr hx) (Or.inr ht)]
      apply propext
      omega
    rw [ei, hQ.r8_18 hx]
    refine ⟨fun q => ⟨hQ.t8 hx, ih (c 8 18 x) (x + 1) hc (fun y hy => hl y (List.mem_cons_of_mem _ hy)) (fun z => h1 (List.mem_cons_of_mem _ z)) (fun z => h2 (fun y => ?_))⟩, fun q => h1 (by rw [q]; exact List.mem_cons_self ..)⟩
    rcases List.mem_cons.mp y with y | y
    · exact q y.symm
    · exact z y
/-- a task goes to a lock's QUEUE -/
theorem REP.spin (hP : REP B e t0 t1 σ c) (t l k : Nat) (L : List Nat) (ht : 1 ≤ t ∧ t ≤ σ 1 0) (hl : 1 ≤ l ∧ l ≤ 16) (h26 : σ 26 t = 0) (h11 : σ 11 t ≠ 0) (h16' : σ 16 t = 0) (h15' : σ 15 t = 0) (h25 : σ 25 l ≠ 0) (h25' : σ 25 l ≠ t) (hk : pq (σ 8) (σ 7 0) t (σ 14 t) = k + 1) (hk9 : σ 9 k = 8) (hk10 : σ 10 k = l)
    (w1 : ch (c 8 18) (c 4 1 l) L) (w2 : ∀ t, t ∈ L ↔ (1 ≤ t ∧ t ≤ σ 1 0) ∧ σ 26 t = l) (w3 : L.Pairwise (fun a b => σ 27 a < σ 27 b)) (c' : cc_S) (hc' : (L = [] ∧ c' = cc_u c 4 1 l (t + 1)) ∨ ∃ s w, L ≠ [] ∧ lastw L w = s + 1 ∧ c' = cc_u c 8 18 s (t + 1)) : REP B e t0 t1 (sp_spin σ t l) c' := by
  have hkt := hP.k ht
  have hll := hP.lo (l := l) (by omega)
  have hke := fun s (hs : 1 ≤ s ∧ s ≤ σ 1 0) => hP.k hs
  obtain ⟨hb, h1, h2, h3, h4, h5, h6, h7, ⟨h8a, h8b, h8c⟩, ⟨h9a, h9b, h9c, h9d⟩, h10, h11', h12, h13, ⟨h14a, h14b, h14c⟩, h15, h16⟩ := hP
  have htL : t ∉ L := fun z => by
    have := ((w2 t).mp z).2
    omega
  have hnd : L.Nodup := w3.imp (fun {a b} h z => by rw [z] at h; exact Nat.lt_irrefl _ h)
  have hnx : c 8 18 t = 0 := h9c.2.2 t ht h26
  have n8 : r8 (sp_spin σ t l) c := ⟨h8a, fun r => Nat.le_succ_of_le (h8b r), h8c⟩
  have n14 : r14 (sp_spin σ t l) := by
    refine ⟨h14a, h14b, fun t' ht' => ?_⟩
    have q : t' ≠ t := fun q => by
      have : σ 1 0 < t' := ht'
      omega
    have this := h14c t' ht'
    simp [sp_spin, ss_u, q]
    exact this
  have n9d : r9d (sp_spin σ t l) := by
    intro t' ht' hs
    show ss_u σ 26 t l 26 t' ≤ 16 ∧ σ 11 t' ≠ 0 ∧ σ 16 t' = 0 ∧ σ 15 t' = 0 ∧ σ 25 (ss_u σ 26 t l 26 t') ≠ 0 ∧ σ 25 (ss_u σ 26 t l 26 t') ≠ t' ∧ ∃ k, pq (σ 8) (σ 7 0) t' (σ 14 t') = k + 1 ∧ σ 9 k = 8 ∧ σ 10 k = ss_u σ 26 t l 26 t'
    have hs' : ss_u σ 26 t l 26 t' ≠ 0 := hs
    rw [ss_ue] at hs' ⊢
    by_cases q : t' = t
    · rw [if_pos q, q]
      exact ⟨hl.2, h11, h16', h15', h25, h25', k, hk, hk9, hk10⟩
    · rw [if_neg q] at hs' ⊢
      exact h9d t' ht' hs'
  have n27 : ∀ t', ss_u σ 27 t (σ 28 0 + 1) 27 t' ≤ σ 28 0 + 1 := fun t' => by
    rw [ss_ue]
    have := h9c.1 t'
    split <;> omega
  have pw : ∀ L' : List Nat, L'.Pairwise (fun a b => σ 27 a < σ 27 b) → t ∉ L' → L'.Pairwise (fun a b => ss_u σ 27 t (σ 28 0 + 1) 27 a < ss_u σ 27 t (σ 28 0 + 1) 27 b) := fun L' h hn => h.imp_of_mem (fun {a b} ha hb h => by
    rw [ss_ui _ _ _ _ (fun z => hn (by rw [← z]; exact ha)), ss_ui _ _ _ _ (fun z => hn (by rw [← z]; exact hb))]
    exact h)
  have pwt : (L ++ [t]).Pairwise (fun a b => ss_u σ 27 t (σ 28 0 + 1) 27 a < ss_u σ 27 t (σ 28 0 + 1) 27 b) := by
    refine List.pairwise_append.mpr ⟨pw L w3 htL, List.pairwise_singleton _ _, fun a ha b hb => ?_⟩
    rw [List.mem_singleton.mp hb, ss_us, ss_ui _ _ _ _ (fun z => htL (by rw [← z]; exact ha))]
    have := h9c.1 a
    omega
  have mt : ∀ x, x ∈ L ++ [t] ↔ (1 ≤ x ∧ x ≤ σ 1 0) ∧ ss_u σ 26 t l 26 x = l := fun x => by
    rw [List.mem_append, List.mem_singleton, w2 x, ss_ue]
    by_cases q : x = t
    · rw [if_pos q, q]
      exact ⟨fun _ => ⟨ht, rfl⟩, fun _ => Or.inr rfl⟩
    · rw [if_neg q]
      exact ⟨fun z => z.resolve_right q, fun z => Or.inl z⟩
  have mo : ∀ (l' : Nat) (L' : List Nat), l' ≠ l → 1 ≤ l' → (∀ t, t ∈ L' ↔ (1 ≤ t ∧ t ≤ σ 1 0) ∧ σ 26 t = l') → (∀ x, x ∈ L' ↔ (1 ≤ x ∧ x ≤ σ 1 0) ∧ ss_u σ 26 t l 26 x = l') ∧ t ∉ L' := fun l' L' q ql h => by
    have hn : t ∉ L' := fun z => by
      have := ((h t).mp z).2
      omega
    refine ⟨fun x => ?_, hn⟩
    rw [h x, ss_ue]
    by_cases z : x = t
    · rw [if_pos z, z]
      exact ⟨fun y => absurd y.2 (by omega), fun y => absurd y.2.symm q⟩
    · rw [if_neg z]
  rcases hc' with ⟨hL, rfl⟩ | ⟨s, w, hL, hlw, rfl⟩
  · refine ⟨hb, h1, h2, h3, h4, h5, h6, h7, n8, ⟨h9a, h9b, ⟨n27, fun l' g1 g2 => ?_, fun t' ht' hs => ?_⟩, n9d⟩, h10, h11', h12, h13, n14, h15, h16.u 4 1 l _ (Or.inl hll)⟩
    · show ∃ L, ch (c 8 18) (cc_u c 4 1 l (t + 1) 4 1 l') L ∧ (∀ x, x ∈ L ↔ (1 ≤ x ∧ x ≤ σ 1 0) ∧ ss_u σ 26 t l 26 x = l') ∧ L.Pairwise (fun a b => ss_u σ 27 t (σ 28 0 + 1) 27 a < ss_u σ 27 t (σ 28 0 + 1) 27 b)
      by_cases q : l' = l
      · rw [q, cc_us]
        refine ⟨L ++ [t], ?_, mt, pwt⟩
        rw [hL]
        exact ⟨rfl, hnx⟩
      · obtain ⟨L', v1, v2, v3⟩ := h9c.2.1 l' g1 g2
        obtain ⟨m1, m2⟩ := mo l' L' q g1 v2
        rw [cc_ui _ _ _ _ q]
        exact ⟨L', v1, m1, pw L' v3 m2⟩
    · have hs' : ss_u σ 26 t l 26 t' = 0 := hs
      rw [ss_ue] at hs'
      by_cases q : t' = t
      · rw [if_pos q] at hs'
        omega
      · rw [if_neg q] at hs'
        exact h9c.2.2 t' ht' hs'
  · obtain ⟨a1, a2⟩ := ch_app hnx L _ s w w1 hnd htL hL hlw
    have hsv := (w2 s).mp a1
    have hks := hke s hsv.1
    refine ⟨hb, h1, h2, h3, h4, h5, h6, h7, n8, ⟨h9a, h9b, ⟨n27, fun l' g1 g2 => ?_, fun t' ht' hs => ?_⟩, n9d⟩, h10, h11', h12, h13, n14, h15, h16.u 8 18 s _ (Or.inl hks)⟩
    · show ∃ L, ch (cc_u c 8 18 s (t + 1) 8 18) (c 4 1 l') L ∧ (∀ x, x ∈ L ↔ (1 ≤ x ∧ x ≤ σ 1 0) ∧ ss_u σ 26 t l 26 x = l') ∧ L.Pairwise (fun a b => ss_u σ 27 t (σ 28 0 + 1) 27 a < ss_u σ 27 t (σ 28 0 + 1) 27 b)
      by_cases q : l' = l
      · rw [q]
        refine ⟨L ++ [t], ch_congr _ _ (fun x _ => cc_ue c 8 18 s (t + 1) x) a2, mt, pwt⟩
      · obtain ⟨L', v1, v2, v3⟩ := h9c.2.1 l' g1 g2
        obtain ⟨m1, m2⟩ := mo l' L' q g1 v2
        refine ⟨L', ch_congr _ _ (fun x hx => cc_ui _ _ _ _ (fun z => ?_)) v1, m1, pw L' v3 m2⟩
        have := ((v2 x).mp hx).2
        rw [z] at this
        exact q (this.symm.trans hsv.2)
    · have hs' : ss_u σ 26 t l 26 t' = 0 := hs
      rw [ss_ue] at hs'
      by_cases q : t' = t
      · rw [if_pos q] at hs'
        omega
      · rw [if_neg q] at hs'
        show cc_u c 8 18 s (t + 1) 8 18 t' = 0
        rw [cc_ui _ _ _ _ (fun z => by rw [z] at hs'; omega)]
        exact h9c.2.2 t' ht' hs'
/-- a LOCK whose lock another one has -/
theorem lc_addQ (hQ : cl_Q B c μ0 μ) (hP : REP B e t0 t1 σ c) (t l k : Nat) (ht : 1 ≤ t ∧ t ≤ σ 1 0) (hl : 1 ≤ l ∧ l ≤ 16) (h26 : σ 26 t = l ∨ (σ 26 t = 0 ∧ σ 11 t ≠ 0 ∧ σ 16 t = 0 ∧ σ 15 t = 0 ∧ σ 25 l ≠ 0 ∧ σ 25 l ≠ t ∧ pq (σ 8) (σ 7 0) t (σ 14 t) = k + 1 ∧ σ 9 k = 8 ∧ σ 10 k = l)) :
    mj_M G my_L_addToQueue mY_L_addToQueue [va_rf (some (cD B 4 l)), va_rf (some (cD B 8 t))] (mj_nc μ) (mj_ns μ) μ (mj_XV (fun μ' => CR B e t0 t1 (if σ 26 t = 0 then sp_spin σ t l else σ) μ0 μ')) := by
  have hll := hP.lo (l := l) (by omega)
  have hkt := hP.k ht
  have hT := hP.v.1
  obtain ⟨L, w1, w2, w3⟩ := hP.h9.2.2.1.2.1 l hl.1 hl.2
  have hL8 : ∀ x ∈ L, cL B 8 x := fun x hx => hP.k ((w2 x).mp hx).1
  refine mj_of (by decide) rfl (by decide) (Nat.le_of_ble_eq_true rfl) rfl ⟨Nat.le_refl _, Nat.le_refl _⟩ ?_
  refine bk_L_addToQueue_0 ⟨hQ.t4 hll, ?_⟩
  rw [hQ.r4_1 hll]
  refine rl_addQ hQ t hkt l L (c 4 1 l) 0 w1 hL8 (fun z => ?_) (fun z => ?_)
  · have := ((w2 t).mp z).2
    rw [if_neg (by omega)]
    exact ⟨⟨rfl, c, hQ, hP⟩, rfl, rfl⟩
  · have h0 : σ 26 t ≠ l := fun y => z ((w2 t).mpr ⟨ht, y⟩)
    obtain ⟨g1, g2, g3, g4, g5, g6, g7, g8, g9⟩ := h26.resolve_left h0
    rw [if_pos g1]
    have sp := hP.spin t l k L ht hl g1 g2 g3 g4 g5 g6 g7 g8 g9 w1 w2 w3
    refine bk_L_addToQueue_7 ⟨fun _ => ?_, fun b z => (by cases z)⟩
    cases hL : L with
    | nil =>
      refine ⟨fun _ => ⟨hQ.t4 hll, ⟨rfl, _, hQ.pR 4 1 l (t + 1) hll (by decide) (by omega) (Or.inr hkt), sp _ (Or.inl ⟨hL, rfl⟩)⟩, rfl, rfl⟩, fun b y => (by cases y)⟩
    | cons x L' =>
      have hne : L ≠ [] := by rw [hL]; simp
      obtain ⟨s, hs⟩ : ∃ s, lastw L 0 = s + 1 := by
        rw [hL]
        clear hL w1 w2 w3 hL8 z sp hne
        show ∃ s, lastw L' (x + 1) = s + 1
        induction L' generalizing x with
        | nil => exact ⟨x, rfl⟩
        | cons y L' ih => exact ih y
      have hsL := (ch_app (hP.h9.2.2.1.2.2 t ht g1) L _ s 0 w1 (w3.imp (fun {a b} h z => by rw [z] at h; exact Nat.lt_irrefl _ h)) z hne hs).1
      have hks := hL8 s hsL
      rw [← hL, hs]
      refine ⟨fun y => (by cases y), fun b y => ?_⟩
      cases y
      exact ⟨hQ.t8 hks, ⟨rfl, _, hQ.pR 8 18 s (t + 1) hks (by decide) (by omega) (Or.inr hkt), sp _ (Or.inr ⟨s, 0, hne, hs, rfl⟩)⟩, rfl, rfl⟩
/-- the state behind a look at a task's next part, and the task if the part is to be done now -/
def lk (τ : ss_S) (t : Nat) : ss_S × Nat :=
  if t = 0 ∨ τ 16 t ≠ 0 ∨ τ 26 t ≠ 0 then (τ, 0)
  else match sp_next τ t with
    | none => (τ, t)
    | some q => if τ 9 q = 0 then (τ, 0) else if τ 9 q = 8 ∧ τ 25 (τ 10 q) ≠ 0 ∧ τ 25 (τ 10 q) ≠ t then (sp_spin τ t (τ 10 q), 0) else (τ, t)
def sp_look (σ : ss_S) (k : Nat) : ss_S × Nat := if k = 0 ∧ sp_atHand σ ≠ 0 then (σ, 0) else lk (sp_choose σ k) (sp_chosen σ k)
theorem lc_starts (hQ : cl_Q B c μ0 μ) (hP : REP B e t0 t1 σ c) (t l k : Nat) (ht : 1 ≤ t ∧ t ≤ σ 1 0) (hl : 1 ≤ l ∧ l ≤ 16) (h26 : σ 26 t = l ∨ (σ 26 t = 0 ∧ σ 11 t ≠ 0 ∧ σ 16 t = 0 ∧ σ 15 t = 0 ∧ pq (σ 8) (σ 7 0) t (σ 14 t) = k + 1 ∧ σ 9 k = 8 ∧ σ 10 k = l)) :
    mj_M G my_T_startsToSpin mY_T_startsToSpin [va_rf (some (cD B 8 t)), va_rf (some (cD B 4 l))] (mj_nc μ) (mj_ns μ) μ (mj_XI (fun x μ' => (σ 25 l ≠ 0 ∧ σ 25 l ≠ t → x = 1 ∧ CR B e t0 t1 (if σ 26 t = 0 then sp_spin σ t l else σ) μ0 μ') ∧ (¬ (σ 25 l ≠ 0 ∧ σ 25 l ≠ t) → x = 0 ∧ μ' = μ))) := by
  have hll := hP.lo (l := l) (by omega)
  have hkt := hP.k ht
  have e1 := (hP.h9.2.1.2 l hl.1 hl.2).1
  refine mj_of (by decide) rfl (by decide) (Nat.le_of_ble_eq_true rfl) rfl ⟨Nat.le_refl _, Nat.le_refl _⟩ ?_
  refine bk_T_startsToSpin_0 ⟨fun z => (by cases z), fun b z => ?_⟩
  cases z
  have ei : (mj_r μ (cD B 4 l) 0 = some (cD B 8 t)) = (enc (σ 25 l) = t + 1) := by
    rw [hQ.r4_0 hll, show some (cD B 8 t) = cl_ref B 8 (t + 1) from rfl, cl_ref_inj hQ.1 (w := t + 1) (hQ.l4_0 hll) (Or.inr hkt), e1]
  rw [ei]
  rw [hQ.r4_0 hll, e1]
  by_cases q : σ 25 l = 0
  · rw [q]
    refine ⟨hQ.t4 hll, fun _ => ⟨⟨_, rfl, fun z => absurd rfl z.1, fun _ => ⟨rfl, rfl⟩⟩, rfl, rfl⟩, fun b z => (by cases z)⟩
  · rw [enc_s q]
    refine ⟨hQ.t4 hll, fun z => (by cases z), fun b _ => ⟨fun z => ?_, fun z => ⟨⟨_, rfl, fun y => absurd (by omega) y.2, fun _ => ⟨rfl, rfl⟩⟩, rfl, rfl⟩⟩⟩
    have hne : σ 25 l ≠ t := fun y => z (by omega)
    refine ⟨_, lc_addQ hQ hP t l k ht hl (h26.imp id (fun ⟨g1, g2, g3, g4, g5, g6, g7⟩ => ⟨g1, g2, g3, g4, q, hne, g5, g6, g7⟩)), fun μ' h r1 r2 => bk_T_startsToSpin_26 ⟨⟨_, rfl, fun _ => ⟨rfl, h⟩, fun y => absurd ⟨q, hne⟩ y⟩, r1, r2⟩⟩
end CK
