section CC
variable {G : mj_G} {B : cl_B} {e t0 t1 b : Nat} {σ : ss_S} {c : cc_S} {μ μ0 : mj_MM} {Ex : Option Value → mj_MM → Prop} {N S : Nat}
theorem lcn_ow {σ : ss_S} {l v t : Nat} (h : σ 25 l ≠ t) (h2 : v ≠ t) : lcn (ss_u σ 25 l v 25) t 16 = lcn (σ 25) t 16 := by
  refine lcn_eq 16 fun j _ _ => ?_
  rw [ss_ue]
  split
  · rename_i q
    subst q
    exact ⟨fun z => absurd z h2, fun z => absurd z h⟩
  · exact Iff.rfl
/-- a lock without a queue is given back -/
theorem REP.un0 (hP : REP B e t0 t1 σ c) (l : Nat) (hl : 1 ≤ l ∧ l ≤ 16) (ho : σ 25 l = t0) (hq : ∀ t, 1 ≤ t ∧ t ≤ σ 1 0 → σ 26 t ≠ l) : REP B e t0 t1 (ss_u σ 25 l 0) (cc_u c 4 0 l 0) := by
  have hll := hP.lo (l := l) (by omega)
  obtain ⟨hb, h1, h2, h3, h4, h5, h6, h7, h8, ⟨h9a, h9b, h9c, h9d⟩, h10, h11, h12, h13, h14, h15, h16⟩ := hP
  refine ⟨hb, h1, h2, h3, h4, h5, h6, h7, h8, ⟨fun t ht hn => ?_, ⟨?_, fun l' g1 g2 => ?_⟩, h9c, fun t ht hs => ?_⟩, h10, h11, h12, h13, h14, h15, h16.u 4 0 l _ (Or.inl hll)⟩
  · rw [lcn_ow (by omega) (by omega)]
    exact h9a t ht hn
  · show cc_u c 4 0 l 0 4 0 0 = 0
    rw [cc_ui _ _ _ _ (by omega)]
    exact h9b.1
  · rw [cc_ue, ss_ue]
    by_cases q : l' = l
    · rw [if_pos q, if_pos q]
      exact ⟨rfl, fun z => absurd rfl z⟩
    · rw [if_neg q, if_neg q]
      exact h9b.2 l' g1 g2
  · obtain ⟨g1, g2, g3, g4, g5, g6, g7⟩ := h9d t ht hs
    have hne : σ 26 t ≠ l := hq t ht
    refine ⟨g1, g2, g3, g4, ?_, ?_, g7⟩
    · show ss_u σ 25 l 0 25 (σ 26 t) ≠ 0
      rw [ss_ui _ _ _ _ hne]
      exact g5
    · show ss_u σ 25 l 0 25 (σ 26 t) ≠ t
      rw [ss_ui _ _ _ _ hne]
      exact g6
theorem REP.un1 (hP : REP B e t0 t1 σ c) (l s k : Nat) (L : List Nat) (hl : 1 ≤ l ∧ l ≤ 16) (ho : σ 25 l = t0) (h0 : σ 26 t0 = 0) (h01 : t1 = 0 ∨ t1 = t0) (hc : ch (c 8 18) (c 4 1 l) (s :: L)) (hm : ∀ t, t ∈ s :: L ↔ (1 ≤ t ∧ t ≤ σ 1 0) ∧ σ 26 t = l) (hp : (s :: L).Pairwise (fun a b => σ 27 a < σ 27 b)) (hk : c 8 7 s = k + 1) :
    REP B e t0 t1 (ss_u (ss_u (ss_u (ss_u σ 25 l 0) 25 l s) 26 s 0) 14 s (σ 14 s + 1)) (cc_u (cc_u (cc_u (cc_u (cc_u c 4 0 l (s + 1)) 4 1 l (c 8 18 s)) 8 18 s 0) 8 16 s (c 8 16 s + 1)) 8 7 s (c 6 2 k)) := by
  have hll := hP.lo (l := l) (by omega)
  have hs := (hm s).mp (List.mem_cons_self ..)
  have hks := hP.k hs.1
  obtain ⟨hb, h1, h2, h3, h4, h5, h6, ⟨h7a, h7b, h7c⟩, h8, ⟨h9a, h9b, h9c, h9d⟩, h10, h11, h12, h13, ⟨h14a, h14b, h14c⟩, h15, h16⟩ := hP
  have hs0 : σ 26 s ≠ 0 := by omega
  obtain ⟨g1, g2, g3, g4, g5, g6, k', g7, g8, g9⟩ := h9d s hs.1 hs0
  have hst : s ≠ t0 := fun q => by
    rw [← q] at h0
    exact hs0 h0
  have hst1 : s ≠ t1 := by omega
  have e7 := h7a s hs.1 hst1 g2
  rw [if_pos g3, g7, hk] at e7
  have ek : k' = k := by omega
  subst ek
  obtain ⟨n1, n2, n3⟩ := pq_next g7
  have hnL : s ∉ L := fun q => by
    have := (List.pairwise_cons.mp hp).1 s q
    omega
  refine ⟨hb, h1, h2, h3, h4, h5, h6, ⟨fun t ht hn hs' => ?_, h7b, fun t ht q1 q2 q3 => ?_⟩, h8, ⟨fun t ht hn => ?_, ⟨?_, fun l' q1 q2 => ?_⟩, ⟨h9c.1, fun l' q1 q2 => ?_, fun t ht hs' => ?_⟩, fun t ht hs' => ?_⟩, h10, h11, h12, h13, ⟨h14a, h14b, fun t ht => ?_⟩, h15, ((((h16.u 4 0 l _ (Or.inl hll)).u 4 1 l _ (Or.inl hll)).u 8 18 s _ (Or.inl hks)).u 8 16 s _ (Or.inl hks)).u 8 7 s _ (Or.inl hks)⟩
  · show cc_u _ 8 7 s (c 6 2 k') 8 7 t = if σ 16 t = 0 then pq (σ 8) (σ 7 0) t (ss_u _ 14 s (σ 14 s + 1) 14 t) else 1000 + t + 1
    rw [cc_ue, ss_ue]
    by_cases q : t = s
    · rw [if_pos q, if_pos q, q, if_pos g3, n1, (h6.1 k' n3).2.2.1, n2]
    · rw [if_neg q, if_neg q]
      exact h7a t ht hn hs'
  · have := h7c t ht q1 q2 q3
    have q : t ≠ s := fun q => by
      rw [q] at q3
      exact q3 g4
    show 2 ≤ σ 15 t ∧ ∃ k, pq (σ 8) (σ 7 0) t (ss_u _ 14 s (σ 14 s + 1) 14 t) = k + 1 ∧ σ 9 k = 0 ∧ c 8 8 t + σ 15 t = σ 10 k + 1
    rw [ss_ui _ _ _ _ q]
    exact this
  · show cc_u _ 8 16 s (c 8 16 s + 1) 8 16 t = lcn (ss_u (ss_u σ 25 l 0) 25 l s 25) t 16
    rw [cc_ue]
    have e1 : ss_u (ss_u σ 25 l 0) 25 l s 25 = ss_u σ 25 l s 25 := by
      funext j
      rw [ss_ue, ss_ue, ss_ue]
      split <;> rfl
    rw [e1]
    by_cases q : t = s
    · rw [if_pos q, q, h9a s hs.1 hst]
      refine (lcn_in hl.1 (by omega) (by rw [ss_us]) 16 hl.2 fun j hj => ?_).symm
      rw [ss_ui _ _ _ _ hj]
    · rw [if_neg q, lcn_ow (by omega) (Ne.symm q)]
      exact h9a t ht hn
  · show cc_u c 4 0 l (s + 1) 4 0 0 = 0
    rw [cc_ui _ _ _ _ (by omega)]
    exact h9b.1
  · show cc_u c 4 0 l (s + 1) 4 0 l' = enc (ss_u (ss_u σ 25 l 0) 25 l s 25 l') ∧ (ss_u (ss_u σ 25 l 0) 25 l s 25 l' ≠ 0 → ss_u (ss_u σ 25 l 0) 25 l s 25 l' ≤ σ 1 0)
    rw [cc_ue, ss_ue, ss_ue]
    by_cases q : l' = l
    · rw [if_pos q, if_pos q, enc_s (by omega)]
      exact ⟨rfl, fun _ => hs.1.2⟩
    · rw [if_neg q, if_neg q, if_neg q]
      exact h9b.2 l' q1 q2
  · obtain ⟨L', w1, w2, w3⟩ := h9c.2.1 l' q1 q2
    show ∃ L, ch (cc_u _ 8 18 s 0 8 18) (cc_u _ 4 1 l (c 8 18 s) 4 1 l') L ∧ (∀ t, t ∈ L ↔ (1 ≤ t ∧ t ≤ σ 1 0) ∧ ss_u _ 26 s 0 26 t = l') ∧ L.Pairwise (fun a b => σ 27 a < σ 27 b)
    by_cases q : l' = l
    · subst q
      refine ⟨L, ?_, fun t => ?_, (List.pairwise_cons.mp hp).2⟩
      · rw [cc_us]
        refine ch_congr L _ (fun x hx => ?_) hc.2
        have hne : x ≠ s := fun z => hnL (by rw [← z]; exact hx)
        rw [cc_ui _ _ _ _ hne]
        rfl
      · rw [ss_ue]
        by_cases z : t = s
        · rw [if_pos z, z]
          exact ⟨fun y => absurd y hnL, fun y => absurd y.2 (by omega)⟩
        · rw [if_neg z]
          show _ ↔ _ ∧ σ 26 t = l'
          rw [← hm t]
          exact ⟨fun y => List.mem_cons_of_mem _ y, fun y => (List.mem_cons.mp y).elim (fun y => absurd y z) id⟩
    · refine ⟨L', ?_, fun t => ?_, w3⟩
      · rw [cc_ui _ _ _ _ q]
        refine ch_congr L' _ (fun x hx => ?_) w1
        have := ((w2 x).mp hx).2
        rw [cc_ui _ _ _ _ (fun z => by rw [z] at this; omega)]
        rfl
      · rw [ss_ue]
        by_cases z : t = s
        · rw [if_pos z, z]
          exact ⟨fun y => absurd ((w2 s).mp y).2 (by omega), fun y => absurd y.2 (by omega)⟩
        · rw [if_neg z]
          exact w2 t
  · show cc_u _ 8 18 s 0 8 18 t = 0
    rw [cc_ue]
    by_cases q : t = s
    · rw [if_pos q]
    · rw [if_neg q]
      have : ss_u _ 26 s 0 26 t = 0 := hs'
      rw [ss_ui _ _ _ _ q] at this
      exact h9c.2.2 t ht this
  · have q : t ≠ s := fun q => by
      rw [q] at hs'
      exact hs' (ss_us (ss_u (ss_u σ 25 l 0) 25 l s) 26 s 0)
    have hs2 : σ 26 t ≠ 0 := by
      have : ss_u (ss_u (ss_u σ 25 l 0) 25 l s) 26 s 0 26 t ≠ 0 := hs'
      rw [ss_ui _ _ _ _ q] at this
      exact this
    obtain ⟨f1, f2, f3, f4, f5, f6, k2, f7, f8, f9⟩ := h9d t ht hs2
    have e26 : ss_u (ss_u (ss_u (ss_u σ 25 l 0) 25 l s) 26 s 0) 14 s (σ 14 s + 1) 26 t = σ 26 t := by
      show ss_u (ss_u (ss_u σ 25 l 0) 25 l s) 26 s 0 26 t = σ 26 t
      rw [ss_ui _ _ _ _ q]
      rfl
    have e25 : ss_u (ss_u (ss_u (ss_u σ 25 l 0) 25 l s) 26 s 0) 14 s (σ 14 s + 1) 25 (σ 26 t) = if σ 26 t = l then s else σ 25 (σ 26 t) := by
      show ss_u (ss_u σ 25 l 0) 25 l s 25 (σ 26 t) = _
      rw [ss_ue, ss_ue]
      split <;> rfl
    have e14 : ss_u (ss_u (ss_u (ss_u σ 25 l 0) 25 l s) 26 s 0) 14 s (σ 14 s + 1) 14 t = σ 14 t := by
      rw [ss_ui _ _ _ _ q]
      rfl
    rw [e26, e25, e14]
    refine ⟨f1, f2, f3, f4, ?_, ?_, k2, f7, f8, f9⟩
    · split
      · omega
      · exact f5
    · split
      · exact Ne.symm q
      · exact f6
  · have q : t ≠ s := fun q => by
      have : σ 1 0 < t := ht
      omega
    have := h14c t ht
    simp [ss_u, q]
    exact this
theorem lc_handOn (hQ : cl_Q B c μ0 μ) (hP : REP B e t0 t1 σ c) (l : Nat) (hl : 1 ≤ l ∧ l ≤ 16) (ho : σ 25 l = t0) (h0 : σ 26 t0 = 0) (h01 : t1 = 0 ∨ t1 = t0) : mj_M G my_L_handOn mY_L_handOn [va_rf (some (cD B 4 l))] (mj_nc μ) (mj_ns μ) μ (mj_XV (fun μ' => CR B e t0 t1 (sp_unlock σ l) μ0 μ')) := by
  have hll := hP.lo (l := l) (by omega)
  obtain ⟨L, q1, q2, q3⟩ := hP.h9.2.2.1.2.1 l hl.1 hl.2
  have hf := sp_fst_head q2 q3
  refine mj_of (by decide) rfl (by decide) (Nat.le_of_ble_eq_true rfl) rfl ⟨Nat.le_refl _, Nat.le_refl _⟩ ?_
  refine bk_L_handOn_0 ?_
  cases L with
  | nil =>
    have e1 : c 4 1 l = 0 := q1
    simp (disch := first | decide | assumption | omega) only [hQ.t0, hQ.t1, hQ.t2, hQ.t3, hQ.t4, hQ.t5, hQ.t6, hQ.t7, hQ.t8, hQ.t9, hQ.ta0, hQ.ta1, hQ.ta2, hQ.ta3, hQ.tb, hQ.e0, hQ.e1, hQ.e2, hQ.e3, hQ.i0_8, hQ.i0_9, hQ.i0_10, hQ.i0_11, hQ.i0_12, hQ.r0_0, hQ.r0_1, hQ.r0_2, hQ.r0_3, hQ.r0_4, hQ.r0_5, hQ.r0_6, hQ.r0_7, hQ.i1_0, hQ.i1_5, hQ.i1_6, hQ.r1_1, hQ.r1_2, hQ.r1_3, hQ.r1_4, hQ.i2_0, hQ.i2_1, hQ.i2_2, hQ.r2_3, hQ.i3_1, hQ.i3_3, hQ.r3_0, hQ.r3_2, hQ.r4_0, hQ.r4_1, hQ.i5_1, hQ.i5_2, hQ.r5_0, hQ.i6_0, hQ.i6_1, hQ.r6_2, hQ.i7_0, hQ.r7_1, hQ.r7_2, hQ.i8_0, hQ.i8_1, hQ.i8_3, hQ.i8_4, hQ.i8_5, hQ.i8_8, hQ.i8_9, hQ.i8_10, hQ.i8_11, hQ.i8_12, hQ.i8_13, hQ.i8_14, hQ.i8_16, hQ.r8_2, hQ.r8_6, hQ.r8_7, hQ.r8_15, hQ.r8_17, hQ.r8_18, hQ.i9_1, hQ.r9_0, hQ.r9_2, Option.some.injEq, exists_eq_left', nI_clamp, nI_1, mj_vin, true_and, eq_self, e1, cl_ref_0]
    refine ⟨fun _ => ?_, fun b z => by cases z⟩
    unfold sp_unlock
    rw [hf, if_pos (by rfl)]
    refine ⟨⟨rfl, _, hQ.pR 4 0 l 0 hll (by decide) (by decide) (Or.inl rfl), hP.un0 l hl ho (fun t ht z => ?_)⟩, (by first | exact ⟨rfl, rfl⟩ | trivial)⟩
    have := (q2 t).mpr ⟨ht, z⟩
    cases this
  | cons s L =>
    have e1 : c 4 1 l = s + 1 := q1.1
    have hs := (q2 s).mp (List.mem_cons_self ..)
    have hks := hP.k hs.1
    have hs0 : σ 26 s ≠ 0 := by omega
    obtain ⟨g1, g2, g3, g4, g5, g6, k, g7, g8, g9⟩ := hP.h9.2.2.2 s hs.1 hs0
    have hst : s ≠ t0 := fun q => by
      rw [← q] at h0
      exact hs0 h0
    have e7 := hP.h7.1 s hs.1 (by omega) g2
    rw [if_pos g3, g7] at e7
    have hkp := hP.p (pq_next g7).2.2
    have hT := hP.v.1
    have b16 := lcn_le (σ 25) s 16
    have e16 : c 8 16 s = lcn (σ 25) s 16 := hP.h9.1 s hs.1 hst
    have t18 := hQ.l8_18 hks
    have b18 := hQ.b 8 18 s (by decide)
    have t62 := hQ.l6_2 hkp
    have b62 := hQ.b 6 2 k (by decide)
    simp (disch := first | decide | assumption | omega) only [hQ.t0, hQ.t1, hQ.t2, hQ.t3, hQ.t4, hQ.t5, hQ.t6, hQ.t7, hQ.t8, hQ.t9, hQ.ta0, hQ.ta1, hQ.ta2, hQ.ta3, hQ.tb, hQ.e0, hQ.e1, hQ.e2, hQ.e3, hQ.i0_8, hQ.i0_9, hQ.i0_10, hQ.i0_11, hQ.i0_12, hQ.r0_0, hQ.r0_1, hQ.r0_2, hQ.r0_3, hQ.r0_4, hQ.r0_5, hQ.r0_6, hQ.r0_7, hQ.i1_0, hQ.i1_5, hQ.i1_6, hQ.r1_1, hQ.r1_2, hQ.r1_3, hQ.r1_4, hQ.i2_0, hQ.i2_1, hQ.i2_2, hQ.r2_3, hQ.i3_1, hQ.i3_3, hQ.r3_0, hQ.r3_2, hQ.r4_0, hQ.r4_1, hQ.i5_1, hQ.i5_2, hQ.r5_0, hQ.i6_0, hQ.i6_1, hQ.r6_2, hQ.i7_0, hQ.r7_1, hQ.r7_2, hQ.i8_0, hQ.i8_1, hQ.i8_3, hQ.i8_4, hQ.i8_5, hQ.i8_8, hQ.i8_9, hQ.i8_10, hQ.i8_11, hQ.i8_12, hQ.i8_13, hQ.i8_14, hQ.i8_16, hQ.r8_2, hQ.r8_6, hQ.r8_7, hQ.r8_15, hQ.r8_17, hQ.r8_18, hQ.i9_1, hQ.r9_0, hQ.r9_2, Option.some.injEq, exists_eq_left', nI_clamp, nI_1, mj_vin, true_and, eq_self, e1, e7, cl_ref_s]
    refine ⟨fun z => (by cases z), fun b z => ?_⟩
    subst z
    simp (disch := first | decide | assumption | omega) only [hQ.t0, hQ.t1, hQ.t2, hQ.t3, hQ.t4, hQ.t5, hQ.t6, hQ.t7, hQ.t8, hQ.t9, hQ.ta0, hQ.ta1, hQ.ta2, hQ.ta3, hQ.tb, hQ.e0, hQ.e1, hQ.e2, hQ.e3, hQ.i0_8, hQ.i0_9, hQ.i0_10, hQ.i0_11, hQ.i0_12, hQ.r0_0, hQ.r0_1, hQ.r0_2, hQ.r0_3, hQ.r0_4, hQ.r0_5, hQ.r0_6, hQ.r0_7, hQ.i1_0, hQ.i1_5, hQ.i1_6, hQ.r1_1, hQ.r1_2, hQ.r1_3, hQ.r1_4, hQ.i2_0, hQ.i2_1, hQ.i2_2, hQ.r2_3, hQ.i3_1, hQ.i3_3, hQ.r3_0, hQ.r3_2, hQ.r4_0, hQ.r4_1, hQ.i5_1, hQ.i5_2, hQ.r5_0, hQ.i6_0, hQ.i6_1, hQ.r6_2, hQ.i7_0, hQ.r7_1, hQ.r7_2, hQ.i8_0, hQ.i8_1, hQ.i8_3, hQ.i8_4, hQ.i8_5, hQ.i8_8, hQ.i8_9, hQ.i8_10, hQ.i8_11, hQ.i8_12, hQ.i8_13, hQ.i8_14, hQ.i8_16, hQ.r8_2, hQ.r8_6, hQ.r8_7, hQ.r8_15, hQ.r8_17, hQ.r8_18, hQ.i9_1, hQ.r9_0, hQ.r9_2, Option.some.injEq, exists_eq_left', nI_clamp, nI_1, mj_vin, true_and, eq_self, e7, cl_ref_s]
    refine ⟨fun z => (by cases z), fun b z => ?_⟩
    subst z
    simp (disch := first | decide | assumption | omega) only [hQ.t0, hQ.t1, hQ.t2, hQ.t3, hQ.t4, hQ.t5, hQ.t6, hQ.t7, hQ.t8, hQ.t9, hQ.ta0, hQ.ta1, hQ.ta2, hQ.ta3, hQ.tb, hQ.e0, hQ.e1, hQ.e2, hQ.e3, hQ.i0_8, hQ.i0_9, hQ.i0_10, hQ.i0_11, hQ.i0_12, hQ.r0_0, hQ.r0_1, hQ.r0_2, hQ.r0_3, hQ.r0_4, hQ.r0_5, hQ.r0_6, hQ.r0_7, hQ.i1_0, hQ.i1_5, hQ.i1_6, hQ.r1_1, hQ.r1_2, hQ.r1_3, hQ.r1_4, hQ.i2_0, hQ.i2_1, hQ.i2_2, hQ.r2_3, hQ.i3_1, hQ.i3_3, hQ.r3_0, hQ.r3_2, hQ.r4_0, hQ.r4_1, hQ.i5_1, hQ.i5_2, hQ.r5_0, hQ.i6_0, hQ.i6_1, hQ.r6_2, hQ.i7_0, hQ.r7_1, hQ.r7_2, hQ.i8_0, hQ.i8_1, hQ.i8_3, hQ.i8_4, hQ.i8_5, hQ.i8_8, hQ.i8_9, hQ.i8_10, hQ.i8_11, hQ.i8_12, hQ.i8_13, hQ.i8_14, hQ.i8_16, hQ.r8_2, hQ.r8_6, hQ.r8_7, hQ.r8_15, hQ.r8_17, hQ.r8_18, hQ.i9_1, hQ.r9_0, hQ.r9_2, Option.some.injEq, exists_eq_left', nI_clamp, nI_1, mj_vin, true_and, eq_self]
    have hQ2 := ((((hQ.pR 4 0 l (s + 1) hll (by decide) (by omega) (Or.inr hks)).pR 4 1 l (c 8 18 s) hll (by decide) b18 t18).pR 8 18 s 0 hks (by decide) (by decide) (Or.inl rfl)).pI 8 16 s (c 8 16 s + 1) hks (by decide) (by omega)).pR 8 7 s (c 6 2 k) hks (by decide) b62 t62
    unfold sp_unlock
    rw [hf, if_neg (by show s ≠ 0; omega)]
    exact ⟨⟨rfl, _, hQ2, hP.un1 l s k L hl ho h0 h01 q1 q2 q3 e7⟩, (by first | exact ⟨rfl, rfl⟩ | trivial)⟩
end CC
