theorem whoc_lt {σ : ss_S} (hV : sp_V σ) (k : Nat) : whoc σ k < 1100 := by
  have h1 := sp_hand_spec σ (σ 35 0)
  have h2 := sp_run_le σ k (σ 1 0)
  have h3 := hV.1
  unfold whoc
  split
  · rename_i z
    obtain ⟨h, g1, g2, -⟩ := h1.resolve_left (fun y => z.2 y.1)
    have g1' : sp_atHand σ = h + 1 := g1
    rw [g1', Nat.add_sub_cancel]
    have := hV.2.2.2.2.2.2.2.1 h g2
    omega
  · unfold sp_running
    omega
section CS
variable {G : mj_G} {B : cl_B} {e t0 t1 b : Nat} {σ τ : ss_S} {c d dd : cc_S} {μ μ0 : mj_MM} {Ex : Option Value → mj_MM → Prop} {N S q : Nat}
theorem REP.str13 (hP : REP B 500 0 0 σ c) (hq : σ 43 0 + q ≤ 50000) (hq1 : 1 ≤ q) (h5 : ∀ j, d 5 1 j = c 5 1 j) (hL : LG σ c d (σ 0 0)) (w' : Nat → Nat) (hw : w' = Qs σ q (σ 0 0) 44) (n' : Nat) (hn : n' = σ 43 0 + q) :
    (d 5 1 1 = 50000 * σ 0 0 ∧ d 5 2 1 = wa w' (σ 0 0) n') ∧ (∀ k, k < σ 0 0 → d 5 1 (k + 2) = 50000 ∧ d 5 2 (k + 2) = wk w' k n' ∧ d 1 5 k = wbef w' k n') ∧ ∀ k t, k < σ 0 0 → t < n' → w' (50000 * k + t) < 1100 ∧ (wsw w' k t = 1 → d 20 1 (wa w' (σ 0 0) t + wc w' t k) = t * 2 ^ 40 + k * 2 ^ 20 + w' (50000 * k + t) ∧ d 20 (k + 2) (wk w' k t) = t * 2 ^ 40 + w' (50000 * k + t) * 2 ^ 20) := by
  obtain ⟨⟨o1, o2⟩, o3, o4⟩ := hP.h13
  obtain ⟨a1, a2, a3, a4, a5, a6, a7, a8⟩ := hL
  have hV := hP.v
  have w1 : ∀ k, k < σ 0 0 → ∀ t, t < σ 43 0 → w' (50000 * k + t) = σ 44 (50000 * k + t) := by
    rw [hw]
    exact Qs_w1 σ (σ 0 0) q hq
  have w2 : ∀ k, k < σ 0 0 → ∀ t, σ 43 0 ≤ t → t < σ 43 0 + q → w' (50000 * k + t) = whoc σ k := by
    rw [hw]
    exact Qs_w2 σ (σ 0 0) q hq
  have wn : ∀ k, k ≤ σ 0 0 → wc w' (σ 43 0) k = nsw σ k := by
    rw [hw]
    exact nsw_wc σ (σ 0 0) q hq hq1
  subst hn
  refine ⟨⟨(h5 1).trans o1, ?_⟩, fun k hk => ⟨(h5 _).trans (o3 k hk).1, ?_, ?_⟩, fun k t hk ht => ?_⟩
  · rw [wa_in w1 w2 q hq1 (Nat.le_refl _), wn _ (Nat.le_refl _), a1, o2]
  · rw [wk_in w1 w2 hk q hq1 (Nat.le_refl _), a2 k hk, (o3 k hk).2.1]
    show _ + (if k < σ 0 0 ∧ whoc σ k ≠ sp_before σ k then 1 else 0) = _ + (if whoc σ k = sp_before σ k then 0 else 1)
    by_cases z : whoc σ k = sp_before σ k
    · rw [if_pos z, if_neg (fun y => y.2 z)]
    · rw [if_neg z, if_pos ⟨hk, z⟩]
  · rw [wbef_in w2 hk (by omega) (Nat.le_refl _), a3 k hk, if_pos hk]
  · by_cases z : t < σ 43 0
    · obtain ⟨g1, g2⟩ := o4 k t hk z
      rw [w1 k hk t z, wsw_lt w1 hk z, wa_le w1 t (Nat.le_of_lt z), wc_lt w1 z k (Nat.le_of_lt hk), wk_le w1 hk t (Nat.le_of_lt z)]
      refine ⟨g1, fun y => ?_⟩
      obtain ⟨g3, g4⟩ := g2 y
      have m1 : wc (σ 44) t k + wsw (σ 44) k t ≤ wc (σ 44) t (σ 0 0) := wc_mono (σ 44) t (k + 1) (σ 0 0) hk
      have m2 : wa (σ 44) (σ 0 0) t + wc (σ 44) t (σ 0 0) ≤ wa (σ 44) (σ 0 0) (σ 43 0) := wa_mono (σ 44) (σ 0 0) (t + 1) (σ 43 0) z
      have m3 : wk (σ 44) k t + wsw (σ 44) k t ≤ wk (σ 44) k (σ 43 0) := wk_mono (σ 44) k (t + 1) (σ 43 0) z
      rw [a4 _ (by omega), a6 k hk _ (by rw [(o3 k hk).2.1]; omega)]
      exact ⟨g3, g4⟩
    · rw [w2 k hk t (by omega) ht]
      refine ⟨whoc_lt hV k, fun y => ?_⟩
      by_cases x : t = σ 43 0
      · rw [x] at y ⊢
        rw [wsw_n w1 w2 hk hq1] at y
        have hne : whoc σ k ≠ sp_before σ k := fun u => by
          have u' : whoc σ k = wbef (σ 44) k (σ 43 0) := u
          rw [if_pos u'] at y
          omega
        rw [wa_le w1 _ (Nat.le_refl _), wn k (Nat.le_of_lt hk), wk_le w1 hk _ (Nat.le_refl _), ← o2, ← (o3 k hk).2.1]
        exact ⟨a5 k hk hne, a7 k hk hne⟩
      · rw [wsw_in w2 hk (by omega) ht] at y
        omega
theorem REP.stretch (hP : REP B 500 0 0 σ c) (hq : quiet σ (σ 0 0) q) (hq1 : 1 ≤ q) (hR : REP B 500 0 0 τ dd) (hτ : ∀ f i, f ≠ 44 → τ f i = Qw σ q (σ 0 0) f i) (hov : ov d dd) (h16 : r16 B d) (hL : LG σ c d (σ 0 0)) : REP B 0 0 0 (Qs σ q (σ 0 0)) (cc_u d 0 12 0 (σ 43 0 + q)) := by
  have hx := hP.x
  obtain ⟨w', hw⟩ : ∃ w', w' = Qs σ q (σ 0 0) 44 := ⟨_, rfl⟩
  obtain ⟨n', hn⟩ : ∃ n', n' = σ 43 0 + q := ⟨_, rfl⟩
  have hq6 := hq.2.2.2.2.2
  have es : Qs σ q (σ 0 0) = ss_r (ss_u τ 43 0 n') 44 w' := by
    funext f i
    unfold ss_r
    by_cases z : f = 44
    · rw [if_pos z, hw, z]
    · rw [if_neg z]
      unfold Qs
      rw [hn]
      by_cases y : f = 43
      · subst y
        rw [ss_ue, ss_ue]
        split
        · rfl
        · exact (hτ 43 i (by decide)).symm
      · rw [ss_uf _ _ _ _ y, ss_uf _ _ _ _ y]
        exact (hτ f i z).symm
  have h13 := hP.str13 hq6 hq1 hL.2.2.2.2.2.2.2 hL w' hw n' hn
  have t0 : τ 0 0 = σ 0 0 := (hτ 0 0 (by decide)).trans (Qw_o _ _ _ _ _ (by decide))
  have t34 : ∀ k, τ 34 k = σ 34 k := fun k => (hτ 34 k (by decide)).trans (Qw_o _ _ _ _ _ (by decide))
  have t32 : τ 32 0 = σ 32 0 := (hτ 32 0 (by decide)).trans (Qw_o _ _ _ _ _ (by decide))
  have t43 : τ 43 0 = σ 43 0 := (hτ 43 0 (by decide)).trans (Qw_o _ _ _ _ _ (by decide))
  have h32 := hP.v.2.2.2.1
  have hr13 : r13 (ss_r (ss_u τ 43 0 n') 44 w') (cc_u d 0 12 0 n') := by
    rw [← t0] at h13
    exact h13
  have hr16 : r16 B (cc_u d 0 12 0 n') := h16.u 0 12 0 _ (Or.inl hx)
  rw [es, ← hn]
  obtain ⟨hb, h1, h2, h3, h4, h5, h6, h7, h8, h9, h10, ⟨h11a, L, w1, w2, w3⟩, h12, -, ⟨h14a, h14b, h14c⟩, h15, -⟩ := hR
  rw [hov.eq] at hr13 hr16 ⊢
  refine ⟨hb, ⟨h1.1, ⟨h1.2.1.1, h1.2.1.2.1, h1.2.1.2.2.1, h1.2.1.2.2.2.1, rfl⟩, h1.2.2⟩, h2, h3, h4, h5, h6, h7, h8, h9, h10, ⟨h11a, L, w1, fun k => ?_, w3⟩, h12, hr13, ⟨⟨h14a.1, h14a.2.1, h14a.2.2.1, h14a.2.2.2.1, h14a.2.2.2.2.1, h14a.2.2.2.2.2.1, h14a.2.2.2.2.2.2.1, h14a.2.2.2.2.2.2.2.1, h14a.2.2.2.2.2.2.2.2.1, ?_⟩, h14b, h14c⟩, h15, hr16⟩
  · rw [w2 k]
    show _ ↔ k < τ 32 0 ∧ (n' < τ 34 k ∨ (τ 34 k = n' ∧ 0 ≤ k))
    rw [t34, t32, t43]
    have h4' := hq.2.2.2.1 k
    constructor
    · rintro ⟨x, y⟩
      have := h4' x (by omega)
      exact ⟨x, by omega⟩
    · rintro ⟨x, y⟩
      exact ⟨x, by omega⟩
  · show n' ≤ 50000
    omega
theorem REP.spent (hP : REP B e t0 0 σ c) (t : Nat) (ht : 1 ≤ t ∧ t ≤ σ 1 0) (h11 : σ 11 t ≠ 0) : c 8 8 t < 2 ^ 24 := by
  by_cases h : σ 16 t ≠ 0 ∨ σ 15 t = 0
  · rw [hP.h7.2.1 t ht (Or.inr h)]
    decide
  · obtain ⟨y1, k, y2, y3, y4⟩ := hP.h7.2.2 t ht h11 (by omega) (by omega)
    have := (an_gd (hP.h6.1 k (pq_next y2).2.2).2.2.2.2.2).2.1
    omega
theorem rl_passC (hP : REP B 500 0 0 σ c) (hq : quiet σ (σ 0 0) q) (hq1 : 1 ≤ q) (hpsg : ∀ k, k < σ 0 0 → ¬ itr σ k → sp_running σ k ≠ 0 → psg σ (sp_running σ k)) (h16s : ∀ t, (1 ≤ t ∧ t ≤ σ 1 0) → σ 16 t ≠ 0 → σ 14 t = 0) (h20 : ∀ t, σ 20 t ≤ σ 43 0) (nc0 ns0 : Nat)
    (he : ∀ d dd μ', cl_Q B d μ0 μ' → ov d dd → REP B 500 0 0 (Qt σ q (σ 0 0)) dd → r16 B d → LG σ c d (σ 0 0) → mj_nc μ' = nc0 + sumf (wd σ) (σ 0 0) → mj_ns μ' = ns0 + 512 * sumf (wd σ) (σ 0 0) → mj_J G mY_T_passMicroseconds Ex (nc0 + sumf (wd σ) (σ 0 0)) (ns0 + 512 * sumf (wd σ) (σ 0 0)) 28 [(0, va_rf (some (cD B 0 0))), (1, .int (nI q)), (2, va_rf (cl_ref B 2 (sp_atHand σ))), (3, .int (nI (nsw σ (σ 0 0)))), (4, va_rf (some (cD B 10 1))), (5, .int (nI (σ 0 0))), (6, .int (nI (σ 0 0)))] [] μ') :
    ∀ m k d dd μ, k + m = σ 0 0 → cl_Q B d μ0 μ → ov d dd → REP B 500 0 0 (Qt σ q k) dd → r16 B d → LG σ c d k → mj_nc μ = nc0 + sumf (wd σ) k → mj_ns μ = ns0 + 512 * sumf (wd σ) k →
    mj_J G mY_T_passMicroseconds Ex (nc0 + sumf (wd σ) (σ 0 0)) (ns0 + 512 * sumf (wd σ) (σ 0 0)) 28 [(0, va_rf (some (cD B 0 0))), (1, .int (nI q)), (2, va_rf (cl_ref B 2 (sp_atHand σ))), (3, .int (nI (nsw σ k))), (4, va_rf (some (cD B 10 1))), (5, .int (nI (σ 0 0))), (6, .int (nI k))] [] μ := by
  have hV := hP.v
  have hC := hV.2.1.2
  have hq6 := hq.2.2.2.2.2
  obtain ⟨⟨o1, o2⟩, o3, o4⟩ := hP.h13
  intro m
  induction m with
  | zero =>
    intro k d dd μ hk hQ hov hR h16 hL e1 e2
    have : k = σ 0 0 := by omega
    subst this
    exact he d dd μ hQ hov hR h16 hL e1 e2
  | succ m ih =>
    intro k d dd μ hk hQ hov hR h16 hL e1 e2
    have hkC : k < σ 0 0 := by omega
    have q0 : Qt σ q k 0 0 = σ 0 0 := Qt_o _ _ _ _ _ (by decide)
    have q43 : Qt σ q k 43 0 = σ 43 0 := Qt_o _ _ _ _ _ (by decide)
    have hx := hR.x
    have hck := hR.co (k := k) (by omega)
    have eov : ∀ K p i, K ≠ 1 → K ≠ 5 → K ≠ 20 → d K p i = dd K p i := fun K p i h1 h2 h3 => hov K p i (by omega) (by omega) (by omega)
    have ed0 : d 1 0 k = k := (hov 1 0 k (by omega) (by omega) (by omega)).trans (hR.h4 k (by omega)).1
    have ed11 : d 1 1 k = k + 2 + 1 := (hov 1 1 k (by omega) (by omega) (by omega)).trans (hR.h4 k (by omega)).2.1
    have ed4 : d 1 4 k = enc (sp_running σ k) := by
      rw [hov 1 4 k (by omega) (by omega) (by omega), hR.run k (by omega)]
      congr 1
      exact sp_run_cg (σ := σ) (τ := Qt σ q k) k (fun j => Qt_o _ _ _ _ _ (by decide)) (fun j _ => Qt_o _ _ _ _ _ (by decide)) _ |>.trans (by rw [Qt_o _ _ _ _ _ (by decide)]; rfl)
    have ed12 : d 0 12 0 = σ 43 0 := ((eov 0 12 0 (by decide) (by decide) (by decide)).trans hR.h1.2.1.2.2.2.2).trans q43
    have ed6 : d 0 6 0 = 2 := (eov 0 6 0 (by decide) (by decide) (by decide)).trans hR.h1.1.2.2.2.2.2.2
    have a1 : cL B 10 1 := hR.b.2.2.1.2.1
    have na : cN B 10 1 = σ 0 0 := hR.b.2.2.2.1.2.1.trans q0
    have en : mj_n μ (cD B 10 1) = σ 0 0 := by rw [(hQ.1.2.2.1 10 1 a1 (by decide)).1, na]
    have ea : mj_r μ (cD B 10 1) k = some (cD B 1 k) := by
      rw [hQ.e1 a1 (by omega), eov 10 1 k (by decide) (by decide) (by decide), hR.h1.2.2.2.1 k (by omega)]
      rfl
    have hwl := whoc_lt hV k
    have hm1 := sumf_le (wd σ) (k + 1) (σ 0 0) hkC
    have es1 : sumf (wd σ) (k + 1) = sumf (wd σ) k + wd σ k := rfl
    have nb := nsw_bd σ k
    have n1 : nsw σ (k + 1) = nsw σ k + (if whoc σ k = sp_before σ k then 0 else 1) := rfl
    refine bk_T_passMicroseconds_28 ⟨fun z => absurd z (by rw [mj_le (by omega) (by omega)]; omega), fun _ => ⟨_, rfl, hQ.ta1 a1, by rw [en]; exact vp_in_nI (by omega) (by omega), ?_⟩⟩
    rw [nI_clamp (by omega), ea]
    refine bk_T_passMicroseconds_42 ⟨_, rfl, hQ.t1 hck, ?_⟩
    rw [hQ.r1_4 hck, ed4]
    have s143 : ∀ sw d' dd' μ', sw = nsw σ (k + 1) → cl_Q B d' μ0 μ' → ov d' dd' → REP B 500 0 0 (Qt σ q (k + 1)) dd' → r16 B d' → LG σ c d' (k + 1) → mj_nc μ' = nc0 + sumf (wd σ) (k + 1) → mj_ns μ' = ns0 + 512 * sumf (wd σ) (k + 1) → mj_J G mY_T_passMicroseconds Ex (nc0 + sumf (wd σ) (σ 0 0)) (ns0 + 512 * sumf (wd σ) (σ 0 0)) 143 [(0, va_rf (some (cD B 0 0))), (1, .int (nI q)), (2, va_rf (cl_ref B 2 (sp_atHand σ))), (3, .int (nI sw)), (4, va_rf (some (cD B 10 1))), (5, .int (nI (σ 0 0))), (6, .int (nI k))] [] μ' := by
      intro sw d' dd' μ' hsw g1 g2 g3 g4 g5 g6 g7
      refine bk_T_passMicroseconds_143 ?_
      rw [nI_1, hsw]
      exact ih (k + 1) d' dd' μ' (by omega) g1 g2 g3 g4 g5 g6 g7
    have s101 : ∀ d' dd' μ', cl_Q B d' μ0 μ' → ov d' dd' → REP B 500 0 0 (Qt σ q (k + 1)) dd' → r16 B d' → LG σ c d' k → d' 1 0 k = k → d' 1 1 k = k + 2 + 1 → d' 0 12 0 = σ 43 0 → d' 0 6 0 = 2 → mj_nc μ' = mj_nc μ → mj_ns μ' = mj_ns μ → mj_J G mY_T_passMicroseconds Ex (nc0 + sumf (wd σ) (σ 0 0)) (ns0 + 512 * sumf (wd σ) (σ 0 0)) 101 [(0, va_rf (some (cD B 0 0))), (1, .int (nI q)), (2, va_rf (cl_ref B 2 (sp_atHand σ))), (3, .int (nI (nsw σ k))), (4, va_rf (some (cD B 10 1))), (5, .int (nI (σ 0 0))), (6, .int (nI k)), (7, va_rf (some (cD B 1 k))), (9, .int (nI (whoc σ k)))] [] μ' := by
      intro d' dd' μ' g1 g2 g3 g4 g5 f0 f1 f12 f6 g6 g7
      have f5 : d' 1 5 k = sp_before σ k := by
        rw [g5.2.2.1 k hkC, if_neg (by omega)]
      have b5 := g1.b 1 5 k (by decide)
      have hg2 : cL B 5 (k + 2) := g3.lg (by rw [Qt_o _ _ _ _ _ (by decide)]; omega)
      have hg1 : cL B 5 1 := g3.lg (by rw [Qt_o _ _ _ _ _ (by decide)]; omega)
      refine bk_T_passMicroseconds_101 ⟨_, rfl, g1.t1 hck, ?_⟩
      rw [g1.i1_5 hck, f5, mj_zz (by omega) (by omega)]
      by_cases hw : whoc σ k = sp_before σ k
      · have ewd : wd σ k = 0 := by
          unfold wd
          rw [if_pos hw]
        rw [if_pos hw] at n1
        exact ⟨fun _ => s143 _ d' dd' μ' (by omega) g1 g2 g3 g4 (g5.same hw) (by omega) (by omega), fun z => absurd hw z⟩
      · refine ⟨fun z => absurd z hw, fun _ => ⟨g1.t0 hx, ?_⟩⟩
        rw [if_neg hw] at n1
        have l1 : d' 5 2 (k + 2) = wk (σ 44) k (σ 43 0) := by
          rw [g5.2.1 k hkC, if_neg (by omega)]
          exact (o3 k hkC).2.1
        have l2 : d' 5 2 1 = wa (σ 44) (σ 0 0) (σ 43 0) + nsw σ k := by rw [g5.1, o2]
        have l3 : d' 5 1 (k + 2) = 50000 := (g5.2.2.2.2.2.2.2 _).trans (o3 k hkC).1
        have l4 : d' 5 1 1 = 50000 * σ 0 0 := (g5.2.2.2.2.2.2.2 _).trans o1
        have m1 := wk_bd (σ 44) k (σ 43 0)
        have m2 := wa_bd (σ 44) (σ 0 0) (σ 43 0)
        have m3 : σ 0 0 * σ 43 0 + σ 0 0 ≤ 50000 * σ 0 0 := by
          have : σ 0 0 * (σ 43 0 + 1) ≤ σ 0 0 * 50000 := Nat.mul_le_mul_left _ (by omega)
          rw [Nat.mul_succ] at this
          omega
        have hQw := g1.pI 1 5 k (whoc σ k) hck (by decide) (by omega)
        have ln1 : lg_n (cc_u d' 1 5 k (whoc σ k)) (k + 2) = if wk (σ 44) k (σ 43 0) % 512 = 0 then 1 else 0 := by
          unfold lg_n
          show (if d' 5 2 (k + 2) < d' 5 1 (k + 2) ∧ d' 5 2 (k + 2) % 512 = 0 then 1 else 0) = _
          rw [l1, l3]
          by_cases z : wk (σ 44) k (σ 43 0) % 512 = 0
          · rw [if_pos z, if_pos ⟨by omega, z⟩]
          · rw [if_neg z, if_neg (fun y => z y.2)]
        have ewd : wd σ k = (if wk (σ 44) k (σ 43 0) % 512 = 0 then 1 else 0) + (if (wa (σ 44) (σ 0 0) (σ 43 0) + nsw σ k) % 512 = 0 then 1 else 0) := by
          unfold wd
          rw [if_neg hw]
        rw [g1.i0_12 hx, f12]
        have nw : mj_M G my_C_noteWho mY_C_noteWho [va_rf (some (cD B 1 k)), .int (nI (σ 43 0)), .int (nI (whoc σ k))] (mj_nc μ' + lg_n (cc_u d' 1 5 k (whoc σ k)) (k + 2)) (mj_ns μ' + 512 * lg_n (cc_u d' 1 5 k (whoc σ k)) (k + 2)) μ' (mj_XV (fun μ2 => cl_Q B (lg_add (cc_u d' 1 5 k (whoc σ k)) (k + 2) (σ 43 0 * 2 ^ 40 + whoc σ k * 2 ^ 20 + 0)) μ0 μ2)) := by
          refine mj_of (by decide) rfl (by decide) (Nat.le_of_ble_eq_true rfl) rfl ⟨Nat.le_add_right _ _, Nat.le_add_right _ _⟩ ?_
          refine bk_C_noteWho_0 ⟨g1.t1 hck, cD B 5 (k + 2), ?_, g1.t5 hg2, _, _, _, lc_add hQw (k + 2) (σ 43 0) (whoc σ k) 0 hg2 (by omega) (by omega) (by decide) (by show d' 5 2 (k + 2) + 1 < 2 ^ 31; omega), ⟨Nat.le_refl _, Nat.le_refl _⟩, fun μ2 h r1 r2 => bk_C_noteWho_15 ⟨⟨rfl, h⟩, r1, r2⟩⟩
          rw [g1.r1_1 hck, f1]
          rfl
        refine ⟨_, _, _, nw, by rw [ln1]; omega, fun μ2 h r1 r2 => ?_⟩
        have f12' : lg_add (cc_u d' 1 5 k (whoc σ k)) (k + 2) (σ 43 0 * 2 ^ 40 + whoc σ k * 2 ^ 20 + 0) 0 12 0 = σ 43 0 := (lg_addK _ _ 0 12 0 (by decide)).trans f12
        have f6' : lg_add (cc_u d' 1 5 k (whoc σ k)) (k + 2) (σ 43 0 * 2 ^ 40 + whoc σ k * 2 ^ 20 + 0) 0 6 0 = 2 := (lg_addK _ _ 0 6 0 (by decide)).trans f6
        have f0' : lg_add (cc_u d' 1 5 k (whoc σ k)) (k + 2) (σ 43 0 * 2 ^ 40 + whoc σ k * 2 ^ 20 + 0) 1 0 k = k := (lg_addK _ _ 1 0 k (by decide)).trans f0
        have l2' : lg_add (cc_u d' 1 5 k (whoc σ k)) (k + 2) (σ 43 0 * 2 ^ 40 + whoc σ k * 2 ^ 20 + 0) 5 2 1 = d' 5 2 1 := (lg_add5 _ _ 2 1 (by omega)).trans rfl
        have l4' : lg_add (cc_u d' 1 5 k (whoc σ k)) (k + 2) (σ 43 0 * 2 ^ 40 + whoc σ k * 2 ^ 20 + 0) 5 1 1 = d' 5 1 1 := (lg_add5 _ _ 1 1 (by omega)).trans rfl
        have ln2 : lg_n (lg_add (cc_u d' 1 5 k (whoc σ k)) (k + 2) (σ 43 0 * 2 ^ 40 + whoc σ k * 2 ^ 20 + 0)) 1 = if (wa (σ 44) (σ 0 0) (σ 43 0) + nsw σ k) % 512 = 0 then 1 else 0 := by
          unfold lg_n
          rw [l2', l4', l2, l4]
          by_cases z : (wa (σ 44) (σ 0 0) (σ 43 0) + nsw σ k) % 512 = 0
          · rw [if_pos z, if_pos ⟨by omega, z⟩]
          · rw [if_neg z, if_neg (fun y => z y.2)]
        have hLn := g5.note hkC hw (by omega) (by omega) (σ 43 0 * 2 ^ 40 + whoc σ k * 2 ^ 20 + 0) _ (Nat.add_zero _).symm rfl
        have ov2 := ((g2.w k (whoc σ k)).a (k + 2) (σ 43 0 * 2 ^ 40 + whoc σ k * 2 ^ 20 + 0) (by omega)).a 1 (σ 43 0 * 2 ^ 40 + k * 2 ^ 20 + whoc σ k) (by decide)
        have r162 := ((g4.u 1 5 k (whoc σ k) (Or.inl hck)).add (k + 2) (σ 43 0 * 2 ^ 40 + whoc σ k * 2 ^ 20 + 0) hg2).add 1 (σ 43 0 * 2 ^ 40 + k * 2 ^ 20 + whoc σ k) hg1
        refine bk_T_passMicroseconds_122 ⟨h.t0 hx, _, rfl, h.t1 hck, cD B 5 1, ?_, h.t5 hg1, ?_⟩
        · rw [h.r0_6 hx, f6']
          rfl
        · rw [h.i0_12 hx, h.i1_0 hck, f12', f0']
          refine ⟨_, _, _, lc_add h 1 (σ 43 0) k (whoc σ k) hg1 (by omega) (by omega) (by omega) (by rw [l2']; omega), by rw [ln2]; omega, fun μ3 h3 r3 r4 => bk_T_passMicroseconds_140 ?_⟩
          rw [nI_1]
          exact s143 _ _ dd' μ3 (by omega) h3 ov2 g3 r162 hLn (by omega) (by omega)
    have s90 : ∀ w, (¬ itr σ k → w = whoc σ k) → ¬ itr σ k → mj_J G mY_T_passMicroseconds Ex (nc0 + sumf (wd σ) (σ 0 0)) (ns0 + 512 * sumf (wd σ) (σ 0 0)) 90 [(0, va_rf (some (cD B 0 0))), (1, .int (nI q)), (2, va_rf (cl_ref B 2 (sp_atHand σ))), (3, .int (nI (nsw σ k))), (4, va_rf (some (cD B 10 1))), (5, .int (nI (σ 0 0))), (6, .int (nI k)), (7, va_rf (some (cD B 1 k))), (8, va_rf (cl_ref B 8 (enc (sp_running σ k)))), (9, .int (nI w))] [] μ := by
      intro w hw hi
      rw [hw hi]
      refine bk_T_passMicroseconds_90 ?_
      by_cases ht : sp_running σ k = 0
      · rw [ht]
        refine ⟨fun _ => s101 d dd μ hQ hov ?_ h16 hL ed0 ed11 ed12 ed6 rfl rfl, fun b z => (by cases z)⟩
        rw [Qt_same (Or.inl ht)]
        exact hR
      · have hr := (sp_running_spec σ k).resolve_left (fun z => ht z.1)
        obtain ⟨e3, ff⟩ := Qt_spq (q := q) rfl ht hi
        have hpg := hpsg k hkC hi ht
        have hqi := hq.1 (sp_running σ k) ⟨by omega, ht, by rw [hr.2.1], by rw [hr.2.1]; exact hi⟩
        generalize sp_running σ k = t at *
        have htv : 1 ≤ t ∧ t ≤ Qt σ q k 1 0 := by
          rw [Qt_o _ _ _ _ _ (by decide)]
          exact hr.1
        have hkt := hR.k htv
        have e14 : d 8 14 t = σ 20 t := (eov 8 14 t (by decide) (by decide) (by decide)).trans ((hR.h3.2.2.2.2.2 t htv).trans (ff 20 t (Or.inl rfl)))
        have e8 : d 8 8 t < 2 ^ 24 := by
          rw [eov 8 8 t (by decide) (by decide) (by decide)]
          exact hR.spent t htv (by rw [ff 11 t (Or.inl rfl)]; omega)
        have b20 := h20 t
        have enx : sp_next (Qt σ q k) t = sp_next σ t := sp_next_cg t (fun j => ff 8 j (by omega)) (ff 7 0 (by omega)) (ff 14 t (Or.inl rfl))
        have epsg : psg (Qt σ q k) t := by
          unfold psg at hpg ⊢
          rw [ff 26 t (Or.inl rfl), ff 16 t (Or.inl rfl), enx]
          rcases hpg with z | z | ⟨j, z1, z2⟩
          · exact Or.inl z
          · exact Or.inr (Or.inl z)
          · exact Or.inr (Or.inr ⟨j, z1, by rw [ff 9 j (by omega)]; exact z2⟩)
        have elv : q ≤ lv (Qt σ q k) t := by
          have el : lft (Qt σ q k) t = lft σ t := lft_cg (ff 15 t (Or.inl rfl)) (ff 7 0 (by omega)) (fun j => ff 8 j (by omega)) (ff 14 t (Or.inl rfl)) (fun j => ff 10 j (by omega))
          unfold lv
          rw [ff 26 t (Or.inl rfl), ff 16 t (Or.inl rfl), el]
          rcases hqi with z | ⟨z, z2⟩ | ⟨z1, z2, z3, -⟩
          · rw [if_pos z]
            omega
          · by_cases y : σ 26 t ≠ 0
            · rw [if_pos y]
              omega
            · rw [if_neg y, if_pos z]
              exact z2
          · rw [if_neg (fun y => y z1), if_neg (fun y => y z2)]
            exact z3
        have hR2 := hR.passq t q htv (by rw [ff 11 t (Or.inl rfl)]; omega) epsg elv hq1 (fun z => by
          rw [ff 16 t (Or.inl rfl)] at z
          rw [ff 14 t (Or.inl rfl)]
          exact h16s t hr.1 z)
        rw [e3] at hR2
        rw [enc_s ht]
        refine ⟨fun z => (by cases z), fun b z => ?_⟩
        cases z
        refine ⟨hQ.t8 hkt, _, lc_spend hQ t q hkt (by omega) (by omega), fun μ2 h r1 r2 => ?_⟩
        exact s101 (cs_spend d t q) (cs_spend dd t q) μ2 h (hov.sp t q) hR2 (h16.sp t q hkt) (hL.cg (fun p i => cs_spend_o _ _ _ _ _ _ (by decide)) (fun i => cs_spend_o _ _ _ _ _ _ (by decide)) (fun j i => cs_spend_o _ _ _ _ _ _ (by decide))) ((cs_spend_o _ _ _ _ _ _ (by decide)).trans ed0) ((cs_spend_o _ _ _ _ _ _ (by decide)).trans ed11) ((cs_spend_o _ _ _ _ _ _ (by decide)).trans ed12) ((cs_spend_o _ _ _ _ _ _ (by decide)).trans ed6) r1 r2
    have s65 : ∀ w, (¬ itr σ k → w = whoc σ k) → mj_J G mY_T_passMicroseconds Ex (nc0 + sumf (wd σ) (σ 0 0)) (ns0 + 512 * sumf (wd σ) (σ 0 0)) 65 [(0, va_rf (some (cD B 0 0))), (1, .int (nI q)), (2, va_rf (cl_ref B 2 (sp_atHand σ))), (3, .int (nI (nsw σ k))), (4, va_rf (some (cD B 10 1))), (5, .int (nI (σ 0 0))), (6, .int (nI k)), (7, va_rf (some (cD B 1 k))), (8, va_rf (cl_ref B 8 (enc (sp_running σ k)))), (9, .int (nI w))] [] μ := by
      intro w hw
      refine bk_T_passMicroseconds_65 ⟨_, rfl, hQ.t1 hck, ?_⟩
      rw [hQ.i1_0 hck, ed0, mj_z0 (by omega)]
      refine ⟨fun z => s90 w hw (fun y => z y.1), fun z => ?_⟩
      by_cases y : sp_atHand σ = 0
      · have s := s90 w hw (fun x => x.2 y)
        rw [y] at s ⊢
        exact ⟨fun _ => s, fun b x => (by cases x)⟩
      · have hi : itr σ k := ⟨z, y⟩
        obtain ⟨h, g1, g2, -⟩ := (sp_hand_spec σ (σ 35 0)).resolve_left (fun x => y x.1)
        have g1' : sp_atHand σ = h + 1 := g1
        have hih : cL B 2 h := hR.i (by rw [Qt_o _ _ _ _ _ (by decide)]; exact g2)
        have e20 : d 2 0 h = σ 36 h := by
          rw [eov 2 0 h (by decide) (by decide) (by decide), (hR.h10.1 h (by rw [Qt_o _ _ _ _ _ (by decide)]; exact g2)).1]
          exact Qt_o _ _ _ _ _ (by decide)
        have ew : whoc σ k = 1000 + σ 36 h := by
          unfold whoc
          rw [if_pos hi, g1', Nat.add_sub_cancel]
        have s := s101 d dd μ hQ hov (by rw [Qt_same (Or.inr hi)]; exact hR) h16 hL ed0 ed11 ed12 ed6 rfl rfl
        rw [g1'] at s ⊢
        refine ⟨fun x => (by cases x), fun b x => ?_⟩
        cases x
        refine ⟨hQ.t2 hih, ?_⟩
        rw [hQ.i2_0 hih, e20, show (1000 : Int32) = nI 1000 from rfl, nI_add, ← ew]
        exact bk_T_passMicroseconds_87 s
    have ewho : ¬ itr σ k → sp_running σ k = whoc σ k := fun z => by
      unfold whoc
      rw [if_neg z]
    refine bk_T_passMicroseconds_49 ?_
    by_cases ht : sp_running σ k = 0
    · have s := s65 0 (fun z => by rw [← ewho z]; exact ht.symm)
      rw [ht] at s ⊢
      exact ⟨fun _ => s, fun b z => (by cases z)⟩
    · have hr := (sp_running_spec σ k).resolve_left (fun z => ht z.1)
      have htv : 1 ≤ sp_running σ k ∧ sp_running σ k ≤ Qt σ q k 1 0 := by
        rw [Qt_o _ _ _ _ _ (by decide)]
        exact hr.1
      have hkt := hR.k htv
      have e80 : d 8 0 (sp_running σ k) = sp_running σ k := (eov 8 0 _ (by decide) (by decide) (by decide)).trans (hR.h2 _ htv).1
      have s := s65 (sp_running σ k) ewho
      rw [enc_s ht] at s ⊢
      refine ⟨fun z => (by cases z), fun b z => ?_⟩
      cases z
      refine ⟨hQ.t8 hkt, ?_⟩
      rw [hQ.i8_0 hkt, e80]
      exact s
end CS
