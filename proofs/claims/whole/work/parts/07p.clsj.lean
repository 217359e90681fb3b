theorem cc_id {c : cc_S} {K p i v : Nat} (h : c K p i = v) : cc_u c K p i v = c := by
  funext K' p' i'
  unfold cc_u
  split
  · split
    · split
      · rename_i h1 h2 h3
        rw [h1, h2, h3]
        exact h.symm
      · rfl
    · rfl
  · rfl
theorem sp_ht_cg {σ τ : ss_S} (t : Nat) (h2 : τ 2 t = σ 2 t) (h22 : ∀ j, τ 22 j = σ 22 j) (h24 : ∀ j, τ 24 j = σ 24 j) : ∀ n, sp_ht τ t n = sp_ht σ t n := by
  intro n
  induction n with
  | zero => exact h2
  | succ n ih =>
    unfold sp_ht
    rw [ih, h22, h24]
theorem sp_best_cg {σ τ : ss_S} (k was : Nat) (h2 : ∀ j, τ 2 j = σ 2 j) (h3 : ∀ j, τ 3 j = σ 3 j) (h12 : ∀ j, τ 12 j = σ 12 j) (h22 : ∀ j, τ 22 j = σ 22 j) (h24 : ∀ j, τ 24 j = σ 24 j) (h11 : ∀ j, σ 3 j = k → τ 11 j = σ 11 j) : ∀ n, sp_best τ k was n = sp_best σ k was n := by
  have hh : ∀ t, sp_height τ t = sp_height σ t := fun t => sp_ht_cg t (h2 t) h22 h24 32
  intro n
  induction n with
  | zero =>
    unfold sp_best
    rw [hh]
  | succ n ih =>
    unfold sp_best
    rw [ih, hh, h3, h12, h12]
    by_cases q : σ 3 (n + 1) = k
    · rw [h11 _ q]
    · rw [if_neg (fun z => q z.1), if_neg (fun z => q z.1)]
theorem sp_run_cg {σ τ : ss_S} (k : Nat) (h3 : ∀ j, τ 3 j = σ 3 j) (h11 : ∀ j, σ 3 j = k → τ 11 j = σ 11 j) : ∀ n, sp_run τ k n = sp_run σ k n := by
  intro n
  induction n with
  | zero => rfl
  | succ n ih =>
    unfold sp_run
    rw [ih, h3]
    by_cases q : σ 3 (n + 1) = k
    · rw [h11 _ q]
    · rw [if_neg (fun z => q z.1), if_neg (fun z => q z.1)]
theorem sp_upd_same {σ : ss_S} {w : Nat} (hw : w ≠ 0) (h : σ 11 w = 2) : sp_upd σ w w = ss_u σ 19 w 0 := by
  unfold sp_upd
  rw [if_neg hw, if_neg hw]
  funext g j
  by_cases hg : g = 11
  · subst hg
    rw [ss_ue, ss_ue]
    by_cases hj : j = w
    · rw [if_pos hj, hj]
      exact h.symm
    · rw [if_neg hj, if_neg hj]
  · rw [ss_uf _ _ _ _ hg, ss_uf _ _ _ _ hg]
/-- what the best so far is -/
def binv (σ : ss_S) (k was : Nat) (p : Nat × Nat) : Prop :=
  (was = 0 ∧ p = (0, 0)) ∨ ((1 ≤ p.1 ∧ p.1 ≤ σ 1 0) ∧ σ 3 p.1 = k ∧ p.2 = sp_height σ p.1 + 1 ∧ ((p.1 = was ∧ σ 11 p.1 = 2) ∨ (p.1 ≠ was ∧ σ 11 p.1 = 1)))
section CJ
variable {G : mj_G} {B : cl_B} {e t0 t1 b : Nat} {σ : ss_S} {c : cc_S} {μ μ0 : mj_MM} {Ex : Option Value → mj_MM → Prop} {N S : Nat}
theorem rl_chooseC (hQ : cl_Q B c μ0 μ) (hP : REP B e t0 t1 σ c) (h24 : r24 σ) (k was : Nat) (hw : was = 0 ∨ σ 11 was = 2) (V1 V2 : Option Nat) : ∀ (L : List Nat) (v : Nat) (p : Nat × Nat), ch (c 8 17) v L → (∀ t ∈ L, (1 ≤ t ∧ t ≤ σ 1 0) ∧ σ 3 t = k) → binv σ k was p →
    (∀ p', p' = L.foldl (bstep σ was) p → binv σ k was p' → mj_J G mY_T_choose Ex N S 37 [(1, va_rf V1), (2, va_rf V2), (3, va_rf (cl_ref B 8 (enc p'.1))), (4, va_rf none)] [] μ) →
    mj_J G mY_T_choose Ex N S 37 [(1, va_rf V1), (2, va_rf V2), (3, va_rf (cl_ref B 8 (enc p.1))), (4, va_rf (cl_ref B 8 v))] [] μ := by
  intro L
  induction L with
  | nil =>
    intro v p hc hl hp he
    have hv : v = 0 := hc
    subst hv
    exact he p rfl hp
  | cons t L ih =>
    intro v p hc hl hp he
    obtain ⟨hv, hc⟩ := hc
    subst hv
    obtain ⟨ht, h3⟩ := hl t (List.mem_cons_self ..)
    have hkt := hP.k ht
    have e9 : c 8 9 t = σ 11 t := hP.h3.1 t ht
    have b9 := hQ.b 8 9 t (by decide)
    have hl' : ∀ t ∈ L, (1 ≤ t ∧ t ≤ σ 1 0) ∧ σ 3 t = k := fun x hx => hl x (List.mem_cons_of_mem _ hx)
    refine bk_T_choose_37 ⟨fun z => (by cases z), fun b z => ?_⟩
    cases z
    rw [hQ.i8_9 hkt, hQ.r8_17 hkt, e9, mj_z1 (by omega)]
    refine ⟨hQ.t8 hkt, fun q => ?_, fun q => ?_⟩
    · refine ih _ p hc hl' hp (fun p' h1 h2 => he p' ?_ h2)
      rw [h1]
      show _ = L.foldl (bstep σ was) (bstep σ was p t)
      unfold bstep
      rw [if_neg (fun z => q z.1)]
    · have htw : t ≠ was := fun z => by
        rcases hw with y | y
        · omega
        · rw [← z] at y
          omega
      have hnew : binv σ k was (t, sp_height σ t + 1) := Or.inr ⟨ht, h3, rfl, Or.inr ⟨htw, q⟩⟩
      have et : cl_ref B 8 (t + 1) = cl_ref B 8 (enc t) := by rw [enc_s (by omega)]
      rcases hp with ⟨hp0, hp⟩ | ⟨p1, p2, p3, p4⟩
      · subst hp
        refine ⟨fun _ => ?_, fun b z => (by cases z)⟩
        show mj_J G mY_T_choose Ex N S 37 [(1, va_rf V1), (2, va_rf V2), (3, va_rf (cl_ref B 8 (t + 1))), (4, va_rf (cl_ref B 8 (c 8 17 t)))] [] μ
        rw [et]
        refine ih _ (t, sp_height σ t + 1) hc hl' hnew (fun p' h1 h2 => he p' ?_ h2)
        rw [h1]
        show _ = L.foldl (bstep σ was) (bstep σ was (0, 0) t)
        unfold bstep
        rw [if_pos ⟨q, Or.inl (by show 0 < _; omega)⟩]
      · rw [enc_s (by omega)]
        refine ⟨fun z => (by cases z), fun b z => ?_⟩
        cases z
        refine ⟨_, lc_comesBefore hQ hP h24 t p.1 ht p1, fun x μ1 h r1 r2 => ?_⟩
        obtain ⟨hx, rfl⟩ := h
        have ei : (sp_height σ p.1 < sp_height σ t ∨ (sp_height σ p.1 = sp_height σ t ∧ σ 11 p.1 ≠ 2 ∧ σ 12 t < σ 12 p.1)) ↔ (p.2 < sp_height σ t + 1 ∨ (p.2 = sp_height σ t + 1 ∧ p.1 ≠ was ∧ σ 12 t < σ 12 p.1)) := by
          omega
        refine bk_T_choose_61 ⟨fun z => ⟨_, rfl, hQ.t8 hkt, ?_⟩, fun z => ⟨_, rfl, hQ.t8 hkt, ?_⟩⟩
        · have hc1 : ¬ (sp_height σ p.1 < sp_height σ t ∨ (sp_height σ p.1 = sp_height σ t ∧ σ 11 p.1 ≠ 2 ∧ σ 12 t < σ 12 p.1)) := fun y => by
            rw [hx, if_pos y] at z
            exact absurd z (by decide)
          rw [hQ.r8_17 hkt]
          have := ih (c 8 17 t) p hc hl' (Or.inr ⟨p1, p2, p3, p4⟩) (fun p' h1 h2 => he p' ?_ h2)
          · rw [enc_s (by omega)] at this
            exact this
          · rw [h1]
            show _ = L.foldl (bstep σ was) (bstep σ was p t)
            unfold bstep
            rw [if_neg (fun y => hc1 (ei.mpr y.2))]
        · have hc1 : sp_height σ p.1 < sp_height σ t ∨ (sp_height σ p.1 = sp_height σ t ∧ σ 11 p.1 ≠ 2 ∧ σ 12 t < σ 12 p.1) := by
            apply Decidable.byContradiction
            intro y
            rw [hx, if_neg y] at z
            exact z rfl
          rw [hQ.r8_17 hkt]
          have := ih (c 8 17 t) (t, sp_height σ t + 1) hc hl' hnew (fun p' h1 h2 => he p' ?_ h2)
          · rw [← et] at this
            exact this
          · rw [h1]
            show _ = L.foldl (bstep σ was) (bstep σ was p t)
            unfold bstep
            rw [if_pos ⟨q, ei.mp hc1⟩]
theorem lc_choose (hQ : cl_Q B c μ0 μ) (hP : REP B e t0 t1 σ c) (h24 : r24 σ) (k : Nat) (hk : k < σ 0 0) : lc_W G my_T_choose mY_T_choose B e t0 t1 (sp_choose σ k) μ0 μ [va_rf (some (cD B 1 k))] := by
  have hck := hP.co hk
  have hT := hP.v.1
  have hC := hP.v.2.1.2
  have er := hP.run k hk
  have h4 := hP.h4 k hk
  have hQ1 := hQ.pI 1 6 k 0 hck (by decide) (by decide)
  have hmem : ∀ t ∈ onl (σ 3) k (σ 1 0), (1 ≤ t ∧ t ≤ σ 1 0) ∧ σ 3 t = k := fun t h => (onl_mem (σ 3) k (σ 1 0) t).mp h
  refine mj_of (by decide) rfl (by decide) (Nat.le_of_ble_eq_true rfl) rfl ⟨Nat.le_refl _, Nat.le_refl _⟩ ?_
  have key : ∀ σ1, REP B e t0 t1 σ1 (cc_u c 1 6 k 0) → (∀ f j, f ≠ 19 → σ1 f j = σ f j) → (sp_running σ k = 0 → σ1 = σ) → (sp_running σ k ≠ 0 → σ1 = ss_u σ 19 (sp_running σ k) 0 ∧ σ 11 (sp_running σ k) = 2 ∧ (1 ≤ sp_running σ k ∧ sp_running σ k ≤ σ 1 0) ∧ σ 3 (sp_running σ k) = k) → sp_choose σ k = sp_upd σ (sp_running σ k) (sp_best σ k (sp_running σ k) (σ 1 0)).1 →
      mj_J G mY_T_choose (fun v μ' => mj_XV (fun μ' => CR B e t0 t1 (sp_choose σ k) μ0 μ') v μ' ∧ mj_nc μ' = mj_nc μ ∧ mj_ns μ' = mj_ns μ) (mj_nc μ) (mj_ns μ) 37 [(1, va_rf (some (cD B 1 k))), (2, va_rf (cl_ref B 8 (enc (sp_running σ k)))), (3, va_rf (cl_ref B 8 (enc (sp_running σ k)))), (4, va_rf (cl_ref B 8 (c 1 2 k)))] [] (mj_pI μ (cD B 1 k) 6 0) := by
    intro σ1 hP1 hf h0 h1 hsp
    have f1 := hf 1 0 (by decide)
    have h24' : r24 σ1 := fun r g1 g2 => by
      have := h24 r g1 g2
      rw [hf 24 r (by decide), this, hf 7 0 (by decide), show σ1 2 = σ 2 from funext fun j => hf 2 j (by decide), show σ1 8 = σ 8 from funext fun j => hf 8 j (by decide), show σ1 9 = σ 9 from funext fun j => hf 9 j (by decide), show σ1 10 = σ 10 from funext fun j => hf 10 j (by decide)]
    have hbest : ∀ w n, sp_best σ1 k w n = sp_best σ k w n := fun w n => sp_best_cg k w (fun j => hf 2 j (by decide)) (fun j => hf 3 j (by decide)) (fun j => hf 12 j (by decide)) (fun j => hf 22 j (by decide)) (fun j => hf 24 j (by decide)) (fun j _ => hf 11 j (by decide)) n
    have hhe : ∀ t, sp_height σ1 t = sp_height σ t := fun t => sp_ht_cg t (hf 2 t (by decide)) (fun j => hf 22 j (by decide)) (fun j => hf 24 j (by decide)) 32
    have hp0 : binv σ1 k (sp_running σ k) (sp_running σ k, if 0 < sp_running σ k then sp_height σ1 (sp_running σ k) + 1 else 0) := by
      by_cases q : sp_running σ k = 0
      · rw [q]
        exact Or.inl ⟨rfl, rfl⟩
      · obtain ⟨-, g2, g3, g4⟩ := h1 q
        rw [if_pos (by omega)]
        exact Or.inr ⟨by rw [f1]; exact g3, (hf 3 _ (by decide)).trans g4, rfl, Or.inl ⟨rfl, (hf 11 _ (by decide)).trans g2⟩⟩
    refine rl_chooseC hQ1 hP1 h24' k (sp_running σ k) ?_ _ _ (onl (σ 3) k (σ 1 0)) (c 1 2 k) (sp_running σ k, if 0 < sp_running σ k then sp_height σ1 (sp_running σ k) + 1 else 0) h4.2.2.1 ?_ hp0 ?_
    · by_cases q : sp_running σ k = 0
      · exact Or.inl q
      · exact Or.inr ((hf 11 _ (by decide)).trans (h1 q).2.1)
    · intro t ht
      have := hmem t ht
      exact ⟨by rw [f1]; exact this.1, (hf 3 t (by decide)).trans this.2⟩
    · intro p' hp hb
      have hp2 : p' = sp_best σ k (sp_running σ k) (σ 1 0) := by
        rw [← hbest, sp_best_fold, hp, show σ1 3 = σ 3 from funext fun j => hf 3 j (by decide)]
      rw [← hp2] at hsp
      refine bk_T_choose_37 ⟨fun _ => ?_, fun b z => (by cases z)⟩
      rcases hb with ⟨g0, g1⟩ | ⟨g1, g2, g3, g4⟩
      · rw [g1, g0]
        refine ⟨fun _ => ⟨⟨rfl, _, hQ1, ?_⟩, rfl, rfl⟩, fun b z => (by cases z)⟩
        rw [hsp, g1, g0]
        unfold sp_upd
        rw [if_pos rfl, if_pos rfl, ← h0 g0]
        exact hP1
      · rw [enc_s (by omega)]
        refine ⟨fun z => (by cases z), fun b z => ?_⟩
        cases z
        rw [f1] at g1
        have hkp := hP.k g1
        rw [hf 3 _ (by decide)] at g2
        rw [hf 11 _ (by decide)] at g4
        rcases g4 with ⟨g4, g5⟩ | ⟨g4, g5⟩
        · refine ⟨fun z => absurd (by rw [← g4, enc_s (by omega)]) z, fun _ => ⟨⟨rfl, _, hQ1, ?_⟩, rfl, rfl⟩⟩
          rw [hsp, g4, sp_upd_same (by omega) (by rw [← g4]; exact g5), ← (h1 (by omega)).1]
          exact hP1
        · have hne : ¬ cl_ref B 8 (p'.1 + 1) = cl_ref B 8 (enc (sp_running σ k)) := by
            rw [cl_ref_inj hQ.1 (Or.inr hkp) (by rw [← er]; exact hQ.l1_4 hck)]
            unfold enc
            split <;> omega
          refine ⟨fun _ => ?_, fun z => absurd z hne⟩
          by_cases q : sp_running σ k = 0
          · rw [q]
            refine ⟨fun _ => ⟨hQ.t8 hkp, _, rfl, hQ.t1 hck, ⟨rfl, _, (hQ1.pI 8 9 p'.1 2 hkp (by decide) (by decide)).pR 1 4 k (p'.1 + 1) hck (by decide) (by omega) (Or.inr hkp), ?_⟩, rfl, rfl⟩, fun b z => (by cases z)⟩
            rw [hsp, q]
            unfold sp_upd
            rw [if_neg (by omega), if_pos rfl]
            rw [h0 q] at hP1
            have := hP1.onR p'.1 g1 g5 (by rw [g2]; show c 1 4 k = 0; rw [er, q]; rfl)
            rw [g2] at this
            exact this
          · obtain ⟨w1, w2, w3, w4⟩ := h1 q
            have hkw := hP.k w3
            rw [enc_s q]
            refine ⟨fun z => (by cases z), fun b z => ?_⟩
            cases z
            refine ⟨hQ.t8 hkw, hQ.t8 hkp, _, rfl, hQ.t1 hck, ⟨rfl, _, ((hQ1.pI 8 9 (sp_running σ k) 1 hkw (by decide) (by decide)).pI 8 9 p'.1 2 hkp (by decide) (by decide)).pR 1 4 k (p'.1 + 1) hck (by decide) (by omega) (Or.inr hkp), ?_⟩, rfl, rfl⟩
            rw [hsp]
            unfold sp_upd
            rw [if_neg (by omega), if_neg q]
            have h2 := hP.offR (sp_running σ k) w3 w2
            rw [w4] at h2
            generalize sp_running σ k = w at *
            have h3 := h2.onR p'.1 g1 (by show ss_u (ss_u σ 19 w 0) 11 w 1 11 p'.1 = 1; rw [ss_ui _ _ _ _ g4]; exact g5) (by show cc_u _ 1 4 k 0 1 4 (σ 3 p'.1) = 0; rw [g2, cc_us])
            have ec : cc_u (cc_u (cc_u (cc_u (cc_u c 1 6 k 0) 8 9 w 1) 1 4 k 0) 8 9 p'.1 2) 1 4 k (p'.1 + 1) = cc_u (cc_u (cc_u (cc_u c 1 6 k 0) 8 9 w 1) 8 9 p'.1 2) 1 4 k (p'.1 + 1) := by
              funext K p i
              unfold cc_u
              by_cases z1 : K = 1
              · by_cases z2 : p = 4
                · by_cases z3 : i = k
                  · simp [z1, z2, z3]
                  · simp [z1, z2, z3]
                · simp [z1, z2]
              · simp [z1]
            rw [show ss_u (ss_u σ 19 w 0) 11 w 1 3 p'.1 = σ 3 p'.1 from rfl, g2, ec] at h3
            exact h3
  have go0 : sp_running σ k = 0 → REP B e t0 t1 σ (cc_u c 1 6 k 0) := fun q => by
    rw [cc_id (hP.h5.2.2.1 k hk (by rw [er, q]; rfl))]
    exact hP
  have go1 : sp_running σ k ≠ 0 → (1 ≤ sp_running σ k ∧ sp_running σ k ≤ σ 1 0) ∧ σ 3 (sp_running σ k) = k ∧ σ 11 (sp_running σ k) = 2 := fun q => by
    unfold sp_running at q ⊢
    rcases sp_run_spec σ k (σ 1 0) with z | z
    · exact absurd z.1 q
    · exact z
  refine bk_T_choose_0 ⟨_, rfl, hQ.t1 hck, ?_⟩
  rw [hQ.r1_4 hck, hQ.r1_2 hck, er]
  by_cases q : sp_running σ k = 0
  · have hs : sp_choose σ k = sp_upd σ (sp_running σ k) (sp_best σ k (sp_running σ k) (σ 1 0)).1 := by
      unfold sp_choose
      rw [if_neg (fun z => z.1 q)]
    have := key σ (go0 q) (fun _ _ _ => rfl) (fun _ => rfl) (fun z => absurd q z) hs
    rw [q] at this ⊢
    exact ⟨fun _ => this, fun b z => (by cases z)⟩
  · obtain ⟨w3, w4, w2⟩ := go1 q
    have hkw := hP.k w3
    have e5 : c 8 5 (sp_running σ k) = σ 6 (sp_running σ k) := (hP.h2 _ w3).2.2.2.2.2.1
    have e6 : c 1 6 k = σ 19 (sp_running σ k) := by
      have := hP.h5.2.2.2.1 _ w3 w2
      rw [w4] at this
      exact this
    have b5 := hQ.b 8 5 (sp_running σ k) (by decide)
    have b6 := hQ.b 1 6 k (by decide)
    have hst := hP.stay _ w3 w2
    rw [w4] at hst
    have kk := key (ss_u σ 19 (sp_running σ k) 0) hst (fun f j h => ss_uf _ _ _ _ h) (fun z => absurd z q) (fun _ => ⟨rfl, w2, w3, w4⟩)
    have hs : ¬ (σ 6 (sp_running σ k) = 0 ∧ σ 19 (sp_running σ k) = 0) → sp_choose σ k = sp_upd σ (sp_running σ k) (sp_best σ k (sp_running σ k) (σ 1 0)).1 := fun z => by
      unfold sp_choose
      rw [if_neg (fun y => z y.2)]
    clear key
    have es : sp_choose σ k = if σ 6 (sp_running σ k) = 0 ∧ σ 19 (sp_running σ k) = 0 then σ else sp_choose σ k := by
      split
      · rename_i z
        unfold sp_choose
        rw [if_pos ⟨q, z⟩]
      · rfl
    generalize sp_running σ k = w at *
    rw [enc_s q]
    refine ⟨fun z => (by cases z), fun b z => ?_⟩
    cases z
    rw [hQ.i8_5 hkw, hQ.i1_6 hck, e5, e6, mj_z0 (by omega), mj_z0 (by omega)]
    rw [enc_s q] at kk
    refine ⟨hQ.t8 hkw, fun z => kk (hs (fun y => z y.1)), fun z => ⟨fun z2 => kk (hs (fun y => z2 y.2)), fun z2 => ⟨⟨rfl, c, hQ, ?_⟩, rfl, rfl⟩⟩⟩
    rw [es, if_pos ⟨z, z2⟩]
    exact hP
end CJ
