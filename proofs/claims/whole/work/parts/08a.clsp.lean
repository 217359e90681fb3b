/-- what spend does -/
def cs_spend (c : cc_S) (t q : Nat) : cc_S :=
  if c 8 7 t = 0 ∨ c 6 0 (c 8 7 t - 1) ≠ 0 then cc_u c 8 14 t (c 8 14 t + q)
  else if c 8 8 t + q < c 6 1 (c 8 7 t - 1) then cc_u (cc_u c 8 14 t (c 8 14 t + q)) 8 8 t (c 8 8 t + q)
  else cc_u (cc_u (cc_u (cc_u c 8 14 t (c 8 14 t + q)) 8 8 t (c 8 8 t + q)) 8 7 t (c 6 2 (c 8 7 t - 1))) 8 8 t 0
section CP
variable {G : mj_G} {B : cl_B} {e t0 t1 b : Nat} {σ : ss_S} {c : cc_S} {μ μ0 : mj_MM} {Ex : Option Value → mj_MM → Prop} {N S : Nat}
theorem lc_spend (hQ : cl_Q B c μ0 μ) (t q : Nat) (ht : cL B 8 t) (h14 : c 8 14 t + q < 2 ^ 31) (h8 : c 8 8 t + q < 2 ^ 31) : mj_M G my_K_spend mY_K_spend [va_rf (some (cD B 8 t)), .int (nI q)] (mj_nc μ) (mj_ns μ) μ (mj_XV (fun μ' => cl_Q B (cs_spend c t q) μ0 μ')) := by
  refine mj_of (by decide) rfl (by decide) (Nat.le_of_ble_eq_true rfl) rfl ⟨Nat.le_refl _, Nat.le_refl _⟩ ?_
  refine bk_K_spend_0 ⟨hQ.t8 ht, ?_⟩
  rw [hQ.r8_7 ht, hQ.i8_14 ht, hQ.i8_8 ht, nI_add, nI_add]
  have hQ1 := hQ.pI 8 14 t (c 8 14 t + q) ht (by decide) h14
  have hl := hQ.l8_7 ht
  unfold cs_spend
  cases hp : c 8 7 t with
  | zero =>
    refine ⟨fun _ => ?_, fun b z => (by cases z)⟩
    rw [if_pos (Or.inl rfl)]
    exact ⟨⟨rfl, hQ1⟩, rfl, rfl⟩
  | succ p =>
    rw [hp] at hl
    have hpl : cL B 6 p := hl.resolve_left (by omega)
    have b0 := hQ.b 6 0 p (by decide)
    have b1 := hQ.b 6 1 p (by decide)
    refine ⟨fun z => (by cases z), fun b z => ?_⟩
    cases z
    rw [hQ.i6_0 hpl, hQ.i6_1 hpl, hQ.r6_2 hpl, mj_z0 b0, mj_lt h8 b1, Nat.add_sub_cancel]
    refine ⟨hQ.t6 hpl, fun z => ⟨fun z2 => ?_, fun z2 => ?_⟩, fun z => ?_⟩
    · rw [if_neg (by omega), if_pos z2]
      exact ⟨⟨rfl, hQ1.pI 8 8 t (c 8 8 t + q) ht (by decide) h8⟩, rfl, rfl⟩
    · rw [if_neg (by omega), if_neg z2]
      exact ⟨⟨rfl, ((hQ1.pI 8 8 t (c 8 8 t + q) ht (by decide) h8).pR 8 7 t (c 6 2 p) ht (by decide) (hQ.b 6 2 p (by decide)) (hQ.l6_2 hpl)).pI 8 8 t 0 ht (by decide) (by decide)⟩, rfl, rfl⟩
    · rw [if_pos (Or.inr z)]
      exact ⟨⟨rfl, hQ1⟩, rfl, rfl⟩
/-- how long a task that passes has to its part's end -/
def lv (σ : ss_S) (t : Nat) : Nat := if σ 26 t ≠ 0 then 1000000 else if σ 16 t ≠ 0 then 1 else lft σ t
/-- a task that passes spins, starts or runs -/
def psg (σ : ss_S) (t : Nat) : Prop := σ 26 t ≠ 0 ∨ σ 16 t ≠ 0 ∨ ∃ k, sp_next σ t = some k ∧ σ 9 k = 0
/-- what is spent of a RUN -/
theorem REP.rest (hP : REP B e t0 0 σ c) (t k : Nat) (ht : 1 ≤ t ∧ t ≤ σ 1 0) (h11 : σ 11 t ≠ 0) (h16 : σ 16 t = 0) (hk : pq (σ 8) (σ 7 0) t (σ 14 t) = k + 1) (hn : sp_next σ t = some k) (h9 : σ 9 k = 0) : c 8 8 t + lft σ t = σ 10 k ∧ 1 ≤ lft σ t := by
  have w3 := (pq_next hk).2.2
  obtain ⟨g1, g2, g3, -⟩ := an_gd (hP.h6.1 k w3).2.2.2.2.2
  have g3 := g3 h9
  unfold lft
  by_cases h15 : σ 15 t = 0
  · rw [if_neg (fun z => z h15), hn, hP.h7.2.1 t ht (Or.inr (Or.inr h15))]
    show 0 + σ 10 k = _ ∧ 1 ≤ σ 10 k
    omega
  · obtain ⟨y1, k', y2, y3, y4⟩ := hP.h7.2.2 t ht h11 h16 h15
    have : k' = k := by omega
    subst this
    rw [if_pos h15]
    omega
theorem lc_left (hQ : cl_Q B c μ0 μ) (hP : REP B e t0 0 σ c) (t : Nat) (ht : 1 ≤ t ∧ t ≤ σ 1 0) (h11 : σ 11 t ≠ 0) (hp : psg σ t) : mj_M G my_K_leftOfPart mY_K_leftOfPart [va_rf (some (cD B 8 t))] (mj_nc μ) (mj_ns μ) μ (mj_XI (fun x μ' => x = nI (lv σ t) ∧ μ' = μ)) := by
  have hkt := hP.k ht
  have e7 := hP.h7.1 t ht (by omega) h11
  refine mj_of (by decide) rfl (by decide) (Nat.le_of_ble_eq_true rfl) rfl ⟨Nat.le_refl _, Nat.le_refl _⟩ ?_
  refine bk_K_leftOfPart_0 ⟨hQ.t8 hkt, ?_⟩
  rw [hQ.r8_7 hkt, hQ.i8_8 hkt, e7]
  by_cases h26 : σ 26 t = 0
  · by_cases h16 : σ 16 t = 0
    · have elv : lv σ t = lft σ t := by
        unfold lv
        rw [if_neg (fun z => z h26), if_neg (fun z => z h16)]
      rw [if_pos h16, elv]
      obtain ⟨k, n1, n9⟩ : ∃ k, sp_next σ t = some k ∧ σ 9 k = 0 := by
        rcases hp with z | z | z
        · exact absurd h26 z
        · exact absurd h16 z
        · exact z
      have n2 : pq (σ 8) (σ 7 0) t (σ 14 t) = k + 1 := by
        rcases sp_next_eq σ t with ⟨z, -⟩ | ⟨q, z1, z2⟩
        · rw [n1] at z
          cases z
        · rw [n1] at z1
          cases z1
          exact z2
      have w3 := (pq_next n2).2.2
      have hkp := hP.p w3
      obtain ⟨p0, p1, -⟩ := hP.h6.1 k w3
      obtain ⟨r1, r2⟩ := hP.rest t k ht h11 h16 n2 n1 n9
      rw [n2]
      refine ⟨fun z => (by cases z), fun b z => ?_⟩
      cases z
      rw [hQ.i6_0 hkp, hQ.i6_1 hkp, p0, p1, n9]
      refine ⟨hQ.t6 hkp, fun z => absurd rfl z, fun _ => ⟨⟨_, rfl, ?_, rfl⟩, rfl, rfl⟩⟩
      rw [nI_subN (by omega)]
      congr 1
      omega
    · have elv : lv σ t = 1 := by
        unfold lv
        rw [if_neg (fun z => z h26), if_pos h16]
      rw [if_neg h16, elv]
      have hps := hP.ps ht
      have e0 : c 6 0 (1000 + t) = 0 := (hP.h6.2 t ht).1
      have e1 : c 6 1 (1000 + t) = 1 := (hP.h6.2 t ht).2.1
      have e8 : c 8 8 t = 0 := hP.h7.2.1 t ht (Or.inr (Or.inl h16))
      refine ⟨fun z => (by cases z), fun b z => ?_⟩
      cases z
      rw [hQ.i6_0 hps, hQ.i6_1 hps, e0, e1, e8]
      exact ⟨hQ.t6 hps, fun z => absurd rfl z, fun _ => ⟨⟨_, rfl, rfl, rfl⟩, rfl, rfl⟩⟩
  · have elv : lv σ t = 1000000 := by
      unfold lv
      rw [if_pos h26]
    rw [elv]
    obtain ⟨g1, g2, g3, g4, g5, g6, k, g7, g8, g9⟩ := hP.h9.2.2.2 t ht h26
    have w3 := (pq_next g7).2.2
    have hkp := hP.p w3
    obtain ⟨p0, p1, -⟩ := hP.h6.1 k w3
    rw [if_pos g3, g7]
    refine ⟨fun z => (by cases z), fun b z => ?_⟩
    cases z
    rw [hQ.i6_0 hkp, p0, g8]
    exact ⟨hQ.t6 hkp, fun _ => ⟨⟨_, rfl, rfl, rfl⟩, rfl, rfl⟩, fun z => absurd z (by decide)⟩
/-- q microseconds of a task that passes -/
theorem REP.passq (hP : REP B e 0 0 σ c) (t q : Nat) (ht : 1 ≤ t ∧ t ≤ σ 1 0) (h11 : σ 11 t ≠ 0) (hp : psg σ t) (hq : q ≤ lv σ t) (hq1 : 1 ≤ q) (hs : σ 16 t ≠ 0 → σ 14 t = 0) : REP B e 0 0 (spq σ t q) (cs_spend c t q) := by
  have hkt := hP.k ht
  have e7 := hP.h7.1 t ht (by omega) h11
  have hrest := fun k => hP.rest t k ht h11
  have hps0 := hP.h6.2 t ht
  obtain ⟨hb, h1, h2, ⟨h3a, h3b, h3c, h3d, h3e, h3f⟩, h4, h5, h6, ⟨h7a, h7b, h7c⟩, h8, ⟨h9a, h9b, h9c, h9d⟩, h10, h11', h12, h13, ⟨h14a, h14b, h14c⟩, h15, h16⟩ := hP
  have e14 : c 8 14 t = σ 20 t := h3f t ht
  unfold spq cs_spend
  by_cases h26 : σ 26 t = 0
  · rw [if_neg (fun z => z h26)]
    by_cases hz : σ 16 t = 0
    · obtain ⟨k, n1, n9⟩ : ∃ k, sp_next σ t = some k ∧ σ 9 k = 0 := by
        rcases hp with z | z | z
        · exact absurd h26 z
        · exact absurd hz z
        · exact z
      have n2 : pq (σ 8) (σ 7 0) t (σ 14 t) = k + 1 := by
        rcases sp_next_eq σ t with ⟨z, -⟩ | ⟨q, z1, z2⟩
        · rw [n1] at z
          cases z
        · rw [n1] at z1
          cases z1
          exact z2
      obtain ⟨w1, w2, w3⟩ := pq_next n2
      obtain ⟨p0, p1, p2, -⟩ := h6.1 k w3
      obtain ⟨r1, r2⟩ := hrest k hz n2 n1 n9
      have hlv : q ≤ lft σ t := by
        unfold lv at hq
        rw [if_neg (fun z => z h26), if_neg (fun z => z hz)] at hq
        exact hq
      rw [if_pos hz, n2] at e7
      rw [if_neg (fun z => z hz), e7, Nat.add_sub_cancel, p0, p1, if_neg (show ¬ (k + 1 = 0 ∨ σ 9 k ≠ 0) by omega), e14]
      by_cases hl : lft σ t ≤ q
      · rw [if_pos hl, if_neg (by omega)]
        refine ⟨hb, h1, h2, ⟨h3a, h3b, h3c, h3d, h3e, eq_u h3f t _⟩, h4, h5, h6, ⟨fun t' ht' hn hs' => ?_, fun t' ht' hs' => ?_, fun t' ht' q1 q2 q3 => ?_⟩, h8, ⟨h9a, h9b, h9c, fun t' ht' hs' => ?_⟩, h10, h11', h12, h13, ⟨h14a, h14b, fun t' ht' => ?_⟩, h15, (((h16.u 8 14 t _ (Or.inl hkt)).u 8 8 t _ (Or.inl hkt)).u 8 7 t _ (Or.inl hkt)).u 8 8 t _ (Or.inl hkt)⟩
        · show cc_u _ 8 7 t (c 6 2 k) 8 7 t' = if σ 16 t' = 0 then pq (σ 8) (σ 7 0) t' (ss_u _ 14 t (σ 14 t + 1) 14 t') else 1000 + t' + 1
          rw [cc_ue, ss_ue]
          by_cases z : t' = t
          · rw [if_pos z, if_pos z, z, if_pos hz, w1, p2, w2]
          · rw [if_neg z, if_neg z]
            exact h7a t' ht' hn hs'
        · show cc_u _ 8 8 t 0 8 8 t' = 0
          rw [cc_ue]
          by_cases z : t' = t
          · rw [if_pos z]
          · rw [if_neg z]
            show cc_u _ 8 8 t (c 8 8 t + q) 8 8 t' = 0
            rw [cc_ui _ _ _ _ z]
            refine h7b t' ht' ?_
            rcases hs' with y | y | y
            · exact Or.inl y
            · exact Or.inr (Or.inl y)
            · have y' : ss_u _ 15 t 0 15 t' = 0 := y
              rw [ss_ui _ _ _ _ z] at y'
              exact Or.inr (Or.inr y')
        · have y' : ss_u (ss_u σ 20 t (σ 20 t + q)) 15 t 0 15 t' ≠ 0 := q3
          have z : t' ≠ t := fun z => by
            rw [z, ss_us] at y'
            exact y' rfl
          rw [ss_ui _ _ _ _ z] at y'
          obtain ⟨f1, k', f2, f3, f4⟩ := h7c t' ht' q1 q2 y'
          have a15 : ss_u (ss_u (ss_u σ 20 t (σ 20 t + q)) 15 t 0) 14 t (σ 14 t + 1) 15 t' = σ 15 t' := by
            show ss_u (ss_u σ 20 t (σ 20 t + q)) 15 t 0 15 t' = _
            rw [ss_ui _ _ _ _ z]
            rfl
          have a14 : ss_u (ss_u (ss_u σ 20 t (σ 20 t + q)) 15 t 0) 14 t (σ 14 t + 1) 14 t' = σ 14 t' := by
            rw [ss_ui _ _ _ _ z]
            rfl
          have a88 : cc_u (cc_u (cc_u (cc_u c 8 14 t (σ 20 t + q)) 8 8 t (c 8 8 t + q)) 8 7 t (c 6 2 k)) 8 8 t 0 8 8 t' = c 8 8 t' := by
            rw [cc_ui _ _ _ _ z]
            show cc_u _ 8 8 t (c 8 8 t + q) 8 8 t' = _
            rw [cc_ui _ _ _ _ z]
            rfl
          rw [a15, a14, a88]
          exact ⟨f1, k', f2, f3, f4⟩
        · have z : t' ≠ t := fun z => by
            rw [z] at hs'
            exact hs' h26
          obtain ⟨f1, f2, f3, f4, f5⟩ := h9d t' ht' hs'
          refine ⟨f1, f2, f3, ?_, ?_⟩
          · show ss_u _ 15 t 0 15 t' = 0
            rw [ss_ui _ _ _ _ z]
            exact f4
          · have a14 : ss_u (ss_u (ss_u σ 20 t (σ 20 t + q)) 15 t 0) 14 t (σ 14 t + 1) 14 t' = σ 14 t' := by
              rw [ss_ui _ _ _ _ z]
              rfl
            rw [a14]
            exact f5
        · have z : t' ≠ t := fun z => by
            have : σ 1 0 < t' := ht'
            omega
          have this := h14c t' ht'
          simp [ss_u, z]
          exact this
      · rw [if_neg hl, if_pos (by omega)]
        refine ⟨hb, h1, h2, ⟨h3a, h3b, h3c, h3d, h3e, eq_u h3f t _⟩, h4, h5, h6, ⟨h7a, fun t' ht' hs' => ?_, fun t' ht' q1 q2 q3 => ?_⟩, h8, ⟨h9a, h9b, h9c, fun t' ht' hs' => ?_⟩, h10, h11', h12, h13, ⟨h14a, h14b, fun t' ht' => ?_⟩, h15, (h16.u 8 14 t _ (Or.inl hkt)).u 8 8 t _ (Or.inl hkt)⟩
        · have z : t' ≠ t := fun z => by
            rcases hs' with y | y | y
            · rw [z] at y
              exact h11 y
            · rw [z] at y
              exact y hz
            · have y' : ss_u (ss_u σ 20 t (σ 20 t + q)) 15 t (lft σ t - q + 1) 15 t' = 0 := y
              rw [z, ss_us] at y'
              omega
          show cc_u _ 8 8 t (c 8 8 t + q) 8 8 t' = 0
          rw [cc_ui _ _ _ _ z]
          refine h7b t' ht' ?_
          rcases hs' with y | y | y
          · exact Or.inl y
          · exact Or.inr (Or.inl y)
          · have y' : ss_u (ss_u σ 20 t (σ 20 t + q)) 15 t (lft σ t - q + 1) 15 t' = 0 := y
            rw [ss_ui _ _ _ _ z] at y'
            exact Or.inr (Or.inr y')
        · show 2 ≤ ss_u (ss_u σ 20 t (σ 20 t + q)) 15 t (lft σ t - q + 1) 15 t' ∧ ∃ k, pq (σ 8) (σ 7 0) t' (σ 14 t') = k + 1 ∧ σ 9 k = 0 ∧ cc_u (cc_u c 8 14 t (σ 20 t + q)) 8 8 t (c 8 8 t + q) 8 8 t' + ss_u (ss_u σ 20 t (σ 20 t + q)) 15 t (lft σ t - q + 1) 15 t' = σ 10 k + 1
          by_cases z : t' = t
          · rw [z, ss_us, cc_us]
            exact ⟨by omega, k, n2, n9, by omega⟩
          · have y' : ss_u (ss_u σ 20 t (σ 20 t + q)) 15 t (lft σ t - q + 1) 15 t' ≠ 0 := q3
            rw [ss_ui _ _ _ _ z] at y'
            rw [ss_ui _ _ _ _ z, cc_ui _ _ _ _ z]
            exact h7c t' ht' q1 q2 y'
        · have z : t' ≠ t := fun z => by
            rw [z] at hs'
            exact hs' h26
          obtain ⟨f1, f2, f3, f4, f5⟩ := h9d t' ht' hs'
          refine ⟨f1, f2, f3, ?_, f5⟩
          show ss_u _ 15 t _ 15 t' = 0
          rw [ss_ui _ _ _ _ z]
          exact f4
        · have z : t' ≠ t := fun z => by
            have : σ 1 0 < t' := ht'
            omega
          have this := h14c t' ht'
          simp [ss_u, z]
          exact this
    · have hs0 := hs hz
      have e8 : c 8 8 t = 0 := h7b t ht (Or.inr (Or.inl hz))
      have hq2 : q = 1 := by
        unfold lv at hq
        rw [if_neg (fun z => z h26), if_pos hz] at hq
        omega
      rw [if_neg hz] at e7
      rw [if_pos hz, e7, Nat.add_sub_cancel, hps0.1, hps0.2.1, if_neg (show ¬ (1000 + t + 1 = 0 ∨ (0 : Nat) ≠ 0) by omega), e8, e14, if_neg (by omega)]
      refine ⟨hb, h1, h2, ⟨h3a, h3b, h3c, h3d, h3e, eq_u h3f t _⟩, h4, h5, h6, ⟨fun t' ht' hn hs' => ?_, fun t' ht' hs' => ?_, fun t' ht' q1 q2 q3 => ?_⟩, h8, ⟨h9a, h9b, h9c, fun t' ht' hs' => ?_⟩, h10, h11', h12, h13, ⟨h14a, h14b, fun t' ht' => ?_⟩, h15, (((h16.u 8 14 t _ (Or.inl hkt)).u 8 8 t _ (Or.inl hkt)).u 8 7 t _ (Or.inl hkt)).u 8 8 t _ (Or.inl hkt)⟩
      · show cc_u _ 8 7 t (c 6 2 (1000 + t)) 8 7 t' = if ss_u _ 16 t 0 16 t' = 0 then pq (σ 8) (σ 7 0) t' (σ 14 t') else 1000 + t' + 1
        rw [cc_ue, ss_ue]
        by_cases z : t' = t
        · rw [if_pos z, if_pos z, if_pos rfl, z, hs0, pq_0, hps0.2.2]
        · rw [if_neg z, if_neg z]
          exact h7a t' ht' hn hs'
      · show cc_u _ 8 8 t 0 8 8 t' = 0
        rw [cc_ue]
        by_cases z : t' = t
        · rw [if_pos z]
        · rw [if_neg z]
          show cc_u _ 8 8 t _ 8 8 t' = 0
          rw [cc_ui _ _ _ _ z]
          refine h7b t' ht' ?_
          rcases hs' with y | y | y
          · exact Or.inl y
          · have y' : ss_u _ 16 t 0 16 t' ≠ 0 := y
            rw [ss_ui _ _ _ _ z] at y'
            exact Or.inr (Or.inl y')
          · have y' : ss_u _ 15 t 0 15 t' = 0 := y
            rw [ss_ui _ _ _ _ z] at y'
            exact Or.inr (Or.inr y')
      · have y' : ss_u (ss_u (ss_u σ 20 t (σ 20 t + q)) 16 t 0) 15 t 0 15 t' ≠ 0 := q3
        have z : t' ≠ t := fun z => by
          rw [z, ss_us] at y'
          exact y' rfl
        have q2' : ss_u (ss_u σ 20 t (σ 20 t + q)) 16 t 0 16 t' = 0 := q2
        rw [ss_ui _ _ _ _ z] at y' q2'
        obtain ⟨f1, k', f2, f3, f4⟩ := h7c t' ht' q1 q2' y'
        refine ⟨?_, k', f2, f3, ?_⟩
        · show 2 ≤ ss_u _ 15 t 0 15 t'
          rw [ss_ui _ _ _ _ z]
          exact f1
        · rw [cc_ui _ _ _ _ z, ss_ui _ _ _ _ z]
          show cc_u _ 8 8 t _ 8 8 t' + σ 15 t' = _
          rw [cc_ui _ _ _ _ z]
          exact f4
      · have z : t' ≠ t := fun z => by
          rw [z] at hs'
          exact hs' h26
        obtain ⟨f1, f2, f3, f4, f5⟩ := h9d t' ht' hs'
        refine ⟨f1, f2, ?_, ?_, f5⟩
        · show ss_u _ 16 t 0 16 t' = 0
          rw [ss_ui _ _ _ _ z]
          exact f3
        · rw [ss_ui _ _ _ _ z]
          exact f4
      · have z : t' ≠ t := fun z => by
          have : σ 1 0 < t' := ht'
          omega
        have this := h14c t' ht'
        simp [ss_u, z]
        exact this
  · rw [if_pos h26]
    obtain ⟨g1, g2, g3, g4, g5, g6, k, g7, g8, g9⟩ := h9d t ht h26
    have w3 := (pq_next g7).2.2
    rw [if_pos g3, g7] at e7
    rw [e7, Nat.add_sub_cancel, (h6.1 k w3).1, if_pos (Or.inr (show σ 9 k ≠ 0 by omega)), e14]
    refine ⟨hb, h1, h2, ⟨h3a, h3b, h3c, h3d, h3e, eq_u h3f t _⟩, h4, h5, h6, ⟨h7a, h7b, h7c⟩, h8, ⟨h9a, h9b, h9c, h9d⟩, h10, h11', h12, h13, ⟨h14a, h14b, fun t' ht' => ?_⟩, h15, h16.u 8 14 t _ (Or.inl hkt)⟩
    have z : t' ≠ t := fun z => by
      have : σ 1 0 < t' := ht'
      omega
    have this := h14c t' ht'
    simp [ss_u, z]
    exact this
end CP
