def nfd (σ : ss_S) : List Nat → Nat → Nat
  | [], a => a
  | k :: L, a => nfd σ L (if σ 37 k ≤ σ 43 0 then a else if σ 37 k < a then σ 37 k else a)
theorem nfd_spec (σ : ss_S) : ∀ (L : List Nat) (a : Nat), σ 43 0 < a → σ 43 0 < nfd σ L a ∧ nfd σ L a ≤ a ∧ ∀ k ∈ L, σ 43 0 < σ 37 k → nfd σ L a ≤ σ 37 k := by
  intro L
  induction L with
  | nil => exact fun a h => ⟨h, Nat.le_refl _, fun k h => (by cases h)⟩
  | cons x L ih =>
    intro a h
    have h1 : σ 43 0 < (if σ 37 x ≤ σ 43 0 then a else if σ 37 x < a then σ 37 x else a) := by
      split
      · exact h
      · split <;> omega
    obtain ⟨i1, i2, i3⟩ := ih _ h1
    have h2 : (if σ 37 x ≤ σ 43 0 then a else if σ 37 x < a then σ 37 x else a) ≤ a := by
      split
      · exact Nat.le_refl _
      · split <;> omega
    refine ⟨i1, Nat.le_trans i2 h2, fun k hk hk2 => ?_⟩
    rcases List.mem_cons.mp hk with z | z
    · refine Nat.le_trans i2 ?_
      rw [z] at hk2 ⊢
      rw [if_neg (by omega)]
      split <;> omega
    · exact i3 k z hk2
section CQ
variable {G : mj_G} {B : cl_B} {e t0 t1 b : Nat} {σ : ss_S} {c : cc_S} {μ μ0 : mj_MM} {Ex : Option Value → mj_MM → Prop} {N S : Nat}
theorem rl_nextC (hQ : cl_Q B c μ0 μ) (hP : REP B e t0 t1 σ c) : ∀ (L : List Nat) (v a : Nat), a < 2 ^ 31 → ch (c 2 3) v L → (∀ k ∈ L, k < σ 35 0) → Ex (some (.int (nI (nfd σ L a)))) μ → mj_J G mY_U_nextChange Ex N S 30 [(1, .int (nI (σ 43 0))), (2, .int (nI a)), (3, va_rf (cl_ref B 2 v))] [] μ := by
  have hnow : σ 43 0 ≤ 50000 := hP.v.2.2.2.2.2.2.2.2.2
  intro L
  induction L with
  | nil =>
    intro v a ha hc hl he
    have hv : v = 0 := hc
    subst hv
    exact bk_U_nextChange_30 ⟨fun _ => he, fun b z => (by cases z)⟩
  | cons k L ih =>
    intro v a ha hc hl he
    obtain ⟨hv, hc⟩ := hc
    subst hv
    have hk := hl k (List.mem_cons_self ..)
    have hik := hP.i hk
    have e1 := (hP.h10.1 k hk).2.1
    have b1 := hQ.b 2 1 k (by decide)
    have hl' : ∀ k ∈ L, k < σ 35 0 := fun x hx => hl x (List.mem_cons_of_mem _ hx)
    unfold nfd at he
    refine bk_U_nextChange_30 ⟨fun z => (by cases z), fun b z => ?_⟩
    cases z
    rw [hQ.i2_1 hik, hQ.r2_3 hik, e1, mj_le (by omega) (by omega)]
    refine ⟨hQ.t2 hik, fun q => ?_, fun q => ?_⟩
    · rw [if_pos q] at he
      exact ih _ a ha hc hl' he
    · rw [if_neg q] at he
      have e : (if nI (σ 37 k) < nI a then nI (σ 37 k) else nI a) = nI (if σ 37 k < a then σ 37 k else a) := by
        by_cases z : σ 37 k < a
        · rw [if_pos z, if_pos ((nI_ltI (by omega) ha).mpr z)]
        · rw [if_neg z, if_neg (fun y => z ((nI_ltI (by omega) ha).mp y))]
      rw [e]
      exact ih _ _ (by split <;> omega) hc hl' he
theorem lc_nextChange (hQ : cl_Q B c μ0 μ) (hP : REP B e t0 t1 σ c) : mj_M G my_U_nextChange mY_U_nextChange [va_rf (some (cD B 3 0)), .int (nI (σ 43 0))] (mj_nc μ) (mj_ns μ) μ (mj_XI (fun x μ' => (∃ n, x = nI n ∧ σ 43 0 < n ∧ n < 2 ^ 31 ∧ (σ 29 0 ≠ 0 → σ 43 0 < σ 30 0 → n ≤ σ 30 0) ∧ ∀ k, k < σ 35 0 → 0 < σ 38 k → σ 43 0 < σ 37 k → n ≤ σ 37 k) ∧ μ' = μ)) := by
  have hu := hP.u
  have hnow : σ 43 0 ≤ 50000 := hP.v.2.2.2.2.2.2.2.2.2
  obtain ⟨L, w1, w2, w3⟩ := hP.h10.2.2.2.2
  have eo : c 3 2 0 = enc (σ 29 0) := hP.h10.2.2.1
  have b33 := hQ.b 3 3 0 (by decide)
  have hL : ∀ k ∈ L, k < σ 35 0 := fun k hk => ((w2 k).mp hk).1
  refine mj_of (by decide) rfl (by decide) (Nat.le_of_ble_eq_true rfl) rfl ⟨Nat.le_refl _, Nat.le_refl _⟩ ?_
  have fin : ∀ a, a < 2 ^ 31 → σ 43 0 < a → (σ 29 0 ≠ 0 → σ 43 0 < σ 30 0 → a ≤ σ 30 0) → mj_J G mY_U_nextChange (fun v μ' => mj_XI (fun x μ' => (∃ n, x = nI n ∧ σ 43 0 < n ∧ n < 2 ^ 31 ∧ (σ 29 0 ≠ 0 → σ 43 0 < σ 30 0 → n ≤ σ 30 0) ∧ ∀ k, k < σ 35 0 → 0 < σ 38 k → σ 43 0 < σ 37 k → n ≤ σ 37 k) ∧ μ' = μ) v μ' ∧ mj_nc μ' = mj_nc μ ∧ mj_ns μ' = mj_ns μ) (mj_nc μ) (mj_ns μ) 30 [(1, .int (nI (σ 43 0))), (2, .int (nI a)), (3, va_rf (cl_ref B 2 (c 3 0 0)))] [] μ := by
    intro a h1 h2 h4
    obtain ⟨i1, i2, i3⟩ := nfd_spec σ L a h2
    exact rl_nextC hQ hP L _ a h1 w1 hL ⟨⟨_, rfl, ⟨_, rfl, i1, by omega, fun z y => Nat.le_trans i2 (h4 z y), fun k x y z => i3 k ((w2 k).mpr ⟨x, y⟩) z⟩, rfl⟩, rfl, rfl⟩
  refine bk_U_nextChange_0 ⟨hQ.t3 hu, ?_⟩
  rw [hQ.r3_2 hu, hQ.r3_0 hu, hQ.i3_3 hu, eo]
  by_cases q : σ 29 0 = 0
  · rw [show enc (σ 29 0) = 0 by rw [q]; rfl]
    exact ⟨fun _ => fin 1000000 (by decide) (by omega) (fun z => absurd q z), fun b z => (by cases z)⟩
  · obtain ⟨g1, -⟩ := hP.h10.2.2.2.1 q
    rw [enc_s q, g1, mj_le (by omega) (by omega)]
    refine ⟨fun z => (by cases z), fun b z => ⟨fun y => fin 1000000 (by decide) (by omega) (fun _ x => absurd x (by omega)), fun y => ?_⟩⟩
    exact fin (σ 30 0) (by omega) (by omega) (fun _ _ => Nat.le_refl _)
theorem nI_min {a b : Nat} (ha : a < 2 ^ 31) (hb : b < 2 ^ 31) : (if nI a < nI b then nI a else nI b) = nI (if a < b then a else b) := by
  by_cases z : a < b
  · rw [if_pos z, if_pos ((nI_ltI ha hb).mpr z)]
  · rw [if_neg z, if_neg (fun y => z ((nI_ltI ha hb).mp y))]
/-- the cores' part of how long it is quiet -/
theorem rl_quietC (hQ : cl_Q B c μ0 μ) (hP : REP B e 0 0 σ c) (hpsg : ∀ k, k < σ 0 0 → ¬ itr σ k → sp_running σ k ≠ 0 → psg σ (sp_running σ k)) (hlv : ∀ k, k < σ 0 0 → ¬ itr σ k → sp_running σ k ≠ 0 → 1 ≤ lv σ (sp_running σ k) ∧ lv σ (sp_running σ k) ≤ 1000000) (U0 : Nat) (hU0 : U0 < 2 ^ 31)
    (he : ∀ U, σ 43 0 < U → U ≤ U0 → (∀ k, k < σ 0 0 → ¬ itr σ k → sp_running σ k ≠ 0 → U ≤ σ 43 0 + lv σ (sp_running σ k)) → Ex (some (.int (nI (U - σ 43 0)))) μ) :
    ∀ d k U, k + d = σ 0 0 → σ 43 0 < U → U ≤ U0 → (∀ k', k' < k → ¬ itr σ k' → sp_running σ k' ≠ 0 → U ≤ σ 43 0 + lv σ (sp_running σ k')) →
    mj_J G mY_T_quietMicroseconds Ex (mj_nc μ) (mj_ns μ) 79 [(0, va_rf (some (cD B 0 0))), (2, va_rf (cl_ref B 2 (sp_atHand σ))), (3, .int (nI U)), (4, va_rf (some (cD B 10 1))), (5, .int (nI (σ 0 0))), (6, .int (nI k))] [] μ := by
  have hx := hP.x
  have hnow : σ 43 0 ≤ 50000 := hP.v.2.2.2.2.2.2.2.2.2
  have hC := hP.v.2.1.2
  have e12 : c 0 12 0 = σ 43 0 := hP.h1.2.1.2.2.2.2
  have a1 : cL B 10 1 := hP.b.2.2.1.2.1
  have na : cN B 10 1 = σ 0 0 := hP.b.2.2.2.1.2.1
  have en : mj_n μ (cD B 10 1) = σ 0 0 := by rw [(hQ.1.2.2.1 10 1 a1 (by decide)).1, na]
  intro d
  induction d with
  | zero =>
    intro k U hk hU hU2 hall
    have : k = σ 0 0 := by omega
    subst this
    refine bk_T_quietMicroseconds_79 ⟨fun _ => ⟨hQ.t0 hx, ?_⟩, fun z => absurd (by rw [mj_le (by omega) (by omega)]; omega) z⟩
    rw [hQ.i0_12 hx, e12, nI_subN (by omega), show (1 : Int32) = nI 1 from rfl]
    have : (if nI 1 < nI (U - σ 43 0) then nI (U - σ 43 0) else nI 1) = nI (U - σ 43 0) := by
      by_cases z : 1 < U - σ 43 0
      · rw [if_pos ((nI_ltI (by decide) (by omega)).mpr z)]
      · rw [if_neg (fun y => z ((nI_ltI (by decide) (by omega)).mp y)), show U - σ 43 0 = 1 by omega]
    rw [this]
    exact he U hU hU2 hall
  | succ d ih =>
    intro k U hk hU hU2 hall
    have hck := hP.co (k := k) (by omega)
    have e0 : c 1 0 k = k := (hP.h4 k (by omega)).1
    have er := hP.run k (by omega)
    have ea : mj_r μ (cD B 10 1) k = some (cD B 1 k) := by
      rw [hQ.e1 a1 (by omega), hP.h1.2.2.2.1 k (by omega)]
      rfl
    refine bk_T_quietMicroseconds_79 ⟨fun z => absurd z (by rw [mj_le (by omega) (by omega)]; omega), fun _ => ⟨_, rfl, hQ.ta1 a1, by rw [en]; exact vp_in_nI (by omega) (by omega), ?_⟩⟩
    rw [nI_clamp (by omega), ea]
    have nxt : ∀ U', σ 43 0 < U' → U' ≤ U → (¬ itr σ k → sp_running σ k ≠ 0 → U' ≤ σ 43 0 + lv σ (sp_running σ k)) → mj_J G mY_T_quietMicroseconds Ex (mj_nc μ) (mj_ns μ) 143 [(0, va_rf (some (cD B 0 0))), (2, va_rf (cl_ref B 2 (sp_atHand σ))), (3, .int (nI U')), (4, va_rf (some (cD B 10 1))), (5, .int (nI (σ 0 0))), (6, .int (nI k))] [] μ := fun U' h1 h2 h3 => by
      refine bk_T_quietMicroseconds_143 ?_
      rw [nI_1]
      refine ih (k + 1) U' (by omega) h1 (by omega) (fun k' hk' h4 h5 => ?_)
      by_cases z : k' = k
      · rw [z] at h4 h5 ⊢
        exact h3 h4 h5
      · exact Nat.le_trans h2 (hall k' (by omega) h4 h5)
    have s112 : ∀ w : Nat, w = (if itr σ k then 1 else 0) → mj_J G mY_T_quietMicroseconds Ex (mj_nc μ) (mj_ns μ) 112 [(0, va_rf (some (cD B 0 0))), (2, va_rf (cl_ref B 2 (sp_atHand σ))), (3, .int (nI U)), (4, va_rf (some (cD B 10 1))), (5, .int (nI (σ 0 0))), (6, .int (nI k)), (7, va_rf (some (cD B 1 k))), (8, .int (nI w))] [] μ := fun w hw => by
      refine bk_T_quietMicroseconds_112 ⟨_, rfl, hQ.t1 hck, ?_⟩
      rw [hQ.r1_4 hck, er]
      by_cases z : sp_running σ k = 0
      · rw [z]
        exact ⟨fun _ => nxt U hU (Nat.le_refl _) (fun _ y => absurd z y), fun b y => (by cases y)⟩
      · rw [enc_s z]
        have hr := (sp_running_spec σ k).resolve_left (fun y => z y.1)
        refine ⟨fun y => (by cases y), fun b y => ?_⟩
        cases y
        by_cases hi : itr σ k
        · rw [if_pos hi] at hw
          rw [hw]
          exact ⟨fun _ => nxt U hU (Nat.le_refl _) (fun y => absurd hi y), fun y => absurd y (by decide)⟩
        · rw [if_neg hi] at hw
          rw [hw]
          obtain ⟨l1, l2⟩ := hlv k (by omega) hi z
          refine ⟨fun y => absurd rfl y, fun _ => ⟨hQ.t0 hx, hQ.t8 (hP.k hr.1), _, lc_left hQ hP (sp_running σ k) hr.1 (by omega) (hpsg k (by omega) hi z), fun x μ' h r1 r2 => ?_⟩⟩
          obtain ⟨rfl, rfl⟩ := h
          refine bk_T_quietMicroseconds_138 ?_
          rw [hQ.i0_12 hx, e12, nI_add, nI_min (by omega) (by omega)]
          refine nxt _ ?_ ?_ (fun _ _ => ?_)
          · split <;> omega
          · split <;> omega
          · split <;> omega
    refine bk_T_quietMicroseconds_93 ⟨_, rfl, hQ.t1 hck, ?_⟩
    rw [hQ.i1_0 hck, e0, mj_z0 (by omega)]
    refine ⟨fun z => bk_T_quietMicroseconds_109 (s112 0 ?_), fun z => ?_⟩
    · rw [if_neg (fun y => z y.1)]
    · by_cases y : sp_atHand σ = 0
      · have s := s112 0 (by rw [if_neg (fun x => x.2 y)])
        rw [y] at s ⊢
        exact ⟨fun _ => bk_T_quietMicroseconds_109 s, fun b x => (by cases x)⟩
      · have s := s112 1 (by rw [if_pos ⟨z, y⟩])
        obtain ⟨n, hn⟩ : ∃ n, sp_atHand σ = n + 1 := ⟨sp_atHand σ - 1, by omega⟩
        rw [hn] at s ⊢
        exact ⟨fun x => (by cases x), fun b x => s⟩
theorem lc_quiet (hQ : cl_Q B c μ0 μ) (hP : REP B 500 0 0 σ c) (E : Nat) (hE : σ 43 0 < E ∧ E ≤ 50000) (hpsg : ∀ k, k < σ 0 0 → ¬ itr σ k → sp_running σ k ≠ 0 → psg σ (sp_running σ k)) (h9 : σ 29 0 ≠ 0 → σ 31 0 ≠ 0 ∨ σ 43 0 < σ 30 0) (h38 : ∀ k, k < σ 35 0 → σ 38 k ≤ 10000) :
    mj_M G my_T_quietMicroseconds mY_T_quietMicroseconds [va_rf (some (cD B 0 0)), .int (nI E)] (mj_nc μ) (mj_ns μ) μ (mj_XI (fun x μ' => (∃ q, x = nI q ∧ 1 ≤ q ∧ quiet σ (σ 0 0) q ∧ σ 43 0 + q ≤ E) ∧ μ' = μ)) := by
  have hx := hP.x
  have hu := hP.u
  have hnow : σ 43 0 ≤ 50000 := hP.v.2.2.2.2.2.2.2.2.2
  have h32 := hP.v.2.2.2.1
  have e12 : c 0 12 0 = σ 43 0 := hP.h1.2.1.2.2.2.2
  have e4 : c 0 4 0 = 1 := hP.h1.1.2.2.2.2.1
  have eR : mj_r μ (cD B 0 0) 4 = some (cD B 3 0) := by rw [hQ.r0_4 hx, e4]; rfl
  have eR1 : mj_r μ (cD B 0 0) 1 = some (cD B 10 1) := by rw [hQ.r0_1 hx, hP.h1.1.2.1]; rfl
  have a1 : cL B 10 1 := hP.b.2.2.1.2.1
  have na : cN B 10 1 = σ 0 0 := hP.b.2.2.2.1.2.1
  have en : mj_n μ (cD B 10 1) = σ 0 0 := by rw [(hQ.1.2.2.1 10 1 a1 (by decide)).1, na]
  have hlv : ∀ k, k < σ 0 0 → ¬ itr σ k → sp_running σ k ≠ 0 → 1 ≤ lv σ (sp_running σ k) ∧ lv σ (sp_running σ k) ≤ 1000000 := fun k hk hi hz => by
    have hr := (sp_running_spec σ k).resolve_left (fun y => hz y.1)
    have hp := hpsg k hk hi hz
    unfold lv
    generalize sp_running σ k = t at *
    by_cases h26 : σ 26 t = 0
    · rw [if_neg (fun z => z h26)]
      by_cases h16 : σ 16 t = 0
      · rw [if_neg (fun z => z h16)]
        obtain ⟨k, n1, n9⟩ : ∃ k, sp_next σ t = some k ∧ σ 9 k = 0 := by
          rcases hp with z | z | z
          · exact absurd h26 z
          · exact absurd h16 z
          · exact z
        have n2 : pq (σ 8) (σ 7 0) t (σ 14 t) = k + 1 := by
          rcases sp_next_eq σ t with ⟨z, -⟩ | ⟨q, z1, z2⟩
          · rw [n1] at z
            cases z
          · rw [n1] at z1
            cases z1
            exact z2
        obtain ⟨r1, r2⟩ := hP.rest t k hr.1 (by omega) h16 n2 n1 n9
        have := ((an_gd (hP.h6.1 k (pq_next n2).2.2).2.2.2.2.2).2.2.1 n9).2
        omega
      · rw [if_pos h16]
        omega
    · rw [if_pos h26]
      omega
  obtain ⟨-, L, w1, w2, w3⟩ := hP.h11
  refine mj_of (by decide) rfl (by decide) (Nat.le_of_ble_eq_true rfl) rfl ⟨Nat.le_refl _, Nat.le_refl _⟩ ?_
  refine bk_T_quietMicroseconds_0 ⟨hQ.t0 hx, _, eR, hQ.t3 hu, ?_⟩
  rw [hQ.i0_12 hx, e12]
  refine ⟨_, lc_atHand hQ hP, fun x μ1 h r1 r2 => bk_T_quietMicroseconds_11 (bk_T_quietMicroseconds_12 ?_)⟩
  obtain ⟨rfl, rfl⟩ := h
  refine ⟨hQ.t0 hx, _, eR, hQ.t3 hu, ?_⟩
  rw [hQ.i0_12 hx, e12]
  refine ⟨_, lc_nextChange hQ hP, fun x μ1 h r1 r2 => bk_T_quietMicroseconds_24 ?_⟩
  obtain ⟨⟨n, rfl, n1, n2, n3, n4⟩, rfl⟩ := h
  rw [nI_min (by omega) (by omega)]
  have hU1 : σ 43 0 < (if n < E then n else E) ∧ (if n < E then n else E) ≤ n ∧ (if n < E then n else E) ≤ E := by
    split <;> omega
  generalize (if n < E then n else E) = U1 at *
  have s65 : ∀ U, σ 43 0 < U → U ≤ U1 → (∀ k, k < σ 32 0 → σ 43 0 < σ 34 k → U ≤ σ 34 k) → (sp_atHand σ ≠ 0 → U ≤ σ 43 0 + σ 38 (sp_atHand σ - 1)) → mj_J G mY_T_quietMicroseconds (fun v μ' => mj_XI (fun x μ' => (∃ q, x = nI q ∧ 1 ≤ q ∧ quiet σ (σ 0 0) q ∧ σ 43 0 + q ≤ E) ∧ μ' = μ1) v μ' ∧ mj_nc μ' = mj_nc μ1 ∧ mj_ns μ' = mj_ns μ1) (mj_nc μ1) (mj_ns μ1) 65 [(0, va_rf (some (cD B 0 0))), (2, va_rf (cl_ref B 2 (sp_atHand σ))), (3, .int (nI U))] [] μ1 := by
    intro U u1 u2 u3 u4
    refine bk_T_quietMicroseconds_65 ⟨hQ.t0 hx, ?_⟩
    rw [eR1]
    refine bk_T_quietMicroseconds_71 ⟨_, rfl, hQ.ta1 a1, ?_⟩
    rw [en]
    refine bk_T_quietMicroseconds_76 (rl_quietC hQ hP hpsg hlv U (by omega) (fun V v1 v2 v3 => ?_) (σ 0 0) 0 U (by omega) u1 (Nat.le_refl _) (fun k' hk' => absurd hk' (by omega)))
    refine ⟨⟨_, rfl, ⟨V - σ 43 0, rfl, by omega, ?_, by omega⟩, rfl⟩, rfl, rfl⟩
    refine ⟨fun i hi => ?_, fun z => ?_, fun k h1 h2 h3 => ?_, fun k h1 h2 => ?_, fun z => ?_, by omega⟩
    · obtain ⟨p1, p2, p3, p4⟩ := hi
      have q1 := v3 (σ 3 i) p1 p4 (by rw [p3]; exact p2)
      have q2 := hpsg (σ 3 i) p1 p4 (by rw [p3]; exact p2)
      rw [p3] at q1 q2
      unfold lv at q1
      by_cases h26 : σ 26 i = 0
      · rw [if_neg (fun z => z h26)] at q1
        by_cases h16 : σ 16 i = 0
        · rw [if_neg (fun z => z h16)] at q1
          refine Or.inr (Or.inr ⟨h26, h16, by omega, ?_⟩)
          rcases q2 with z | z | z
          · exact absurd h26 z
          · exact absurd h16 z
          · exact z
        · rw [if_pos h16] at q1
          exact Or.inr (Or.inl ⟨h16, by omega⟩)
      · exact Or.inl h26
    · have := u4 z
      omega
    · have := n4 k h1 h2 h3
      omega
    · have := u3 k h1 h2
      omega
    · rcases h9 z with y | y
      · exact Or.inl y
      · have := n3 z y
        exact Or.inr (by omega)
  have s47 : ∀ U, σ 43 0 < U → U ≤ U1 → (∀ k, k < σ 32 0 → σ 43 0 < σ 34 k → U ≤ σ 34 k) → mj_J G mY_T_quietMicroseconds (fun v μ' => mj_XI (fun x μ' => (∃ q, x = nI q ∧ 1 ≤ q ∧ quiet σ (σ 0 0) q ∧ σ 43 0 + q ≤ E) ∧ μ' = μ1) v μ' ∧ mj_nc μ' = mj_nc μ1 ∧ mj_ns μ' = mj_ns μ1) (mj_nc μ1) (mj_ns μ1) 47 [(0, va_rf (some (cD B 0 0))), (2, va_rf (cl_ref B 2 (sp_atHand σ))), (3, .int (nI U))] [] μ1 := by
    intro U u1 u2 u3
    refine bk_T_quietMicroseconds_47 ?_
    by_cases y : sp_atHand σ = 0
    · have s := s65 U u1 u2 u3 (fun z => absurd y z)
      rw [y] at s ⊢
      exact ⟨fun _ => s, fun b x => (by cases x)⟩
    · have hh := sp_hand_spec σ (σ 35 0)
      obtain ⟨h, g1, g2, g3, -⟩ := hh.resolve_left (fun z => y z.1)
      have g1' : sp_atHand σ = h + 1 := g1
      have hih := hP.i g2
      obtain ⟨f0, f1, f2⟩ := hP.h10.1 h g2
      have b22 := hQ.b 2 2 h (by decide)
      have b1 : σ 38 h < 2 ^ 31 := by omega
      have b38 : σ 43 0 + σ 38 h < 2 ^ 31 := by
        have := h38 h g2
        omega
      rw [g1'] at s65 ⊢
      refine ⟨fun x => (by cases x), fun b x => ?_⟩
      cases x
      refine ⟨hQ.t0 hx, hQ.t2 hih, ?_⟩
      rw [hQ.i0_12 hx, hQ.i2_2 hih, e12, f2, nI_add, nI_min b38 (by omega)]
      have g38 := g3.2.1
      refine s65 _ ?_ ?_ (fun k h1 h2 => ?_) (fun _ => ?_)
      · split <;> omega
      · split <;> omega
      · have := u3 k h1 h2
        split <;> omega
      · rw [Nat.add_sub_cancel]
        split <;> omega
  refine bk_T_quietMicroseconds_28 ⟨hQ.t0 hx, ?_⟩
  rw [hQ.r0_7 hx]
  cases L with
  | nil =>
    have e7 : c 0 7 0 = 0 := w1
    rw [e7]
    refine ⟨fun _ => s47 U1 hU1.1 (Nat.le_refl _) (fun k h1 h2 => ?_), fun b z => (by cases z)⟩
    have := (w2 k).mpr ⟨h1, Or.inl h2⟩
    cases this
  | cons k L =>
    have e7 : c 0 7 0 = k + 1 := w1.1
    obtain ⟨hk, hk2⟩ := (w2 k).mp (List.mem_cons_self ..)
    have hkt := hP.te hk
    have t1 := (hP.h11.1 k hk).2.1
    have b1 := hQ.b 9 1 k (by decide)
    rw [e7]
    refine ⟨fun z => (by cases z), fun b z => ?_⟩
    cases z
    refine ⟨hQ.t9 hkt, ?_⟩
    rw [hQ.i9_1 hkt, t1, nI_min (by omega) (by omega)]
    have hk3 : σ 43 0 < σ 34 k := by omega
    refine s47 _ ?_ ?_ (fun j h1 h2 => ?_)
    · split <;> omega
    · split <;> omega
    · have hj := (w2 j).mpr ⟨h1, Or.inl h2⟩
      rcases List.mem_cons.mp hj with y | y
      · rw [y]
        split <;> omega
      · have := (List.pairwise_cons.mp w3).1 j y
        split <;> omega
end CQ
