theorem sp_al_skip (σ : ss_S) (e : Nat) : ∀ d, (∀ k, e ≤ k → k < e + d → σ 34 k ≠ σ 43 0) → sp_al σ (e + d) = sp_al σ e := by
  intro d
  induction d with
  | zero => exact fun _ => rfl
  | succ d ih =>
    intro h
    show sp_al σ ((e + d) + 1) = _
    conv => lhs; unfold sp_al
    rw [if_neg (h (e + d) (by omega) (by omega)), ih (fun k h1 h2 => h k h1 (by omega))]
theorem sp_al_39 (σ : ss_S) : ∀ d e, sp_al σ e 39 0 ≤ sp_al σ (e + d) 39 0 := by
  intro d
  induction d with
  | zero => exact fun e => Nat.le_refl _
  | succ d ih =>
    intro e
    refine Nat.le_trans (ih e) ?_
    show _ ≤ sp_al σ ((e + d) + 1) 39 0
    conv => rhs; unfold sp_al
    split
    · exact (sp_begin_39 _ _).1
    · exact Nat.le_refl _
/-- the budget of OFF at the beginning of a microsecond -/
def i9 (σ : ss_S) : Prop := σ 29 0 ≠ 0 → (σ 31 0 = 0 ∧ σ 43 0 ≤ σ 30 0) ∨ (σ 31 0 ≠ 0 ∧ σ 30 0 < σ 43 0)
section CO
variable {G : mj_G} {B : cl_B} {e t0 t1 b : Nat} {σ : ss_S} {c : cc_S} {μ μ0 : mj_MM} {Ex : Option Value → mj_MM → Prop} {N S : Nat}
theorem REP.told (hP : REP B e t0 t1 σ c) (h : ∀ k, k < σ 32 0 → σ 34 k = σ 43 0 → ¬ e ≤ k) (e' : Nat) (h' : ∀ k, k < σ 32 0 → σ 34 k = σ 43 0 → ¬ e' ≤ k) : REP B e' t0 t1 σ c := by
  obtain ⟨hb, h1, h2, h3, h4, h5, h6, h7, h8, h9, h10, ⟨h11a, L, w1, w2, w3⟩, h12, h13, h14, h15, h16⟩ := hP
  refine ⟨hb, h1, h2, h3, h4, h5, h6, h7, h8, h9, h10, ⟨h11a, L, w1, fun k => ?_, w3⟩, h12, h13, h14, h15, h16⟩
  rw [w2 k]
  constructor
  · rintro ⟨a, b | b⟩
    · exact ⟨a, Or.inl b⟩
    · exact absurd b.2 (h k a b.1)
  · rintro ⟨a, b | b⟩
    · exact ⟨a, Or.inl b⟩
    · exact absurd b.2 (h' k a b.1)
theorem rl_told (hBd : sp_Bd b σ) (hb : 1000 ≤ b) (hb2 : b + 600 ≤ 2 ^ 31) (hV : sp_V σ) : ∀ (L : List Nat) (e : Nat) (c : cc_S) (μ : mj_MM), e ≤ σ 32 0 → cl_Q B c μ0 μ → REP B e 0 0 (sp_al σ e) c → ch (c 9 2) (c 0 7 0) L → (∀ k, k ∈ L ↔ k < σ 32 0 ∧ (σ 43 0 < σ 34 k ∨ (σ 34 k = σ 43 0 ∧ e ≤ k))) → L.Pairwise (fun a b => σ 34 a < σ 34 b ∨ (σ 34 a = σ 34 b ∧ a < b)) →
    mj_nc μ + tb (sp_al σ e) (sp_al σ (σ 32 0)) = N → mj_ns μ + 512 * tb (sp_al σ e) (sp_al σ (σ 32 0)) = S → (∀ c' μ', cl_Q B c' μ0 μ' → REP B 500 0 0 (sp_al σ (σ 32 0)) c' → mj_nc μ' = N → mj_ns μ' = S → Ex none μ') →
    mj_J G mY_T_activateThoseTold Ex N S 5 [(0, va_rf (some (cD B 0 0))), (1, va_rf (cl_ref B 9 (c 0 7 0)))] [] μ := by
  have hnow : σ 43 0 ≤ 50000 := hV.2.2.2.2.2.2.2.2.2
  have h32 := hV.2.2.2.1
  intro L
  induction L with
  | nil =>
    intro e c μ he hQ hP hc hm hp eN eS hx
    have hv : c 0 7 0 = 0 := hc
    have hno : ∀ k, k < σ 32 0 → σ 34 k = σ 43 0 → ¬ e ≤ k := fun k h1 h2 h3 => by
      have := (hm k).mpr ⟨h1, Or.inr ⟨h2, h3⟩⟩
      cases this
    have es : sp_al σ (σ 32 0) = sp_al σ e := by
      have := sp_al_skip σ e (σ 32 0 - e) (fun k h1 h2 h3 => hno k (by omega) h3 h1)
      rw [show e + (σ 32 0 - e) = σ 32 0 by omega] at this
      exact this
    rw [es] at eN eS hx
    rw [tb_0 rfl] at eN eS
    rw [hv]
    have f32 := sp_al_f σ 32 0 (by decide) e
    have f43 := sp_al_f σ 43 0 (by decide) e
    refine bk_T_activateThoseTold_5 ⟨fun _ => hx c μ hQ (hP.told (fun k h1 h2 => ?_) 500 (fun k h1 h2 => ?_)) (by omega) (by omega), fun b z => (by cases z)⟩
    · rw [f32] at h1
      rw [f43, sp_al_f σ 34 k (by decide) e] at h2
      exact hno k h1 h2
    · rw [f32] at h1
      omega
  | cons k L ih =>
    intro e c μ he hQ hP hc hm hp eN eS hx
    obtain ⟨hv, hc⟩ := hc
    have hx0 := hP.x
    obtain ⟨hk, hk2⟩ := (hm k).mp (List.mem_cons_self ..)
    obtain ⟨p1, p2⟩ := List.pairwise_cons.mp hp
    have f32 := sp_al_f σ 32 0 (by decide) e
    have f43 := sp_al_f σ 43 0 (by decide) e
    have f34 := fun j => sp_al_f σ 34 j (by decide) e
    have f33 := fun j => sp_al_f σ 33 j (by decide) e
    have f1 := sp_al_f σ 1 0 (by decide) e
    have hkt := hP.te (k := k) (by rw [f32]; exact hk)
    obtain ⟨t0, t1, t2⟩ := hP.h11.1 k (by rw [f32]; exact hk)
    rw [f33, f1] at t2
    rw [f33] at t0
    rw [f34] at t1
    have e12 : c 0 12 0 = σ 43 0 := hP.h1.2.1.2.2.2.2.trans f43
    have b1 := hQ.b 9 1 k (by decide)
    rw [hv]
    refine bk_T_activateThoseTold_5 ⟨fun z => (by cases z), fun b z => ?_⟩
    cases z
    rw [hQ.i0_12 hx0, hQ.i9_1 hkt, hQ.r9_0 hkt, hQ.r9_2 hkt, e12, t0, t1, mj_lt (by omega) (by omega)]
    refine ⟨hQ.t9 hkt, hQ.t0 hx0, fun q => ?_, fun q => ?_⟩
    · have hno : ∀ j, j < σ 32 0 → σ 34 j = σ 43 0 → ¬ e ≤ j := fun j h1 h2 h3 => by
        have := (hm j).mpr ⟨h1, Or.inr ⟨h2, h3⟩⟩
        rcases List.mem_cons.mp this with y | y
        · rw [y] at h2
          omega
        · have := p1 j y
          omega
      have es : sp_al σ (σ 32 0) = sp_al σ e := by
        have := sp_al_skip σ e (σ 32 0 - e) (fun k h1 h2 h3 => hno k (by omega) h3 h1)
        rw [show e + (σ 32 0 - e) = σ 32 0 by omega] at this
        exact this
      rw [es] at eN eS hx
      rw [tb_0 rfl] at eN eS
      refine hx c μ hQ (hP.told (fun j h1 h2 => ?_) 500 (fun j h1 h2 => ?_)) (by omega) (by omega)
      · rw [f32] at h1
        rw [f43, f34] at h2
        exact hno j h1 h2
      · rw [f32] at h1
        omega
    · have hkn : σ 34 k = σ 43 0 ∧ e ≤ k := by omega
      have es : sp_al σ k = sp_al σ e := by
        have := sp_al_skip σ e (k - e) (fun j h1 h2 h3 => ?_)
        · rw [show e + (k - e) = k by omega] at this
          exact this
        · have := (hm j).mpr ⟨by omega, Or.inr ⟨h3, h1⟩⟩
          rcases List.mem_cons.mp this with y | y
          · omega
          · have := p1 j y
            omega
      have eb : sp_al σ (k + 1) = sp_begin (sp_al σ e) (σ 33 k) := by
        conv => lhs; unfold sp_al
        rw [if_pos hkn.1, es]
      have hBe := hBd.al hb hV e he
      have b21 := hBe 21 0
      have b39 := hBe 39 0
      have hmk : ∀ j, j ∈ L ↔ j < σ 32 0 ∧ (σ 43 0 < σ 34 j ∨ (σ 34 j = σ 43 0 ∧ k + 1 ≤ j)) := fun j => by
        have h1 := hm j
        rw [List.mem_cons] at h1
        constructor
        · intro h2
          have h3 := p1 j h2
          have h4 := h1.mp (Or.inr h2)
          omega
        · intro h2
          have h3 := h1.mpr (by omega)
          rcases h3 with y | y
          · rw [y] at h2
            omega
          · exact y
      have hQ1 := hQ.pR 0 7 0 (c 9 2 k) hx0 (by decide) (hQ.b 9 2 k (by decide)) (hQ.l9_2 hkt)
      have hP1 : REP B (k + 1) 0 0 (sp_al σ e) (cc_u c 0 7 0 (c 9 2 k)) := by
        obtain ⟨hb, h1, h2, h3, h4, h5, h6, h7, h8, h9, h10, ⟨h11a, -⟩, h12, h13, h14, h15, h16⟩ := hP
        refine ⟨hb, h1, h2, h3, h4, h5, h6, h7, h8, h9, h10, ⟨h11a, L, hc, fun j => ?_, p2.imp (fun {a b} h => ?_)⟩, h12, h13, h14, h15, h16.u 0 7 0 _ (Or.inl hx0)⟩
        · rw [f32, f43, f34]
          exact hmk j
        · rw [f34, f34]
          exact h
      have m1 := (sp_begin_39 (sp_al σ e) (σ 33 k)).1
      have m2 := sp_al_39 σ (σ 32 0 - (k + 1)) (k + 1)
      rw [show k + 1 + (σ 32 0 - (k + 1)) = σ 32 0 by omega, eb] at m2
      have tt := tb_t m1 m2
      refine ⟨_, _, _, lc_activateX hQ1 hP1 (σ 33 k) (by rw [f1]; exact t2) (by omega) (by omega), ⟨by show mj_nc μ + _ ≤ N; omega, by show mj_ns μ + _ ≤ S; omega⟩, fun μ2 h r1 r2 => ?_⟩
      obtain ⟨c2, hQ2, hP2, e9, e07⟩ := h
      have e9' : ∀ p i, c2 9 p i = c 9 p i := e9
      have e07' : c2 0 7 0 = c 9 2 k := e07
      refine bk_T_activateThoseTold_36 ⟨_, rfl, hQ2.t9 hkt, ?_⟩
      rw [hQ2.r9_2 hkt, e9', ← e07']
      rw [← eb] at hP2
      have r1' : mj_nc μ2 = mj_nc μ + tb (sp_al σ e) (sp_begin (sp_al σ e) (σ 33 k)) := r1
      have r2' : mj_ns μ2 = mj_ns μ + 512 * tb (sp_al σ e) (sp_begin (sp_al σ e) (σ 33 k)) := r2
      refine ih (k + 1) c2 μ2 (by omega) hQ2 hP2 ?_ hmk p2 (by rw [eb]; omega) (by rw [eb]; omega) hx
      rw [e07']
      exact ch_congr L _ (fun x _ => e9' 2 x) hc
theorem lc_told (hQ : cl_Q B c μ0 μ) (hP : REP B 0 0 0 σ c) (hBd : sp_Bd b σ) (hb : 1000 ≤ b) (hb2 : b + 600 ≤ 2 ^ 31) : lc_V G my_T_activateThoseTold mY_T_activateThoseTold B 500 0 0 σ (sp_al σ (σ 32 0)) μ0 μ [] := by
  have hx := hP.x
  obtain ⟨-, L, w1, w2, w3⟩ := hP.h11
  refine mj_of (by decide) rfl (by decide) (Nat.le_of_ble_eq_true rfl) rfl ⟨Nat.le_add_right _ _, Nat.le_add_right _ _⟩ ?_
  refine bk_T_activateThoseTold_0 ⟨hQ.t0 hx, ?_⟩
  rw [hQ.r0_7 hx]
  exact rl_told hBd hb hb2 hP.v L 0 c μ (Nat.zero_le _) hQ hP w1 w2 w3 rfl rfl (fun c' μ' h1 h2 h3 h4 => ⟨⟨rfl, c', h1, h2⟩, h3, h4⟩)
theorem sp_nine_39 (σ : ss_S) : σ 39 0 ≤ sp_nine σ 39 0 := by
  unfold sp_nine
  split
  · show σ 39 0 ≤ sp_tell σ 9 (σ 29 0) 39 0
    rw [sp_tell_39]
    omega
  · exact Nat.le_refl _
theorem lc_nine (hQ : cl_Q B c μ0 μ) (hP : REP B e 0 0 σ c) (hi : i9 σ) (hB : σ 39 0 + 1 < 2 ^ 31) : lc_V G my_T_tellIfOffTooLong mY_T_tellIfOffTooLong B e 0 0 σ (sp_nine σ) μ0 μ [] := by
  have hx := hP.x
  have hu := hP.u
  have hnow : σ 43 0 ≤ 50000 := hP.v.2.2.2.2.2.2.2.2.2
  have e4 : c 0 4 0 = 1 := hP.h1.1.2.2.2.2.1
  have e12 : c 0 12 0 = σ 43 0 := hP.h1.2.1.2.2.2.2
  have eo : c 3 2 0 = enc (σ 29 0) := hP.h10.2.2.1
  have eR : mj_r μ (cD B 0 0) 4 = some (cD B 3 0) := by rw [hQ.r0_4 hx, e4]; rfl
  have b33 := hQ.b 3 3 0 (by decide)
  refine mj_of (by decide) rfl (by decide) (Nat.le_of_ble_eq_true rfl) rfl ⟨Nat.le_add_right _ _, Nat.le_add_right _ _⟩ ?_
  refine bk_T_tellIfOffTooLong_0 ⟨hQ.t0 hx, _, eR, hQ.t3 hu, ?_⟩
  rw [hQ.r3_2 hu, hQ.i3_3 hu, hQ.i0_12 hx, eo, e12]
  have hno : ¬ (σ 29 0 ≠ 0 ∧ σ 31 0 = 0 ∧ σ 30 0 ≤ σ 43 0) → sp_nine σ = σ := fun z => by
    unfold sp_nine
    rw [if_neg z]
  have fin0 : sp_nine σ = σ → mj_J G mY_T_tellIfOffTooLong (fun v μ' => mj_XV (fun μ' => CR B e 0 0 (sp_nine σ) μ0 μ') v μ' ∧ mj_nc μ' = mj_nc μ + tb σ (sp_nine σ) ∧ mj_ns μ' = mj_ns μ + 512 * tb σ (sp_nine σ)) (mj_nc μ + tb σ (sp_nine σ)) (mj_ns μ + 512 * tb σ (sp_nine σ)) 33 [] [] μ := fun z => by
    rw [z, tb_0 rfl]
    exact bk_T_tellIfOffTooLong_33 ⟨⟨rfl, c, hQ, hP⟩, rfl, rfl⟩
  by_cases q : σ 29 0 = 0
  · have z := fin0 (hno (fun z => z.1 q))
    rw [q]
    exact ⟨fun _ => z, fun b y => (by cases y)⟩
  · obtain ⟨g1, g2, g3⟩ := hP.h10.2.2.2.1 q
    rw [enc_s q, g1, mj_zz (by omega) (by omega)]
    have hi' := hi q
    refine ⟨fun y => (by cases y), fun b _ => ⟨fun y => fin0 (hno (by omega)), fun y => ?_⟩⟩
    have e9 : sp_nine σ = ss_u (sp_tell σ 9 (σ 29 0)) 31 0 1 := by
      unfold sp_nine
      rw [if_pos (by omega)]
    have etb : tb σ (sp_nine σ) = tb σ (sp_tell σ 9 (σ 29 0)) := by
      rw [e9]
      rfl
    rw [etb]
    refine ⟨_, _, _, lc_tell hQ hP hB 9 (σ 29 0) (by decide) (by omega), ⟨Nat.le_refl _, Nat.le_refl _⟩, fun μ2 h r1 r2 => bk_T_tellIfOffTooLong_33 ⟨⟨rfl, ?_⟩, r1, r2⟩⟩
    obtain ⟨c2, hQ2, hP2⟩ := h
    rw [e9]
    exact ⟨c2, hQ2, hP2⟩
end CO
