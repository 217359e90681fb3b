def cB0 (h0 C : Nat) : cl_B := (fun _ => False, fun _ _ => h0, fun K i => K = 0 ∧ i = 0, fun K i => if K = 10 then (if i = 0 then 101 else if i = 1 then C else if i = 2 then 33 else 17) else (if i = 0 then 1000 else if i = 1 then 50000 * C else 50000) / 512 + 1)
section TK
variable {G : mj_G} {B : cl_B} {σ τ : ss_S} {c : cc_S} {μ μ0 : mj_MM} {Ex : Option Value → mj_MM → Prop} {N S : Nat}
theorem cB0.Q (h0 C : Nat) (ht : mj_t μ h0 = 1) (hi : ∀ k, mj_i μ h0 k = 0) (hr : ∀ k, mj_r μ h0 k = none) : cl_Q (cB0 h0 C) (fun _ _ _ => 0) μ μ := by
  refine cl_R.self ⟨fun K i hl => ?_, fun K i K' i' h h' _ => ?_, fun K i hl hK => ?_, fun K p i hl _ => hi p, fun K p i hl hp => ⟨hr p, Or.inl rfl⟩, fun j i hl _ => ?_, ⟨fun j hl => ?_, fun j b j' b' a hl => ?_⟩, fun K p i _ => by show (0 : Nat) < 2 ^ 31; decide, fun a ha => ha.elim, fun j hl => ?_⟩
  · obtain ⟨rfl, rfl⟩ : K = 0 ∧ i = 0 := hl
    exact ht
  · have h : K = 0 ∧ i = 0 := h
    have h' : K' = 0 ∧ i' = 0 := h'
    omega
  · have h : K = 0 ∧ i = 0 := hl
    omega
  · have h : 10 = 0 ∧ j = 0 := hl
    omega
  · have h : 5 = 0 ∧ j = 0 := hl
    omega
  · have h : 5 = 0 ∧ j = 0 := hl
    omega
  · have h : 10 = 0 ∧ j = 0 := hl
    omega
theorem lc_Tinit (h0 : Nat) (v : Int32) (ht : mj_t μ h0 = 1) (hi : ∀ k, mj_i μ h0 k = 0) (hr : ∀ k, mj_r μ h0 k = none) :
    mj_M G my_T_init mY_T_init [va_rf (some h0), .int v] (mj_nc μ + (59 + 3 * an_cores v.toInt)) (mj_ns μ + (297 + 109 * an_cores v.toInt + 50000 * an_cores v.toInt / 512)) μ (mj_XV (fun μ' => ∃ B, LB B h0 (an_cores v.toInt) (an_cores v.toInt) 33 17 1 ∧ cl_Q B (cF (an_cores v.toInt) (an_cores v.toInt) 33 17 1) μ μ')) := by
  have hC : 1 ≤ an_cores v.toInt ∧ an_cores v.toInt ≤ 8 := by
    unfold an_cores
    split
    · omega
    · omega
  have hv : an_cores v.toInt = if 1 ≤ v.toInt ∧ v.toInt ≤ 8 then v.toInt.toNat else 1 := rfl
  generalize an_cores v.toInt = C at hC hv
  refine mj_of (by decide) rfl (by decide) (Nat.le_of_ble_eq_true rfl) rfl ⟨Nat.le_add_right _ _, Nat.le_add_right _ _⟩ ?_
  generalize hEx : (fun (v : Option Value) (μ' : mj_MM) => mj_XV (fun μ' => ∃ B, LB B h0 C C 33 17 1 ∧ cl_Q B (cF C C 33 17 1) μ μ') v μ' ∧ mj_nc μ' = mj_nc μ + (59 + 3 * C) ∧ mj_ns μ' = mj_ns μ + (297 + 109 * C + 50000 * C / 512)) = Ex
  have hE : ∀ B μ', LB B h0 C C 33 17 1 → cl_Q B (cF C C 33 17 1) μ μ' → mj_nc μ' = mj_nc μ + (59 + 3 * C) → mj_ns μ' = mj_ns μ + (297 + 109 * C + 50000 * C / 512) → Ex none μ' := fun B μ' h1 h2 h3 h4 => by
    rw [← hEx]
    exact ⟨⟨rfl, B, h1, h2⟩, h3, h4⟩
  have hQ0 := cB0.Q (μ := μ) h0 C ht hi hr
  refine bk_T_init_0 ⟨⟨by omega, by omega⟩, fun a2 f2 => ?_⟩
  have n2 : h0 ≠ a2 := fun z => by
    rw [← z, ht] at f2
    cases f2
  have hQ1 : cl_Q (cl_ext (cB0 h0 C) 10 0 a2) (fun _ _ _ => 0) μ (mj_new μ a2 1004 101 101) := hQ0.newA 0 a2 101 (by decide) (fun z => absurd z.1 (by decide)) f2 (fun i => rfl) rfl (by decide)
  have L00 : cL (cl_ext (cB0 h0 C) 10 0 a2) 0 0 := Or.inl ⟨rfl, rfl⟩
  have hQ2 : cl_Q (cl_ext (cB0 h0 C) 10 0 a2) (cc_u (fun _ _ _ => 0) 0 0 0 1) μ (mj_pR (mj_new μ a2 1004 101 101) h0 0 (some a2)) := hQ1.pR 0 0 0 1 L00 (by decide) (by decide) (Or.inr (Or.inr ⟨rfl, rfl⟩))
  refine ⟨hQ1.t0 L00, ⟨by omega, by omega⟩, fun a7 f7 => ⟨⟨by omega, by omega⟩, fun a13 f13 => ⟨⟨by omega, by omega⟩, fun a20 f20 => ?_⟩⟩⟩
  have hQ3 : cl_Q (cl_ext (cl_ext (cB0 h0 C) 10 0 a2) 10 2 a7) (cc_u (fun _ _ _ => 0) 0 0 0 1) μ (mj_new (mj_pR (mj_new μ a2 1004 101 101) h0 0 (some a2)) a7 1006 33 33) := hQ2.newA 2 a7 33 (by decide) (fun z => by have z : (10 = 0 ∧ 2 = 0) ∨ (10 = 10 ∧ 2 = 0) := z; omega) f7 (fun i => rfl) rfl (by decide)
  have hQ4 : cl_Q (cl_ext (cl_ext (cB0 h0 C) 10 0 a2) 10 2 a7) (cc_u (cc_u (fun _ _ _ => 0) 0 0 0 1) 0 2 0 3) μ (mj_pR (mj_new (mj_pR (mj_new μ a2 1004 101 101) h0 0 (some a2)) a7 1006 33 33) h0 2 (some a7)) := hQ3.pR 0 2 0 3 (Or.inl L00) (by decide) (by decide) (Or.inr (Or.inr ⟨rfl, rfl⟩))
  have hQ5 : cl_Q (cl_ext (cl_ext (cl_ext (cB0 h0 C) 10 0 a2) 10 2 a7) 10 3 a13) (cc_u (cc_u (fun _ _ _ => 0) 0 0 0 1) 0 2 0 3) μ (mj_new (mj_pR (mj_new (mj_pR (mj_new μ a2 1004 101 101) h0 0 (some a2)) a7 1006 33 33) h0 2 (some a7)) a13 1007 17 17) := hQ4.newA 3 a13 17 (by decide) (fun z => by have z : ((10 = 0 ∧ 3 = 0) ∨ (10 = 10 ∧ 3 = 0)) ∨ (10 = 10 ∧ 3 = 2) := z; omega) f13 (fun i => rfl) rfl (by decide)
  have hQ6 : cl_Q (cl_ext (cl_ext (cl_ext (cB0 h0 C) 10 0 a2) 10 2 a7) 10 3 a13) (cc_u (cc_u (cc_u (fun _ _ _ => 0) 0 0 0 1) 0 2 0 3) 0 3 0 4) μ (mj_pR (mj_new (mj_pR (mj_new (mj_pR (mj_new μ a2 1004 101 101) h0 0 (some a2)) a7 1006 33 33) h0 2 (some a7)) a13 1007 17 17) h0 3 (some a13)) := hQ5.pR 0 3 0 4 (Or.inl (Or.inl L00)) (by decide) (by decide) (Or.inr (Or.inr ⟨rfl, rfl⟩))
  have hQ7 := hQ6.new 3 0 a20 4 (by decide) (fun z => by have z : (((3 = 0 ∧ 0 = 0) ∨ (3 = 10 ∧ 0 = 0)) ∨ (3 = 10 ∧ 0 = 2)) ∨ (3 = 10 ∧ 0 = 3) := z; omega) f20 (fun p => rfl)
  generalize hμ7 : mj_new (mj_pR (mj_new (mj_pR (mj_new (mj_pR (mj_new μ a2 1004 101 101) h0 0 (some a2)) a7 1006 33 33) h0 2 (some a7)) a13 1007 17 17) h0 3 (some a13)) a20 4 0 4 = μ7 at hQ7
  have c7 : mj_nc μ7 = mj_nc μ + 1 + 1 + 1 + 1 := by rw [← hμ7]; rfl
  have s7 : mj_ns μ7 = mj_ns μ + 101 + 33 + 17 + 4 := by rw [← hμ7]; rfl
  refine ⟨fun μ' => μ' = μ7, ?_, fun μ' e q1 q2 => ?_⟩
  · subst hμ7
    refine mj_of (by decide) rfl (by decide) (Nat.le_of_ble_eq_true rfl) rfl ⟨Nat.le_refl _, Nat.le_refl _⟩ ?_
    exact bk_U_init_0 ⟨⟨rfl, rfl⟩, rfl, rfl⟩
  · subst e
    clear hμ7 hQ0 hQ1 hQ2 hQ3 hQ4 hQ5 hQ6
    have l00 : cL (cl_ext (cl_ext (cl_ext (cl_ext (cB0 h0 C) 10 0 a2) 10 2 a7) 10 3 a13) 3 0 a20) 0 0 := Or.inl (Or.inl (Or.inl L00))
    have hQ8 : cl_Q (cl_ext (cl_ext (cl_ext (cl_ext (cB0 h0 C) 10 0 a2) 10 2 a7) 10 3 a13) 3 0 a20) (cc_u (cc_u (cc_u (cc_u (fun _ _ _ => 0) 0 0 0 1) 0 2 0 3) 0 3 0 4) 0 4 0 1) μ (mj_pR μ' h0 4 (some a20)) := hQ7.pR 0 4 0 1 l00 (by decide) (by decide) (Or.inr (Or.inr ⟨rfl, rfl⟩))
    have D00 : cD (cl_ext (cl_ext (cl_ext (cl_ext (cB0 h0 C) 10 0 a2) 10 2 a7) 10 3 a13) 3 0 a20) 0 0 = h0 := rfl
    have bL : ∀ K i, cL (cl_ext (cl_ext (cl_ext (cl_ext (cB0 h0 C) 10 0 a2) 10 2 a7) 10 3 a13) 3 0 a20) K i ↔ (K = 0 ∧ i = 0) ∨ (K = 10 ∧ i = 0) ∨ (K = 10 ∧ i = 2) ∨ (K = 10 ∧ i = 3) ∨ (K = 3 ∧ i = 0) := fun K i => by
      rw [xL, xL, xL, xL]
      show (((((K = 0 ∧ i = 0) ∨ _) ∨ _) ∨ _) ∨ _) ↔ _
      omega
    have bZ : cZ (cl_ext (cl_ext (cl_ext (cl_ext (cB0 h0 C) 10 0 a2) 10 2 a7) 10 3 a13) 3 0 a20) = fun _ => False := rfl
    have bN : ∀ K i, cN (cl_ext (cl_ext (cl_ext (cl_ext (cB0 h0 C) 10 0 a2) 10 2 a7) 10 3 a13) 3 0 a20) K i = if K = 10 then (if i = 0 then 101 else if i = 1 then C else if i = 2 then 33 else 17) else (if i = 0 then 1000 else if i = 1 then 50000 * C else 50000) / 512 + 1 := fun K i => rfl
    have t8 := hQ7.t0 l00
    rw [D00] at t8
    generalize cl_ext (cl_ext (cl_ext (cl_ext (cB0 h0 C) 10 0 a2) 10 2 a7) 10 3 a13) 3 0 a20 = B4 at hQ8 l00 D00 bL bZ bN
    clear hQ7 L00
    refine bk_T_init_39 ⟨t8, ⟨by omega, by omega⟩, fun a3 f3 => ?_⟩
    have hd5 : ¬ cL B4 5 0 := fun z => by
      have := (bL 5 0).mp z
      omega
    have hd11 : ¬ cL B4 11 0 := fun z => by
      have := (bL 11 0).mp z
      omega
    refine ⟨_, _, _, lc_log hQ8 0 a3 1000 hd5 hd11 f3 (fun p => rfl) (fun i => rfl) (bN 11 0) (by decide) (by decide), ⟨?_, ?_⟩, fun μ1 h r1 r2 => ?_⟩
    · show mj_nc μ' + 1 + 1 ≤ _
      omega
    · show mj_ns μ' + 3 + (1000 / 512 + 1) ≤ _
      omega
    · have r1' : mj_nc μ1 = mj_nc μ' + 1 + 1 := r1
      have r2' : mj_ns μ1 = mj_ns μ' + 3 + (1000 / 512 + 1) := r2
      obtain ⟨b, hb, hab, hQ9⟩ := h
      have hd11' : ¬ cL (cl_ext B4 5 0 a3) 11 0 := fun z => hd11 (z.resolve_right (fun q => by omega))
      have L1 : cL (cl_ext (cl_ext B4 5 0 a3) 11 0 b) 0 0 := Or.inl (Or.inl l00)
      have D1 : cD (cl_ext (cl_ext B4 5 0 a3) 11 0 b) 0 0 = h0 := by
        rw [xDl hd11' (Or.inl l00), xDl hd5 l00, D00]
      have L5 : cL (cl_ext (cl_ext B4 5 0 a3) 11 0 b) 5 0 := Or.inl (Or.inr ⟨rfl, rfl⟩)
      have D5 : cl_ref (cl_ext (cl_ext B4 5 0 a3) 11 0 b) 5 1 = some a3 := by
        rw [show (1 : Nat) = 0 + 1 from rfl, cl_ref_s, xDo _ _ _ _ (by omega), xD]
      have hQ10 := hQ9.pR 0 5 0 1 L1 (by decide) (by decide) (Or.inr L5)
      have t1 := hQ9.t0 L1
      rw [show cl_tk 0 5 = 5 from rfl, D5, D1] at hQ10
      rw [D1] at t1
      have bL' : ∀ K i, cL (cl_ext (cl_ext B4 5 0 a3) 11 0 b) K i ↔ (K = 0 ∧ i = 0) ∨ (K = 10 ∧ i = 0) ∨ (K = 10 ∧ i = 2) ∨ (K = 10 ∧ i = 3) ∨ (K = 3 ∧ i = 0) ∨ (K = 5 ∧ i = 0) ∨ (K = 11 ∧ i = 0) := fun K i => by
        rw [xL, xL, bL]
        omega
      have bZ' : cZ (cl_ext (cl_ext B4 5 0 a3) 11 0 b) = fun _ => False := bZ
      have bN' : ∀ K i, cN (cl_ext (cl_ext B4 5 0 a3) 11 0 b) K i = if K = 10 then (if i = 0 then 101 else if i = 1 then C else if i = 2 then 33 else 17) else (if i = 0 then 1000 else if i = 1 then 50000 * C else 50000) / 512 + 1 := bN
      generalize cl_ext (cl_ext B4 5 0 a3) 11 0 b = B5 at hQ10 L1 D1 bL' bZ' bN'
      have go : ∀ a, mj_t μ1 a = 0 → mj_J G mY_T_init Ex (mj_nc μ + (59 + 3 * C)) (mj_ns μ + (297 + 109 * C + 50000 * C / 512)) 83 [(0, va_rf (some h0)), (2, .int (nI C)), (3, .int (nI 0))] [] (mj_pR (mj_new (mj_pR μ1 h0 5 (some a3)) a 1005 C C) h0 1 (some a)) := by
        intro a fa
        have hdA : ¬ cL B5 10 1 := fun z => by
          have := (bL' 10 1).mp z
          omega
        have hQ11 := hQ10.newA 1 a C (by decide) hdA fa (fun i => rfl) (bN' 10 1) (by omega)
        have hQ12 := hQ11.pR 0 1 0 2 (Or.inl L1) (by decide) (by decide) (Or.inr (Or.inr ⟨rfl, rfl⟩))
        have D12 : cD (cl_ext B5 10 1 a) 0 0 = h0 := by
          rw [xDl hdA L1, D1]
        have D13 : cl_ref (cl_ext B5 10 1 a) (cl_tk 0 1) 2 = some a := by
          show cl_ref (cl_ext B5 10 1 a) 10 (1 + 1) = some a
          rw [cl_ref_s, xD]
        rw [D12, D13, cF_0 C] at hQ12
        refine li_83 hC hE C 0 (cl_ext B5 10 1 a) _ (by omega) ⟨bZ', D12, bN', fun K i => ?_⟩ hQ12 ?_ ?_
        · rw [xL, bL']
          omega
        · show mj_nc μ + (59 + 3 * C) = mj_nc μ1 + 1 + 3 * C + 52
          omega
        · show mj_ns μ + (297 + 109 * C + 50000 * C / 512) = mj_ns μ1 + C + 108 * C + 137 + 50000 * C / 512
          omega
      have v1 : (v < 1) = (v.toInt < 1) := by rw [mj_iLT, show (1 : Int32).toInt = 1 from by decide]
      have v8 : (v ≤ 8) = (v.toInt ≤ 8) := by rw [mj_iLE, show (8 : Int32).toInt = 8 from by decide]
      have one : ¬ (1 ≤ v.toInt ∧ v.toInt ≤ 8) → C = 1 := fun z => by
        rw [hv, if_neg z]
      refine bk_T_init_53 ⟨t1, fun z => ⟨⟨by omega, by omega⟩, fun a fa => ?_⟩, fun z => ⟨fun y => ?_, fun y => ⟨⟨by omega, by omega⟩, fun a fa => ?_⟩⟩⟩
      · rw [v1] at z
        have := go a fa
        rw [one (by omega)] at this ⊢
        exact this
      · rw [v1] at z
        rw [v8] at y
        obtain ⟨n, n1, n2, n3⟩ := mj_nn (v := v) (by omega)
        have hCn : C = n := by
          rw [hv, if_pos (by omega), n3, Int.toNat_natCast]
        refine ⟨n, ⟨n2, by omega⟩, ⟨by omega, by omega⟩, fun a fa => ?_⟩
        have := go a fa
        rw [hCn] at this ⊢
        rw [n2]
        exact this
      · rw [v8] at y
        have := go a fa
        rw [one (by omega)] at this ⊢
        exact this
end TK
