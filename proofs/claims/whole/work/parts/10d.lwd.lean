section LD
variable {G : mj_G} {B : cl_B} {σ : ss_S} {c : cc_S} {μ μ1 μ3 : mj_MM}
theorem rf_k_3 {k : Nat} (h : rf_k k < 9) : rf_k k < 4 := by
  have := rf_k_lt h
  simp only [List.mem_cons, List.not_mem_nil, or_false] at this
  have d : ∀ k, k < 45 → rf_k k < 9 → rf_k k < 4 := by decide
  exact d k (by omega) h
/-- the class beside what was made after it -/
theorem cl_R.start (h : cl_R B c μ1) (hz : cZ B = fun _ => False) (hm : ∀ j, cL B 5 j → lg_m c j = 0) (Z : Nat → Prop) (hf : ∀ a, mj_t μ1 a ≠ 0 → mj_t μ3 a = mj_t μ1 a ∧ mj_n μ3 a = mj_n μ1 a ∧ (∀ k, mj_i μ3 a k = mj_i μ1 a k) ∧ (∀ k, mj_r μ3 a k = mj_r μ1 a k) ∧ ∀ k, mj_l μ3 a k = mj_l μ1 a k)
    (hZ : ∀ a, Z a → mj_t μ3 a ≠ 0 ∧ ∀ K i, cL B K i → a ≠ cD B K i) : cl_R (Z, B.2) c μ3 := by
  obtain ⟨a1, a2, a3, a4, a5, a6, a7, a8, a9, a10⟩ := h
  have f : ∀ K i, cL B K i → _ := fun K i hl => hf (cD B K i) (by rw [a1 K i hl]; exact cl_tag_pos K i)
  refine ⟨fun K i hl => ?_, a2, fun K i hl hK => ?_, fun K p i hl hp => ?_, fun K p i hl hp => ?_, fun j i hl hi => ?_, ⟨fun j hl => ?_, fun j b j' b' a h1 h2 h3 h4 h5 h6 => ?_⟩, a8, hZ, a10⟩
  · exact ((f K i hl).1).trans (a1 K i hl)
  · have := a3 K i hl hK
    rw [← (f K i hl).2.1] at this
    exact this
  · exact ((f K i hl).2.2.1 p).trans (a4 K p i hl hp)
  · obtain ⟨g1, g2⟩ := a5 K p i hl hp
    exact ⟨((f K i hl).2.2.2.1 p).trans g1, g2⟩
  · obtain ⟨g1, g2⟩ := a6 j i hl hi
    exact ⟨((f 10 j hl).2.2.2.1 i).trans g1, g2⟩
  · obtain ⟨g1, g2, g3, g4, g5⟩ := a7.1 j hl
    refine ⟨g1, g2, g3, g4, fun b hb => ?_⟩
    rcases g5 b hb with z | ⟨x, z1, z2, z3, z4, z5, z6⟩
    · exact Or.inl ⟨((f 11 j g1).2.2.2.1 b).trans z.1, z.2⟩
    · rw [hm j hl] at z5
      omega
  · have g1 := (a7.1 j h1).1
    have g2 := (a7.1 j' h2).1
    exact a7.2 j b j' b' a h1 h2 h3 h4 (((f 11 j g1).2.2.2.1 b).symm.trans h5) (((f 11 j' g2).2.2.2.1 b').symm.trans h6)
def cellv (G : mj_G) : Int32 := if nI (G.2.2.1.2 2).2.1 ≤ 0 then 0 else (G.2.2.1.2 2).2.2 (Int32.toNatClampNeg 0)
theorem lw_cell (hL : (G.2.2.1.2 2).2.1 ≤ 3073) (μ : mj_MM) : mj_M G my_W_cell mY_W_cell [va_rf (some (G.2.2.1.2 2).1), .int 0] (mj_nc μ) (mj_ns μ) μ (mj_XI (fun x μ' => x = cellv G ∧ μ' = μ)) := by
  refine mj_of (by decide) rfl (by decide) (Nat.le_of_ble_eq_true rfl) rfl ⟨Nat.le_refl _, Nat.le_refl _⟩ ?_
  unfold cellv
  refine bk_W_cell_0 ⟨fun z => ?_, fun z => ⟨?_, ?_⟩⟩
  · rw [if_pos z]
    exact ⟨⟨_, rfl, rfl, rfl⟩, rfl, rfl⟩
  · rw [show (0 : Int32) = nI 0 from rfl, nI_leI (by omega) (by decide)] at z
    rw [show (0 : Int32) = nI 0 from rfl]
    exact vp_in_nI (by omega) (by omega)
  · rw [if_neg z]
    exact ⟨⟨_, rfl, rfl, rfl⟩, rfl, rfl⟩
def mu0 : mj_MM := (fun _ => 0, fun _ _ => 0, fun _ _ => none, fun _ _ => 0, fun _ => 0, 0, 0)
theorem lw_law (hG : gS G) (hL : (G.2.2.1.2 2).2.1 ≤ 3073) : mj_J G mY_W_law (fun v _ => v = some (.int 1)) 600000 7302250 0 [(0, va_rf (some (G.2.2.1.2 2).1))] [] mu0 := by
  have c0 : mj_nc mu0 = 0 := rfl
  have s0 : mj_ns mu0 = 0 := rfl
  refine bk_W_law_0 ⟨⟨by omega, by omega⟩, fun h fh => ?_⟩
  refine ⟨_, lw_cell hL (mj_new mu0 h 1 0 13), fun x μ' q e1 e2 => ?_⟩
  obtain ⟨hx, rfl⟩ := q
  have hC : 1 ≤ an_cores x.toInt ∧ an_cores x.toInt ≤ 8 := by
    unfold an_cores
    split
    · omega
    · omega
  refine bk_W_law_9 ⟨h, rfl, _, _, _, lc_Tinit h x mj_nst (fun k => mj_nsi k) (fun k => mj_nsr k), ⟨by omega, by omega⟩, fun μ1 q1 e3 e4 => ?_⟩
  obtain ⟨B, hB, hQ⟩ := q1
  refine bk_W_law_12 ⟨⟨by omega, by omega⟩, fun m fm => ?_⟩
  refine ⟨_, lw_cell hL (mj_new μ1 m 11 0 45), fun x' μ2 q2 e5 e6 => ?_⟩
  obtain ⟨hx', rfl⟩ := q2
  have exx : x' = x := hx'.trans hx.symm
  subst exx
  refine bk_W_law_22 ⟨m, rfl, _, _, _, rc_init mj_nst (fun k => mj_nsi k) (fun k => mj_nsl k) x', ⟨by omega, by omega⟩, fun μ3 q3 e7 e8 => ?_⟩
  obtain ⟨⟨A, hR⟩, hF⟩ := q3
  refine bk_W_law_25 ?_
  generalize hCe : an_cores x'.toInt = C at hC hB hQ hR e3 e4
  have hP := REP.zero h C hC hB
  have hf : ∀ a, mj_t μ1 a ≠ 0 → mj_t μ3 a = mj_t μ1 a ∧ mj_n μ3 a = mj_n μ1 a ∧ (∀ k, mj_i μ3 a k = mj_i μ1 a k) ∧ (∀ k, mj_r μ3 a k = mj_r μ1 a k) ∧ ∀ k, mj_l μ3 a k = mj_l μ1 a k := fun a ha => by
    have hne : a ≠ m := fun z => ha (by rw [z]; exact fm)
    have g := hF a (by rw [mj_nwt hne]; exact ha)
    obtain ⟨g2, g3, g4, g5⟩ := g.2 hne
    exact ⟨g.1.trans (mj_nwt hne), g2.trans (mj_nwn hne), fun k => (g3 k).trans (mj_nwi hne k), fun k => (g4 k).trans (mj_nwr hne k), fun k => (g5 k).trans (mj_nwl hne k)⟩
  have hZ : ∀ a, (a = m ∨ ∃ k, rf_k k < 9 ∧ a = A k) → mj_t μ3 a ≠ 0 ∧ ∀ K i, cL B K i → a ≠ cD B K i := fun a ha => by
    have tD : ∀ K i, cL B K i → mj_t μ1 (cD B K i) = cl_tag K i := hQ.1.1
    rcases ha with rfl | ⟨k, hk, rfl⟩
    · refine ⟨by rw [hR.1]; decide, fun K i hl z => ?_⟩
      have := tD K i hl
      rw [← z, fm] at this
      exact cl_tag_pos K i this.symm
    · have tA := (hR.2.1 k hk).2.1
      refine ⟨by rw [tA]; omega, fun K i hl z => ?_⟩
      have t1 := tD K i hl
      have t3 := (hf (cD B K i) (by rw [t1]; exact cl_tag_pos K i)).1
      rw [t1, ← z, tA] at t3
      have h3 := rf_k_3 hk
      unfold cl_tag at t3
      split at t3
      · omega
      · split at t3
        · omega
        · omega
  have z52 : ∀ j, cF C C 33 17 1 5 2 j = 0 := fun j => by
    unfold cF
    simp
  have hcl := hQ.1.start hB.1 (fun j _ => by unfold lg_m; rw [z52]; exact if_pos (Nat.zero_le _)) (fun a => a = m ∨ ∃ k, rf_k k < 9 ∧ a = A k) hf hZ
  refine lw_loop hG hL ((G.2.2.1.2 2).2.1 + 6) 1 (sp_0 C) μ3 (by omega) (Nat.le_refl _) (by omega) ⟨(fun a => a = m ∨ ∃ k, rf_k k < 9 ∧ a = A k, B.2), A, hB.2.1, fun a => Iff.rfl, ⟨_, hcl.self, hP⟩, hR, (TB.zero C hP.v).mono (by omega), ?_, ?_⟩
  · have d1 : mj_nc (mj_new mu0 h 1 0 13) = 1 := rfl
    have d2 : mj_nc (mj_new μ1 m 11 0 45) = mj_nc μ1 + 1 := rfl
    omega
  · have d1 : mj_ns (mj_new mu0 h 1 0 13) = 13 := rfl
    have d2 : mj_ns (mj_new μ1 m 11 0 45) = mj_ns μ1 + 45 := rfl
    omega
end LD
