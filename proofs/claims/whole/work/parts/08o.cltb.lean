section TB
variable {G : mj_G} {B : cl_B} {e t0 t1 : Nat} {σ τ : ss_S} {c : cc_S} {μ μ0 : mj_MM} {Ex : Option Value → mj_MM → Prop} {N S : Nat}
def insI (c c' : cc_S) (k : Nat) (M1 : List Nat) : Prop := (M1 = [] ∧ c' = cc_u (cc_u c 2 3 k (c 3 0 0)) 3 0 0 (k + 1)) ∨ ∃ s, lastw M1 0 = s + 1 ∧ M1 ≠ [] ∧ cL B 2 s ∧ c' = cc_u (cc_u c 2 3 k (c 2 3 s)) 2 3 s (k + 1)
/-- the place of a new interrupt: behind those that are not lower -/
theorem rl_addI (hQ : cl_Q B c μ0 μ) (hu : cL B 3 0) (k v : Nat) (hk : cL B 2 k) (hkb : k + 1 < 2 ^ 31) (h20 : c 2 0 k = v) : ∀ (L2 L1 : List Nat) (u w : Nat), ch (c 2 3) u L2 → (∀ j ∈ L2, cL B 2 j) → ((w = 0 ∧ L1 = []) ∨ ∃ s, w = s + 1 ∧ cL B 2 s ∧ lastw L1 0 = s + 1 ∧ L1 ≠ []) → (∀ j ∈ L1, v ≤ c 2 0 j) →
    (∀ M1 M2 c' μ', M1 ++ M2 = L1 ++ L2 → (∀ j ∈ M1, v ≤ c 2 0 j) → (∀ j, M2.head? = some j → c 2 0 j < v) → insI (B := B) c c' k M1 → cl_Q B c' μ0 μ' → mj_nc μ' = mj_nc μ → mj_ns μ' = mj_ns μ → Ex none μ') →
    mj_J G mY_U_add Ex N S 17 [(0, va_rf (some (cD B 3 0))), (1, va_rf (some (cD B 2 k))), (2, va_rf (cl_ref B 2 w)), (3, va_rf (cl_ref B 2 u))] [] μ := by
  have put0 : cl_Q B (cc_u (cc_u c 2 3 k (c 3 0 0)) 3 0 0 (k + 1)) μ0 (mj_pR (mj_pR μ (cD B 2 k) 3 (mj_r μ (cD B 3 0) 0)) (cD B 3 0) 0 (some (cD B 2 k))) := by
    rw [hQ.r3_0 hu]
    exact (hQ.pR 2 3 k (c 3 0 0) hk (by decide) (hQ.b 3 0 0 (by decide)) (hQ.l3_0 hu)).pR 3 0 0 (k + 1) hu (by decide) hkb (Or.inr hk)
  have put1 : ∀ s, cL B 2 s → cl_Q B (cc_u (cc_u c 2 3 k (c 2 3 s)) 2 3 s (k + 1)) μ0 (mj_pR (mj_pR μ (cD B 2 k) 3 (mj_r μ (cD B 2 s) 3)) (cD B 2 s) 3 (some (cD B 2 k))) := fun s hs => by
    rw [hQ.r2_3 hs]
    exact (hQ.pR 2 3 k (c 2 3 s) hk (by decide) (hQ.b 2 3 s (by decide)) (hQ.l2_3 hs)).pR 2 3 s (k + 1) hs (by decide) hkb (Or.inr hk)
  have b20 := hQ.b 2 0 k (by decide)
  intro L2
  induction L2 with
  | nil =>
    intro L1 u w hc hl hw hL1 he
    have hu0 : u = 0 := hc
    subst hu0
    refine bk_U_add_17 ⟨fun _ => ?_, fun b z => (by cases z)⟩
    rcases hw with ⟨rfl, h3⟩ | ⟨s, rfl, h2, h3, h4⟩
    · exact ⟨fun _ => ⟨hQ.t3 hu, _, rfl, hQ.t2 hk, he L1 [] _ _ rfl hL1 (fun j hj => (by cases hj)) (Or.inl ⟨h3, rfl⟩) put0 rfl rfl⟩, fun b z => (by cases z)⟩
    · refine ⟨fun z => (by cases z), fun b z => ?_⟩
      cases z
      exact ⟨hQ.t2 h2, _, rfl, hQ.t2 hk, he L1 [] _ _ rfl hL1 (fun j hj => (by cases hj)) (Or.inr ⟨s, h3, h4, h2, rfl⟩) (put1 s h2) rfl rfl⟩
  | cons x L2 ih =>
    intro L1 u w hc hl hw hL1 he
    obtain ⟨hu0, hc⟩ := hc
    subst hu0
    have hlx := hl x (List.mem_cons_self ..)
    have bx := hQ.b 2 0 x (by decide)
    refine bk_U_add_17 ⟨fun z => (by cases z), fun b z => ?_⟩
    cases z
    refine ⟨hQ.t2 hlx, _, rfl, hQ.t2 hk, ?_⟩
    rw [hQ.i2_0 hk, hQ.i2_0 hlx, mj_lt (by omega) (by omega), h20]
    refine ⟨fun z => ?_, fun z => ?_⟩
    · have hd : ∀ j, (x :: L2).head? = some j → c 2 0 j < v := fun j hj => by
        cases hj
        exact z
      rcases hw with ⟨rfl, h3⟩ | ⟨s, rfl, h2, h3, h4⟩
      · exact ⟨fun _ => ⟨hQ.t3 hu, he L1 (x :: L2) _ _ rfl hL1 hd (Or.inl ⟨h3, rfl⟩) put0 rfl rfl⟩, fun b y => (by cases y)⟩
      · refine ⟨fun y => (by cases y), fun b y => ?_⟩
        cases y
        exact ⟨hQ.t2 h2, he L1 (x :: L2) _ _ rfl hL1 hd (Or.inr ⟨s, h3, h4, h2, rfl⟩) (put1 s h2) rfl rfl⟩
    · rw [hQ.r2_3 hlx]
      refine ih (L1 ++ [x]) (c 2 3 x) (x + 1) hc (fun j hj => hl j (List.mem_cons_of_mem _ hj)) (Or.inr ⟨x, rfl, hlx, lastw_app x L1 0, by simp⟩) (fun j hj => ?_) (fun M1 M2 c' μ' h1 => he M1 M2 c' μ' (by rw [h1, List.append_assoc]; rfl))
      rcases List.mem_append.mp hj with y | y
      · exact hL1 j y
      · rw [List.mem_singleton.mp y]
        omega
theorem lq_interrupt (hQ : cl_Q B c μ0 μ) (hP : REP B 0 0 0 σ c) (l : Int32) (v w : Int64) : ∃ n, n ≤ 1 ∧ mj_M G my_T_interrupt mY_T_interrupt [va_rf (some (cD B 0 0)), .int l, .long v, .long w] (mj_nc μ + n) (mj_ns μ + 4 * n) μ (mj_XI (fun x μ' => x = (an_interrupt σ l.toInt v.toInt w.toInt).1 ∧ ∃ B', cZ B' = cZ B ∧ cD B' 0 0 = cD B 0 0 ∧ CR B' 0 0 0 (an_interrupt σ l.toInt v.toInt w.toInt).2 μ0 μ')) := by
  have hx := hP.x
  have hu := hP.u
  have hV := hP.v
  have h35 := hV.2.2.2.2.1
  have hnow : σ 43 0 ≤ 50000 := hV.2.2.2.2.2.2.2.2.2
  have e31 : c 3 1 0 = σ 35 0 := hP.h10.2.1
  have e4 : c 0 4 0 = 1 := hP.h1.1.2.2.2.2.1
  have eR : mj_r μ (cD B 0 0) 4 = some (cD B 3 0) := by rw [hQ.r0_4 hx, e4]; rfl
  have l1 : (l < 1) = (l.toInt < 1) := by rw [mj_iLT, show (1 : Int32).toInt = 1 from by decide]
  have l15 : (15 < l) = (15 < l.toInt) := by rw [mj_iLT, show (15 : Int32).toInt = 15 from by decide]
  have w1' : (w < 1) = (w.toInt < 1) := by rw [mj_jLT, show (1 : Int64).toInt = 1 from by decide]
  have w10 : (w ≤ 10000) = (w.toInt ≤ 10000) := by rw [mj_jLE, show (10000 : Int64).toInt = 10000 from by decide]
  have stay : ∃ B', cZ B' = cZ B ∧ cD B' 0 0 = cD B 0 0 ∧ CR B' 0 0 0 σ μ0 μ := ⟨B, rfl, rfl, c, hQ, hP⟩
  by_cases good : ((1 ≤ l.toInt ∧ l.toInt ≤ 15) ∧ (σ 43 0 ≤ v.toInt ∧ v.toInt ≤ 50000) ∧ 1 ≤ w.toInt ∧ w.toInt ≤ 10000) ∧ σ 35 0 ≠ 500
  · obtain ⟨⟨g1, g2, g4, g5⟩, g3⟩ := good
    refine ⟨1, Nat.le_refl _, ?_⟩
    obtain ⟨ln, ln1, rfl, ln3⟩ := mj_nn (v := l) (by omega)
    obtain ⟨m, m1, rfl, m3⟩ := mj_LL (v := v) (by omega)
    obtain ⟨q, q1, rfl, q3⟩ := mj_LL (v := w) (by omega)
    have ean : an_interrupt σ (nI ln).toInt (lN m).toInt (lN q).toInt = (nI (σ 35 0 + 1), ss_u (ss_u (ss_u (ss_u σ 36 (σ 35 0) ln) 37 (σ 35 0) m) 38 (σ 35 0) q) 35 0 (σ 35 0 + 1)) := by
      unfold an_interrupt
      rw [if_pos ⟨g1, g2, g4, g5⟩, if_neg g3, ln3, m3, q3, Int.toNat_natCast, Int.toNat_natCast, Int.toNat_natCast]
    rw [ean]
    refine mj_of (by decide) rfl (by decide) (Nat.le_of_ble_eq_true rfl) rfl ⟨Nat.le_add_right _ _, Nat.le_add_right _ _⟩ ?_
    refine bk_T_interrupt_0 ?_
    rw [l1, l15]
    refine ⟨fun z => absurd z (by omega), fun _ => ⟨fun z => absurd z (by omega), fun _ => ⟨hQ.t0 hx, _, lc_isToCome hQ hP (lN m), fun y μ1 h r1 r2 => ?_⟩⟩⟩
    obtain ⟨rfl, rfl⟩ := h
    rw [if_pos g2]
    refine bk_T_interrupt_16 ⟨fun z => absurd z (by decide), fun _ => ?_⟩
    rw [w1', w10]
    refine ⟨fun z => absurd z (by omega), fun _ => ⟨fun _ => ⟨hQ.t0 hx, _, eR, hQ.t3 hu, ?_⟩, fun z => absurd (by omega) z⟩⟩
    rw [hQ.i3_1 hu, e31, show (500 : Int32) = nI 500 from rfl, mj_lt (by omega) (by decide)]
    refine ⟨fun _ => ⟨⟨Nat.le_refl _, Nat.le_refl _⟩, fun a ha => ?_⟩, fun z => absurd (by omega) z⟩
    rw [lN_i, lN_i, eR]
    have hd2 : ¬ cL B 2 (σ 35 0) := fun z => by
      have := (hP.b.2.2.2.2.2.2.2.2.2.2.1 _).mp z
      omega
    have z2 : ∀ p, c 2 p (σ 35 0) = 0 := fun p => hP.h16 2 p _ (by decide) hd2
    have hQ2 := hQ.new 2 (σ 35 0) a 4 (by decide) hd2 ha z2
    have hk2 : cL (cl_ext B 2 (σ 35 0) a) 2 (σ 35 0) := Or.inr ⟨rfl, rfl⟩
    have hx' : cL (cl_ext B 2 (σ 35 0) a) 0 0 := Or.inl hx
    have hu' : cL (cl_ext B 2 (σ 35 0) a) 3 0 := Or.inl hu
    have eD2 : cD (cl_ext B 2 (σ 35 0) a) 2 (σ 35 0) = a := xD B 2 (σ 35 0) a
    have eD0 : cD (cl_ext B 2 (σ 35 0) a) 0 0 = cD B 0 0 := xDl hd2 hx
    have eD3 : cD (cl_ext B 2 (σ 35 0) a) 3 0 = cD B 3 0 := xDl hd2 hu
    have hQ3 := ((hQ2.pI 2 0 (σ 35 0) ln hk2 (by decide) (by omega)).pI 2 1 (σ 35 0) m hk2 (by decide) (by omega)).pI 2 2 (σ 35 0) q hk2 (by decide) (by omega)
    have init : mj_M G my_I_init mY_I_init [va_rf (some a), .int (nI ln), .int (nI m), .int (nI q)] (mj_nc μ1 + 1) (mj_ns μ1 + 4) (mj_new μ1 a 3 0 4) (mj_XV (fun μ' => cl_Q (cl_ext B 2 (σ 35 0) a) (cc_u (cc_u (cc_u c 2 0 (σ 35 0) ln) 2 1 (σ 35 0) m) 2 2 (σ 35 0) q) μ0 μ')) := by
      refine mj_of (by decide) rfl (by decide) (Nat.le_of_ble_eq_true rfl) rfl ⟨Nat.le_refl _, Nat.le_refl _⟩ ?_
      have t2 := hQ2.t2 hk2
      rw [eD2] at t2
      have hQ3' := hQ3
      rw [eD2] at hQ3'
      exact bk_I_init_0 ⟨t2, ⟨rfl, hQ3'⟩, rfl, rfl⟩
    refine ⟨_, init, fun μ3 h r5 r6 => bk_T_interrupt_71 ⟨_, rfl, ?_, ?_⟩⟩
    · have := h.t3 hu'
      rw [eD3] at this
      exact this
    · obtain ⟨h10a, h10b, h10c, h10d, L, w1, w2, w3⟩ := hP.h10
      have hQ5 := h.pI 3 1 0 (σ 35 0 + 1) hu' (by decide) (by omega)
      generalize hc3 : cc_u (cc_u (cc_u c 2 0 (σ 35 0) ln) 2 1 (σ 35 0) m) 2 2 (σ 35 0) q = c3 at h hQ5
      have hkL : σ 35 0 ∉ L := fun z => by
        have := ((w2 _).mp z).1
        omega
      generalize hc4 : cc_u c3 3 1 0 (σ 35 0 + 1) = c4 at hQ5
      have f23 : c4 2 3 = c 2 3 := by
        rw [← hc4, ← hc3]
        rfl
      have f30 : c4 3 0 0 = c 3 0 0 := by
        rw [← hc4, ← hc3]
        rfl
      have f20 : ∀ j, c4 2 0 j = cc_u c 2 0 (σ 35 0) ln 2 0 j := fun j => by
        rw [← hc4, ← hc3]
        rfl
      have f20k : c4 2 0 (σ 35 0) = ln := by
        rw [f20]
        exact cc_us _ _ _ _ _
      have e20 : ∀ j ∈ L, c4 2 0 j = σ 36 j := fun j hj => by
        rw [f20, cc_ui _ _ _ _ (fun z => hkL (by rw [← z]; exact hj))]
        exact (h10a j ((w2 j).mp hj).1).1
      have hL2 : ∀ j ∈ L, cL (cl_ext B 2 (σ 35 0) a) 2 j := fun j hj => Or.inl (hP.i ((w2 j).mp hj).1)
      have addI : mj_M G my_U_add mY_U_add [va_rf (some (cD B 3 0)), va_rf (some a)] (mj_nc μ3) (mj_ns μ3) μ3 (mj_XV (fun μ' => CR (cl_ext B 2 (σ 35 0) a) 0 0 0 (ss_u (ss_u (ss_u (ss_u σ 36 (σ 35 0) ln) 37 (σ 35 0) m) 38 (σ 35 0) q) 35 0 (σ 35 0 + 1)) μ0 μ')) := by
        refine mj_of (by decide) rfl (by decide) (Nat.le_of_ble_eq_true rfl) rfl ⟨Nat.le_refl _, Nat.le_refl _⟩ ?_
        have h0 := h.t3 hu'
        rw [eD3] at h0
        have h31 := h.i3_1 hu'
        rw [eD3] at h31
        have e31' : c3 3 1 0 = σ 35 0 := by
          rw [← hc3]
          exact e31
        have h30 := h.r3_0 hu'
        have e30' : c3 3 0 0 = c 3 0 0 := by
          rw [← hc3]
          rfl
        rw [eD3, e30'] at h30
        refine bk_U_add_0 ⟨h0, ?_⟩
        rw [h30, h31, e31', nI_1]
        have J := rl_addI (G := G) (N := mj_nc μ3) (S := mj_ns μ3) (Ex := fun v' μ' => mj_XV (fun μ' => CR (cl_ext B 2 (σ 35 0) a) 0 0 0 (ss_u (ss_u (ss_u (ss_u σ 36 (σ 35 0) ln) 37 (σ 35 0) m) 38 (σ 35 0) q) 35 0 (σ 35 0 + 1)) μ0 μ') v' μ' ∧ mj_nc μ' = mj_nc μ3 ∧ mj_ns μ' = mj_ns μ3) hQ5 hu' (σ 35 0) ln hk2 (by omega) f20k L [] (c 3 0 0) 0 (by rw [f23]; exact w1) hL2 (Or.inl ⟨rfl, rfl⟩) (fun j hj => (by cases hj)) (fun M1 M2 c' μ' h1 h2 h3 h4 hQ4 r7 r8 => ⟨⟨rfl, c', hQ4, ?_⟩, r7, r8⟩)
        · rw [eD3, eD2] at J
          exact J
        · have hM : M1 ++ M2 = L := h1
          have hnd : L.Nodup := w3.imp (fun {x y} hh z => by rw [z] at hh; omega)
          have s1 : ∀ j ∈ M1, ln ≤ σ 36 j := fun j hj => by
            have := h2 j hj
            rw [e20 j (by rw [← hM]; exact List.mem_append_left _ hj)] at this
            exact this
          have s2 : ∀ j ∈ M2, σ 36 j < ln := fun j hj => by
            cases hM2 : M2 with
            | nil =>
              rw [hM2] at hj
              cases hj
            | cons x M =>
              have hx0 := h3 x (by rw [hM2]; rfl)
              have hxL : x ∈ L := by
                rw [← hM, hM2]
                exact List.mem_append_right _ (List.mem_cons_self ..)
              rw [e20 x hxL] at hx0
              rw [hM2] at hj
              rcases List.mem_cons.mp hj with y | y
              · rw [y]
                exact hx0
              · rw [← hM, hM2] at w3
                have := (List.pairwise_cons.mp (List.pairwise_append.mp w3).2.1).1 j y
                omega
          have s36 : ∀ j ∈ L, ss_u σ 36 (σ 35 0) ln 36 j = σ 36 j := fun j hj => ss_ui _ _ _ _ (fun z => hkL (by rw [← z]; exact hj))
          have pw : (M1 ++ σ 35 0 :: M2).Pairwise (fun x y => ss_u σ 36 (σ 35 0) ln 36 y < ss_u σ 36 (σ 35 0) ln 36 x ∨ (ss_u σ 36 (σ 35 0) ln 36 x = ss_u σ 36 (σ 35 0) ln 36 y ∧ x < y)) := by
            have w3' : L.Pairwise (fun x y => ss_u σ 36 (σ 35 0) ln 36 y < ss_u σ 36 (σ 35 0) ln 36 x ∨ (ss_u σ 36 (σ 35 0) ln 36 x = ss_u σ 36 (σ 35 0) ln 36 y ∧ x < y)) := w3.imp_of_mem (fun {x y} hx hy hh => by
              rw [s36 x hx, s36 y hy]
              exact hh)
            rw [← hM] at w3'
            obtain ⟨p1, p2, p3⟩ := List.pairwise_append.mp w3'
            refine List.pairwise_append.mpr ⟨p1, List.pairwise_cons.mpr ⟨fun y hy => ?_, p2⟩, fun x hx y hy => ?_⟩
            · have hyL : y ∈ L := by rw [← hM]; exact List.mem_append_right _ hy
              rw [ss_us, s36 y hyL]
              exact Or.inl (s2 y hy)
            · rcases List.mem_cons.mp hy with y' | y'
              · have hxL : x ∈ L := by rw [← hM]; exact List.mem_append_left _ hx
                rw [y', ss_us, s36 x hxL]
                have a1 := s1 x hx
                have a2 := ((w2 x).mp hxL).1
                omega
              · exact p3 x hx y y'
          have mem : ∀ j, j ∈ M1 ++ σ 35 0 :: M2 ↔ j < σ 35 0 + 1 ∧ 0 < ss_u σ 38 (σ 35 0) q 38 j := fun j => by
            rw [List.mem_append, List.mem_cons, ss_ue]
            have hj : j ∈ L ↔ j ∈ M1 ∨ j ∈ M2 := by rw [← hM, List.mem_append]
            have hw := w2 j
            by_cases y : j = σ 35 0
            · rw [if_pos y]
              exact ⟨fun _ => ⟨by omega, by omega⟩, fun _ => Or.inr (Or.inl y)⟩
            · rw [if_neg y]
              constructor
              · intro y'
                have : j ∈ L := hj.mpr (y'.imp id (fun z => z.resolve_left y))
                have := hw.mp this
                exact ⟨by omega, this.2⟩
              · intro y'
                have : j ∈ L := hw.mpr ⟨by omega, y'.2⟩
                exact (hj.mp this).imp id Or.inr
          have hlive : ∀ j, cL (cl_ext B 2 (σ 35 0) a) 2 j ↔ j < σ 35 0 + 1 := fun j => by
            rw [xL, hP.b.2.2.2.2.2.2.2.2.2.2.1 j]
            omega
          have hcc : ch (c' 2 3) (c' 3 0 0) (M1 ++ σ 35 0 :: M2) ∧ r16 (cl_ext B 2 (σ 35 0) a) c' ∧ ∃ x y z, c' = cc_u (cc_u c4 2 3 (σ 35 0) x) y.1 y.2 z (σ 35 0 + 1) ∧ (y = (3, 0) ∨ y = (2, 3)) := by
            have h16c : r16 (cl_ext B 2 (σ 35 0) a) c4 := by
              rw [← hc4, ← hc3]
              exact ((((hP.h16.ext 2 (σ 35 0) a).u 2 0 _ _ (Or.inl hk2)).u 2 1 _ _ (Or.inl hk2)).u 2 2 _ _ (Or.inl hk2)).u 3 1 0 _ (Or.inl hu')
            rcases h4 with ⟨y1, y2⟩ | ⟨s, y1, y2, y3, y4⟩
            · refine ⟨?_, ?_, c4 3 0 0, (3, 0), 0, y2, Or.inl rfl⟩
              · rw [y2, y1]
                rw [y1] at hM
                have hM' : M2 = L := hM
                rw [hM']
                show ch (cc_u c4 2 3 (σ 35 0) (c4 3 0 0) 2 3) (σ 35 0 + 1) (σ 35 0 :: L)
                rw [f30]
                exact ch_congr _ _ (fun x _ => (cc_ue c4 2 3 (σ 35 0) (c 3 0 0) x).trans (by rw [f23])) (ch_in0 w1 hkL)
              · rw [y2]
                exact (h16c.u 2 3 _ _ (Or.inl hk2)).u 3 0 0 _ (Or.inl hu')
            · refine ⟨?_, ?_, c4 2 3 s, (2, 3), s, y4, Or.inr rfl⟩
              · rw [y4]
                show ch (cc_u (cc_u c4 2 3 (σ 35 0) (c4 2 3 s)) 2 3 s (σ 35 0 + 1) 2 3) (c4 3 0 0) (M1 ++ σ 35 0 :: M2)
                rw [f30]
                have := (ch_in1 (f := c 2 3) (k := σ 35 0) M1 (c 3 0 0) 0 M2 (by rw [hM]; exact w1) (by rw [hM]; exact hnd) (by rw [hM]; exact hkL) y1 y2).2
                refine ch_congr _ _ (fun x _ => ?_) this
                rw [cc_ue, cc_ue, f23]
              · rw [y4]
                exact (h16c.u 2 3 _ _ (Or.inl hk2)).u 2 3 s _ (Or.inl y3)
          obtain ⟨hch, h16', x, y, z, ec', hy⟩ := hcc
          have h2f : ∀ j, j < σ 35 0 + 1 → c' 2 0 j = ss_u σ 36 (σ 35 0) ln 36 j ∧ c' 2 1 j = ss_u σ 37 (σ 35 0) m 37 j ∧ c' 2 2 j = ss_u σ 38 (σ 35 0) q 38 j := fun j hj => by
            have a0 : c' 2 0 j = cc_u c 2 0 (σ 35 0) ln 2 0 j := by
              rw [ec', ← hc4, ← hc3]
              rcases hy with rfl | rfl <;> rfl
            have a1 : c' 2 1 j = cc_u c 2 1 (σ 35 0) m 2 1 j := by
              rw [ec', ← hc4, ← hc3]
              rcases hy with rfl | rfl <;> rfl
            have a2 : c' 2 2 j = cc_u c 2 2 (σ 35 0) q 2 2 j := by
              rw [ec', ← hc4, ← hc3]
              rcases hy with rfl | rfl <;> rfl
            rw [a0, a1, a2, cc_ue, cc_ue, cc_ue, ss_ue, ss_ue, ss_ue]
            by_cases y' : j = σ 35 0
            · rw [if_pos y', if_pos y', if_pos y', if_pos y', if_pos y', if_pos y']
              exact ⟨rfl, rfl, rfl⟩
            · rw [if_neg y', if_neg y', if_neg y', if_neg y', if_neg y', if_neg y']
              exact h10a j (by omega)
          obtain ⟨hb, p1, p2, p3, p4, p5, p6, p7, p8, p9, -, p11, p12, p13, p14, p15, -⟩ := hP
          have rb' : rb (cl_ext B 2 (σ 35 0) a) (ss_u (ss_u (ss_u (ss_u σ 36 (σ 35 0) ln) 37 (σ 35 0) m) 38 (σ 35 0) q) 35 0 (σ 35 0 + 1)) := by
            obtain ⟨b1, b2, b3, b4, b5, b6, b7, b8, b9, b10, b11, b12⟩ := hb
            have xo : ∀ K i, K ≠ 2 → (cL (cl_ext B 2 (σ 35 0) a) K i ↔ cL B K i) := fun K i hK => ⟨fun q => q.resolve_right (fun r => hK r.1), Or.inl⟩
            exact ⟨Or.inl b1, Or.inl b2, ⟨Or.inl b3.1, Or.inl b3.2.1, Or.inl b3.2.2.1, Or.inl b3.2.2.2⟩, b4, fun k => (xo 1 k (by decide)).trans (b5 k), fun k => (xo 4 k (by decide)).trans (b6 k), fun k => (xo 7 k (by decide)).trans (b7 k), fun k => (xo 8 k (by decide)).trans (b8 k), fun k => (xo 6 k (by decide)).trans (b9 k), fun k => (xo 9 k (by decide)).trans (b10 k), hlive, fun k => (xo 5 k (by decide)).trans (b12 k)⟩
          have p14' : r14 (ss_u (ss_u (ss_u (ss_u σ 36 (σ 35 0) ln) 37 (σ 35 0) m) 38 (σ 35 0) q) 35 0 (σ 35 0 + 1)) := by
            obtain ⟨⟨v1, v2, v3, v4, v5, v6, v7, v8, v9, v10⟩, q2, q3⟩ := p14
            refine ⟨⟨v1, v2, v3, v4, ?_, v6, v7, fun k hk => ?_, v9, v10⟩, q2, q3⟩
            · show σ 35 0 + 1 ≤ 500
              omega
            · show ss_u σ 36 (σ 35 0) ln 36 k < 16
              rw [ss_ue]
              have hk' : k < σ 35 0 + 1 := hk
              split
              · omega
              · exact v8 k (by omega)
          rcases hy with rfl | rfl
          · subst ec' hc4 hc3
            exact ⟨rb', p1, p2, p3, p4, p5, p6, p7, p8, p9, ⟨h2f, rfl, h10c, h10d, M1 ++ σ 35 0 :: M2, hch, mem, pw⟩, p11, p12, p13, p14', p15, h16'⟩
          · subst ec' hc4 hc3
            exact ⟨rb', p1, p2, p3, p4, p5, p6, p7, p8, p9, ⟨h2f, rfl, h10c, h10d, M1 ++ σ 35 0 :: M2, hch, mem, pw⟩, p11, p12, p13, p14', p15, h16'⟩
      refine ⟨_, addI, fun μ4 h r7 r8 => bk_T_interrupt_74 ⟨?_, ?_⟩⟩
      · obtain ⟨c5, hQ6, hP6⟩ := h
        have := hQ6.t0 hx'
        rw [eD0] at this
        exact this
      · have h' := h
        obtain ⟨c5, hQ6, hP6⟩ := h
        have t3 := hQ6.t3 hu'
        rw [eD3] at t3
        have i31 := hQ6.i3_1 hu'
        have e5 : c5 3 1 0 = σ 35 0 + 1 := hP6.h10.2.1
        rw [eD3, e5] at i31
        have r4 := hQ6.r0_4 hx'
        have e4' : c5 0 4 0 = 1 := hP6.h1.1.2.2.2.2.1
        rw [eD0, e4'] at r4
        have r4' : mj_r μ4 (cD B 0 0) 4 = some (cD B 3 0) := by
          rw [r4]
          show some (cD (cl_ext B 2 (σ 35 0) a) 3 0) = _
          rw [eD3]
        refine ⟨_, r4', t3, ?_⟩
        rw [i31]
        exact ⟨⟨_, rfl, rfl, cl_ext B 2 (σ 35 0) a, rfl, eD0, h'⟩, by omega, by omega⟩
  · refine ⟨0, Nat.zero_le _, ?_⟩
    refine mj_of (by decide) rfl (by decide) (Nat.le_of_ble_eq_true rfl) rfl ⟨Nat.le_refl _, Nat.le_refl _⟩ ?_
    unfold an_interrupt
    refine bk_T_interrupt_0 ?_
    rw [l1, l15]
    refine ⟨fun z => ?_, fun z1 => ⟨fun z => ?_, fun z2 => ⟨hQ.t0 hx, _, lc_isToCome hQ hP v, fun y μ1 h r1 r2 => ?_⟩⟩⟩
    · rw [if_neg (by omega)]
      exact ⟨⟨_, rfl, rfl, stay⟩, rfl, rfl⟩
    · rw [if_neg (by omega)]
      exact ⟨⟨_, rfl, rfl, stay⟩, rfl, rfl⟩
    · obtain ⟨rfl, rfl⟩ := h
      by_cases z3 : σ 43 0 ≤ v.toInt ∧ v.toInt ≤ 50000
      · rw [if_pos z3]
        refine bk_T_interrupt_16 ⟨fun z => absurd z (by decide), fun _ => ?_⟩
        rw [w1', w10]
        refine ⟨fun z => ?_, fun z4 => ⟨fun z5 => ⟨hQ.t0 hx, _, eR, hQ.t3 hu, ?_⟩, fun z => ?_⟩⟩
        · rw [if_neg (by omega)]
          exact ⟨⟨_, rfl, rfl, stay⟩, rfl, rfl⟩
        · have z6 : σ 35 0 = 500 := by
            apply Decidable.byContradiction
            intro q
            exact good ⟨⟨by omega, z3, by omega⟩, q⟩
          rw [if_pos (by omega), if_pos z6, hQ.i3_1 hu, e31, show (500 : Int32) = nI 500 from rfl, mj_lt (by omega) (by decide)]
          exact ⟨fun q => absurd q (by omega), fun _ => ⟨⟨_, rfl, rfl, stay⟩, rfl, rfl⟩⟩
        · rw [if_neg (by omega)]
          exact ⟨⟨_, rfl, rfl, stay⟩, rfl, rfl⟩
      · rw [if_neg z3, if_neg (fun q => z3 q.2.1)]
        exact bk_T_interrupt_16 ⟨fun _ => ⟨⟨_, rfl, rfl, stay⟩, rfl, rfl⟩, fun z => absurd rfl z⟩
end TB
