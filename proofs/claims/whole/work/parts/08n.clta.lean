theorem lastw_app (x : Nat) : ∀ (L : List Nat) (w : Nat), lastw (L ++ [x]) w = x + 1 := by
  intro L
  induction L with
  | nil => exact fun w => rfl
  | cons y L ih => exact fun w => ih (y + 1)
section TA
variable {G : mj_G} {B : cl_B} {e t0 t1 : Nat} {σ τ : ss_S} {c : cc_S} {μ μ0 : mj_MM} {Ex : Option Value → mj_MM → Prop} {N S : Nat}
/-- the forms of a chain with one more -/
def insT (c c' : cc_S) (k : Nat) (M1 : List Nat) : Prop := (M1 = [] ∧ c' = cc_u (cc_u c 9 2 k (c 0 7 0)) 0 7 0 (k + 1)) ∨ ∃ s, lastw M1 0 = s + 1 ∧ M1 ≠ [] ∧ cL B 9 s ∧ c' = cc_u (cc_u c 9 2 k (c 9 2 s)) 9 2 s (k + 1)
/-- the place of a new telling: behind those that are not later -/
theorem rl_tellC (hQ : cl_Q B c μ0 μ) (hx : cL B 0 0) (k v : Nat) (hk : cL B 9 k) (hkb : k + 1 < 2 ^ 31) (h91 : c 9 1 k = v) : ∀ (L2 L1 : List Nat) (u w : Nat), ch (c 9 2) u L2 → (∀ j ∈ L2, cL B 9 j) → ((w = 0 ∧ L1 = []) ∨ ∃ s, w = s + 1 ∧ cL B 9 s ∧ lastw L1 0 = s + 1 ∧ L1 ≠ []) → (∀ j ∈ L1, c 9 1 j ≤ v) →
    (∀ M1 M2 c' μ', M1 ++ M2 = L1 ++ L2 → (∀ j ∈ M1, c 9 1 j ≤ v) → (∀ j, M2.head? = some j → v < c 9 1 j) → insT (B := B) c c' k M1 → cl_Q B c' μ0 μ' → mj_nc μ' = mj_nc μ → mj_ns μ' = mj_ns μ → Ex none μ') →
    mj_J G mY_T_addTelling Ex N S 7 [(0, va_rf (some (cD B 0 0))), (1, va_rf (some (cD B 9 k))), (2, va_rf (cl_ref B 9 w)), (3, va_rf (cl_ref B 9 u))] [] μ := by
  have put0 : cl_Q B (cc_u (cc_u c 9 2 k (c 0 7 0)) 0 7 0 (k + 1)) μ0 (mj_pR (mj_pR μ (cD B 9 k) 2 (mj_r μ (cD B 0 0) 7)) (cD B 0 0) 7 (some (cD B 9 k))) := by
    rw [hQ.r0_7 hx]
    exact (hQ.pR 9 2 k (c 0 7 0) hk (by decide) (hQ.b 0 7 0 (by decide)) (hQ.l0_7 hx)).pR 0 7 0 (k + 1) hx (by decide) hkb (Or.inr hk)
  have put1 : ∀ s, cL B 9 s → cl_Q B (cc_u (cc_u c 9 2 k (c 9 2 s)) 9 2 s (k + 1)) μ0 (mj_pR (mj_pR μ (cD B 9 k) 2 (mj_r μ (cD B 9 s) 2)) (cD B 9 s) 2 (some (cD B 9 k))) := fun s hs => by
    rw [hQ.r9_2 hs]
    exact (hQ.pR 9 2 k (c 9 2 s) hk (by decide) (hQ.b 9 2 s (by decide)) (hQ.l9_2 hs)).pR 9 2 s (k + 1) hs (by decide) hkb (Or.inr hk)
  have b91 := hQ.b 9 1 k (by decide)
  intro L2
  induction L2 with
  | nil =>
    intro L1 u w hc hl hw hL1 he
    have hu : u = 0 := hc
    subst hu
    refine bk_T_addTelling_7 ⟨fun _ => ?_, fun b z => (by cases z)⟩
    rcases hw with ⟨rfl, h3⟩ | ⟨s, rfl, h2, h3, h4⟩
    · exact ⟨fun _ => ⟨hQ.t0 hx, _, rfl, hQ.t9 hk, he L1 [] _ _ rfl hL1 (fun j hj => (by cases hj)) (Or.inl ⟨h3, rfl⟩) put0 rfl rfl⟩, fun b z => (by cases z)⟩
    · refine ⟨fun z => (by cases z), fun b z => ?_⟩
      cases z
      exact ⟨hQ.t9 h2, _, rfl, hQ.t9 hk, he L1 [] _ _ rfl hL1 (fun j hj => (by cases hj)) (Or.inr ⟨s, h3, h4, h2, rfl⟩) (put1 s h2) rfl rfl⟩
  | cons x L2 ih =>
    intro L1 u w hc hl hw hL1 he
    obtain ⟨hu, hc⟩ := hc
    subst hu
    have hlx := hl x (List.mem_cons_self ..)
    have bx := hQ.b 9 1 x (by decide)
    refine bk_T_addTelling_7 ⟨fun z => (by cases z), fun b z => ?_⟩
    cases z
    refine ⟨hQ.t9 hlx, _, rfl, hQ.t9 hk, ?_⟩
    rw [hQ.i9_1 hk, hQ.i9_1 hlx, mj_lt (by omega) (by omega), h91]
    refine ⟨fun z => ?_, fun z => ?_⟩
    · have hd : ∀ j, (x :: L2).head? = some j → v < c 9 1 j := fun j hj => by
        cases hj
        exact z
      rcases hw with ⟨rfl, h3⟩ | ⟨s, rfl, h2, h3, h4⟩
      · exact ⟨fun _ => ⟨hQ.t0 hx, he L1 (x :: L2) _ _ rfl hL1 hd (Or.inl ⟨h3, rfl⟩) put0 rfl rfl⟩, fun b y => (by cases y)⟩
      · refine ⟨fun y => (by cases y), fun b y => ?_⟩
        cases y
        exact ⟨hQ.t9 h2, he L1 (x :: L2) _ _ rfl hL1 hd (Or.inr ⟨s, h3, h4, h2, rfl⟩) (put1 s h2) rfl rfl⟩
    · rw [hQ.r9_2 hlx]
      refine ih (L1 ++ [x]) (c 9 2 x) (x + 1) hc (fun j hj => hl j (List.mem_cons_of_mem _ hj)) (Or.inr ⟨x, rfl, hlx, lastw_app x L1 0, by simp⟩) (fun j hj => ?_) (fun M1 M2 c' μ' h1 => he M1 M2 c' μ' (by rw [h1, List.append_assoc]; rfl))
      rcases List.mem_append.mp hj with y | y
      · exact hL1 j y
      · rw [List.mem_singleton.mp y]
        omega
theorem lq_activate (hQ : cl_Q B c μ0 μ) (hP : REP B 0 0 0 σ c) (v : Int32) (w : Int64) : ∃ n, n ≤ 1 ∧ mj_M G my_T_activate mY_T_activate [va_rf (some (cD B 0 0)), .int v, .long w] (mj_nc μ + n) (mj_ns μ + 3 * n) μ (mj_XI (fun x μ' => x = (an_activate σ v.toInt w.toInt).1 ∧ ∃ B', cZ B' = cZ B ∧ cD B' 0 0 = cD B 0 0 ∧ CR B' 0 0 0 (an_activate σ v.toInt w.toInt).2 μ0 μ')) := by
  have hx := hP.x
  have hV := hP.v
  have h32 := hV.2.2.2.1
  have hnow : σ 43 0 ≤ 50000 := hV.2.2.2.2.2.2.2.2.2
  have hT := hV.1
  have e8 : c 0 8 0 = σ 32 0 := hP.h1.2.1.1
  by_cases good : (1 ≤ v.toInt ∧ v.toInt ≤ σ 1 0) ∧ (σ 43 0 ≤ w.toInt ∧ w.toInt ≤ 50000) ∧ σ 32 0 ≠ 500
  · obtain ⟨g1, g2, g3⟩ := good
    refine ⟨1, Nat.le_refl _, ?_⟩
    have ean : an_activate σ v.toInt w.toInt = (1, ss_u (ss_u (ss_u σ 33 (σ 32 0) v.toInt.toNat) 34 (σ 32 0) w.toInt.toNat) 32 0 (σ 32 0 + 1)) := by
      unfold an_activate
      rw [if_pos g1, if_pos g2, if_neg g3]
    rw [ean]
    have ht : 1 ≤ v.toInt.toNat ∧ v.toInt.toNat ≤ σ 1 0 := by omega
    have hkt := hP.k ht
    refine mj_of (by decide) rfl (by decide) (Nat.le_of_ble_eq_true rfl) rfl ⟨Nat.le_add_right _ _, Nat.le_add_right _ _⟩ ?_
    refine bk_T_activate_0 ⟨hQ.t0 hx, _, lc_taskOf hQ hP v, fun y μ1 h r1 r2 => ?_⟩
    obtain ⟨hy, rfl⟩ := h
    rw [if_pos g1] at hy
    rw [hy]
    refine bk_T_activate_5 ⟨fun q => (by cases q), fun b q => ⟨hQ.t0 hx, _, lc_isToCome hQ hP w, fun y μ2 h r3 r4 => ?_⟩⟩
    cases q
    obtain ⟨rfl, rfl⟩ := h
    rw [if_pos g2]
    refine bk_T_activate_19 ⟨fun _ => ⟨hQ.t0 hx, ?_⟩, fun q => absurd q (by decide)⟩
    rw [hQ.i0_8 hx, e8, show (500 : Int32) = nI 500 from rfl, mj_lt (by omega) (by decide)]
    refine ⟨fun _ => ⟨⟨Nat.le_refl _, Nat.le_refl _⟩, fun a ha => ?_⟩, fun q => absurd (by omega) q⟩
    obtain ⟨m, m1, rfl, m3⟩ := mj_LL (v := w) (by omega)
    rw [nI_1, lN_i, m3, Int.toNat_natCast]
    have hd9 : ¬ cL B 9 (σ 32 0) := fun z => by
      have := (hP.b.2.2.2.2.2.2.2.2.2.1 _).mp z
      omega
    have hQ1 := hQ.pI 0 8 0 (σ 32 0 + 1) hx (by decide) (by omega)
    have z9 : ∀ p, cc_u c 0 8 0 (σ 32 0 + 1) 9 p (σ 32 0) = 0 := fun p => by
      rw [cc_uk _ _ _ _ _ _ (by decide)]
      exact hP.h16 9 p _ (by decide) hd9
    have hQ2 := hQ1.new 9 (σ 32 0) a 3 (by decide) hd9 ha z9
    have hk9 : cL (cl_ext B 9 (σ 32 0) a) 9 (σ 32 0) := Or.inr ⟨rfl, rfl⟩
    have hx' : cL (cl_ext B 9 (σ 32 0) a) 0 0 := Or.inl hx
    have hkt' : cL (cl_ext B 9 (σ 32 0) a) 8 v.toInt.toNat := Or.inl hkt
    have eD9 : cD (cl_ext B 9 (σ 32 0) a) 9 (σ 32 0) = a := xD B 9 (σ 32 0) a
    have eD0 : cD (cl_ext B 9 (σ 32 0) a) 0 0 = cD B 0 0 := xDl hd9 hx
    have eD8 : cD (cl_ext B 9 (σ 32 0) a) 8 v.toInt.toNat = cD B 8 v.toInt.toNat := xDl hd9 hkt
    have hQ3 := (hQ2.pR 9 0 (σ 32 0) (v.toInt.toNat + 1) hk9 (by decide) (by omega) (Or.inr hkt')).pI 9 1 (σ 32 0) m hk9 (by decide) (by omega)
    have init : mj_M G my_E_init mY_E_init [va_rf (some a), va_rf (some (cD B 8 v.toInt.toNat)), .int (nI m)] (mj_nc μ2 + 1) (mj_ns μ2 + 3) (mj_new (mj_pI μ2 (cD B 0 0) 8 (nI (σ 32 0 + 1))) a 10 0 3) (mj_XV (fun μ' => cl_Q (cl_ext B 9 (σ 32 0) a) (cc_u (cc_u (cc_u c 0 8 0 (σ 32 0 + 1)) 9 0 (σ 32 0) (v.toInt.toNat + 1)) 9 1 (σ 32 0) m) μ0 μ')) := by
      refine mj_of (by decide) rfl (by decide) (Nat.le_of_ble_eq_true rfl) rfl ⟨Nat.le_refl _, Nat.le_refl _⟩ ?_
      have t9 := hQ2.t9 hk9
      rw [eD9] at t9
      have hQ3' := hQ3
      rw [eD9] at hQ3'
      have er : cl_ref (cl_ext B 9 (σ 32 0) a) (cl_tk 9 0) (v.toInt.toNat + 1) = some (cD B 8 v.toInt.toNat) := by
        show some (cD (cl_ext B 9 (σ 32 0) a) 8 v.toInt.toNat) = _
        rw [eD8]
      rw [er] at hQ3'
      exact bk_E_init_0 ⟨t9, ⟨rfl, hQ3'⟩, rfl, rfl⟩
    refine ⟨_, init, fun μ3 h r5 r6 => bk_T_activate_60 ⟨?_, ?_⟩⟩
    · have := h.t0 hx'
      rw [eD0] at this
      exact this
    · -- the chain
      obtain ⟨h11a, L, w1, w2, w3⟩ := hP.h11
      generalize hc3 : cc_u (cc_u (cc_u c 0 8 0 (σ 32 0 + 1)) 9 0 (σ 32 0) (v.toInt.toNat + 1)) 9 1 (σ 32 0) m = c3 at h
      have hkL : σ 32 0 ∉ L := fun z => by
        have := ((w2 _).mp z).1
        omega
      have f92 : c3 9 2 = c 9 2 := by
        rw [← hc3]
        rfl
      have f07 : c3 0 7 0 = c 0 7 0 := by
        rw [← hc3]
        rfl
      have f91 : ∀ j, j ≠ σ 32 0 → c3 9 1 j = c 9 1 j := fun j hj => by
        rw [← hc3, cc_ui _ _ _ _ hj]
        rfl
      have f91k : c3 9 1 (σ 32 0) = m := by
        rw [← hc3]
        exact cc_us _ _ _ _ _
      have e91 : ∀ j ∈ L, c3 9 1 j = σ 34 j := fun j hj => by
        rw [f91 j (fun z => hkL (by rw [← z]; exact hj))]
        exact (h11a j ((w2 j).mp hj).1).2.1
      have hL9 : ∀ j ∈ L, cL (cl_ext B 9 (σ 32 0) a) 9 j := fun j hj => Or.inl (hP.te ((w2 j).mp hj).1)
      have addT : mj_M G my_T_addTelling mY_T_addTelling [va_rf (some (cD B 0 0)), va_rf (some a)] (mj_nc μ3) (mj_ns μ3) μ3 (mj_XV (fun μ' => CR (cl_ext B 9 (σ 32 0) a) 0 0 0 (ss_u (ss_u (ss_u σ 33 (σ 32 0) v.toInt.toNat) 34 (σ 32 0) m) 32 0 (σ 32 0 + 1)) μ0 μ')) := by
        refine mj_of (by decide) rfl (by decide) (Nat.le_of_ble_eq_true rfl) rfl ⟨Nat.le_refl _, Nat.le_refl _⟩ ?_
        have h0 := h.t0 hx'
        rw [eD0] at h0
        have h7 := h.r0_7 hx'
        rw [eD0, f07] at h7
        refine bk_T_addTelling_0 ⟨h0, ?_⟩
        rw [h7]
        have J := rl_tellC (G := G) (N := mj_nc μ3) (S := mj_ns μ3) (Ex := fun v' μ' => mj_XV (fun μ' => CR (cl_ext B 9 (σ 32 0) a) 0 0 0 (ss_u (ss_u (ss_u σ 33 (σ 32 0) v.toInt.toNat) 34 (σ 32 0) m) 32 0 (σ 32 0 + 1)) μ0 μ') v' μ' ∧ mj_nc μ' = mj_nc μ3 ∧ mj_ns μ' = mj_ns μ3) h hx' (σ 32 0) m hk9 (by omega) f91k L [] (c 0 7 0) 0 (by rw [f92]; exact w1) hL9 (Or.inl ⟨rfl, rfl⟩) (fun j hj => (by cases hj)) (fun M1 M2 c' μ' h1 h2 h3 h4 hQ4 r7 r8 => ⟨⟨rfl, c', hQ4, ?_⟩, r7, r8⟩)
        · rw [eD0, eD9] at J
          exact J
        · have hM : M1 ++ M2 = L := h1
          have hnd : L.Nodup := w3.imp (fun {x y} hh z => by rw [z] at hh; omega)
          have s1 : ∀ j ∈ M1, σ 34 j ≤ m := fun j hj => by
            have := h2 j hj
            rw [e91 j (by rw [← hM]; exact List.mem_append_left _ hj)] at this
            exact this
          have s2 : ∀ j ∈ M2, m < σ 34 j := fun j hj => by
            cases hM2 : M2 with
            | nil =>
              rw [hM2] at hj
              cases hj
            | cons x M =>
              have hx0 := h3 x (by rw [hM2]; rfl)
              have hxL : x ∈ L := by
                rw [← hM, hM2]
                exact List.mem_append_right _ (List.mem_cons_self ..)
              rw [e91 x hxL] at hx0
              rw [hM2] at hj
              rcases List.mem_cons.mp hj with q | q
              · rw [q]
                exact hx0
              · rw [← hM, hM2] at w3
                have := (List.pairwise_cons.mp (List.pairwise_append.mp w3).2.1).1 j q
                omega
          have s34 : ∀ j ∈ L, ss_u σ 34 (σ 32 0) m 34 j = σ 34 j := fun j hj => ss_ui _ _ _ _ (fun z => hkL (by rw [← z]; exact hj))
          have pw : (M1 ++ σ 32 0 :: M2).Pairwise (fun x y => ss_u σ 34 (σ 32 0) m 34 x < ss_u σ 34 (σ 32 0) m 34 y ∨ (ss_u σ 34 (σ 32 0) m 34 x = ss_u σ 34 (σ 32 0) m 34 y ∧ x < y)) := by
            have w3' : L.Pairwise (fun x y => ss_u σ 34 (σ 32 0) m 34 x < ss_u σ 34 (σ 32 0) m 34 y ∨ (ss_u σ 34 (σ 32 0) m 34 x = ss_u σ 34 (σ 32 0) m 34 y ∧ x < y)) := w3.imp_of_mem (fun {x y} hx hy hh => by
              rw [s34 x hx, s34 y hy]
              exact hh)
            rw [← hM] at w3'
            obtain ⟨p1, p2, p3⟩ := List.pairwise_append.mp w3'
            refine List.pairwise_append.mpr ⟨p1, List.pairwise_cons.mpr ⟨fun y hy => ?_, p2⟩, fun x hx y hy => ?_⟩
            · have hyL : y ∈ L := by rw [← hM]; exact List.mem_append_right _ hy
              rw [ss_us, s34 y hyL]
              exact Or.inl (s2 y hy)
            · rcases List.mem_cons.mp hy with q | q
              · have hxL : x ∈ L := by rw [← hM]; exact List.mem_append_left _ hx
                rw [q, ss_us, s34 x hxL]
                have a1 := s1 x hx
                have a2 := ((w2 x).mp hxL).1
                omega
              · exact p3 x hx y q
          have mem : ∀ j, j ∈ M1 ++ σ 32 0 :: M2 ↔ j < σ 32 0 + 1 ∧ (σ 43 0 < ss_u σ 34 (σ 32 0) m 34 j ∨ (ss_u σ 34 (σ 32 0) m 34 j = σ 43 0 ∧ 0 ≤ j)) := fun j => by
            rw [List.mem_append, List.mem_cons, ss_ue]
            have hj : j ∈ L ↔ j ∈ M1 ∨ j ∈ M2 := by rw [← hM, List.mem_append]
            have hw := w2 j
            by_cases q : j = σ 32 0
            · rw [if_pos q]
              exact ⟨fun _ => ⟨by omega, by omega⟩, fun _ => Or.inr (Or.inl q)⟩
            · rw [if_neg q]
              constructor
              · intro y
                have : j ∈ L := hj.mpr (y.imp id (fun z => z.resolve_left q))
                have := hw.mp this
                exact ⟨by omega, this.2⟩
              · intro y
                have : j ∈ L := hw.mpr ⟨by omega, y.2⟩
                exact (hj.mp this).imp id Or.inr
          have hlive : ∀ j, cL (cl_ext B 9 (σ 32 0) a) 9 j ↔ j < σ 32 0 + 1 := fun j => by
            rw [xL, hP.b.2.2.2.2.2.2.2.2.2.1 j]
            omega
          have hcc : ch (c' 9 2) (c' 0 7 0) (M1 ++ σ 32 0 :: M2) ∧ r16 (cl_ext B 9 (σ 32 0) a) c' ∧ ∃ x y z, c' = cc_u (cc_u c3 9 2 (σ 32 0) x) y.1 y.2 z (σ 32 0 + 1) ∧ (y = (0, 7) ∨ y = (9, 2)) := by
            have h16c : r16 (cl_ext B 9 (σ 32 0) a) c3 := by
              rw [← hc3]
              exact (((hP.h16.ext 9 (σ 32 0) a).u 0 8 0 _ (Or.inl hx')).u 9 0 _ _ (Or.inl hk9)).u 9 1 _ _ (Or.inl hk9)
            rcases h4 with ⟨q1, q2⟩ | ⟨s, q1, q2, q3, q4⟩
            · refine ⟨?_, ?_, c3 0 7 0, (0, 7), 0, q2, Or.inl rfl⟩
              · rw [q2, q1]
                rw [q1] at hM
                have hM' : M2 = L := hM
                rw [hM']
                show ch (cc_u c3 9 2 (σ 32 0) (c3 0 7 0) 9 2) (σ 32 0 + 1) (σ 32 0 :: L)
                rw [f07]
                exact ch_congr _ _ (fun x _ => (cc_ue c3 9 2 (σ 32 0) (c 0 7 0) x).trans (by rw [f92])) (ch_in0 w1 hkL)
              · rw [q2]
                exact (h16c.u 9 2 _ _ (Or.inl hk9)).u 0 7 0 _ (Or.inl hx')
            · refine ⟨?_, ?_, c3 9 2 s, (9, 2), s, q4, Or.inr rfl⟩
              · rw [q4]
                show ch (cc_u (cc_u c3 9 2 (σ 32 0) (c3 9 2 s)) 9 2 s (σ 32 0 + 1) 9 2) (c3 0 7 0) (M1 ++ σ 32 0 :: M2)
                rw [f07]
                have := (ch_in1 (f := c 9 2) (k := σ 32 0) M1 (c 0 7 0) 0 M2 (by rw [hM]; exact w1) (by rw [hM]; exact hnd) (by rw [hM]; exact hkL) q1 q2).2
                refine ch_congr _ _ (fun x _ => ?_) this
                rw [cc_ue, cc_ue, f92]
              · rw [q4]
                exact (h16c.u 9 2 _ _ (Or.inl hk9)).u 9 2 s _ (Or.inl q3)
          obtain ⟨hch, h16', x, y, z, ec', hy⟩ := hcc
          have key : REP (cl_ext B 9 (σ 32 0) a) 0 0 0 (ss_u (ss_u (ss_u σ 33 (σ 32 0) v.toInt.toNat) 34 (σ 32 0) m) 32 0 (σ 32 0 + 1)) c' := by
            have h91f : ∀ j, j < σ 32 0 + 1 → c' 9 0 j = ss_u σ 33 (σ 32 0) v.toInt.toNat 33 j + 1 ∧ c' 9 1 j = ss_u σ 34 (σ 32 0) m 34 j ∧ (1 ≤ ss_u σ 33 (σ 32 0) v.toInt.toNat 33 j ∧ ss_u σ 33 (σ 32 0) v.toInt.toNat 33 j ≤ σ 1 0) := fun j hj => by
              have a0 : c' 9 0 j = cc_u c 9 0 (σ 32 0) (v.toInt.toNat + 1) 9 0 j := by
                rw [ec', ← hc3]
                rcases hy with rfl | rfl <;> rfl
              have a1 : c' 9 1 j = cc_u c 9 1 (σ 32 0) m 9 1 j := by
                rw [ec', ← hc3]
                rcases hy with rfl | rfl <;> rfl
              rw [a0, a1, cc_ue, cc_ue, ss_ue, ss_ue]
              by_cases q : j = σ 32 0
              · rw [if_pos q, if_pos q, if_pos q, if_pos q]
                exact ⟨rfl, rfl, ht⟩
              · rw [if_neg q, if_neg q, if_neg q, if_neg q]
                exact h11a j (by omega)
            obtain ⟨hb, p1, p2, p3, p4, p5, p6, p7, p8, p9, p10, -, p12, p13, p14, p15, -⟩ := hP
            have rb' : rb (cl_ext B 9 (σ 32 0) a) (ss_u (ss_u (ss_u σ 33 (σ 32 0) v.toInt.toNat) 34 (σ 32 0) m) 32 0 (σ 32 0 + 1)) := by
              obtain ⟨b1, b2, b3, b4, b5, b6, b7, b8, b9, b10, b11, b12⟩ := hb
              have xo : ∀ K i, K ≠ 9 → (cL (cl_ext B 9 (σ 32 0) a) K i ↔ cL B K i) := fun K i hK => ⟨fun q => q.resolve_right (fun r => hK r.1), Or.inl⟩
              exact ⟨Or.inl b1, Or.inl b2, ⟨Or.inl b3.1, Or.inl b3.2.1, Or.inl b3.2.2.1, Or.inl b3.2.2.2⟩, b4, fun k => (xo 1 k (by decide)).trans (b5 k), fun k => (xo 4 k (by decide)).trans (b6 k), fun k => (xo 7 k (by decide)).trans (b7 k), fun k => (xo 8 k (by decide)).trans (b8 k), fun k => (xo 6 k (by decide)).trans (b9 k), hlive, fun k => (xo 2 k (by decide)).trans (b11 k), fun k => (xo 5 k (by decide)).trans (b12 k)⟩
            have p14' : r14 (ss_u (ss_u (ss_u σ 33 (σ 32 0) v.toInt.toNat) 34 (σ 32 0) m) 32 0 (σ 32 0 + 1)) := by
              obtain ⟨⟨v1, v2, v3, v4, v5, v6, v7, v8, v9, v10⟩, q2, q3⟩ := p14
              refine ⟨⟨v1, v2, v3, ?_, v5, v6, fun k hk => ?_, v8, v9, v10⟩, q2, q3⟩
              · show σ 32 0 + 1 ≤ 500
                omega
              · show ss_u σ 33 (σ 32 0) v.toInt.toNat 33 k < 101
                rw [ss_ue]
                have hk' : k < σ 32 0 + 1 := hk
                split
                · omega
                · exact v7 k (by omega)
            have p11' : r11 0 (ss_u (ss_u (ss_u σ 33 (σ 32 0) v.toInt.toNat) 34 (σ 32 0) m) 32 0 (σ 32 0 + 1)) c' := ⟨h91f, M1 ++ σ 32 0 :: M2, hch, mem, pw⟩
            rcases hy with rfl | rfl
            · subst ec' hc3
              exact ⟨rb', ⟨p1.1, ⟨rfl, p1.2.1.2⟩, p1.2.2⟩, p2, p3, p4, p5, p6, p7, p8, p9, p10, p11', p12, p13, p14', p15, h16'⟩
            · subst ec' hc3
              exact ⟨rb', ⟨p1.1, ⟨rfl, p1.2.1.2⟩, p1.2.2⟩, p2, p3, p4, p5, p6, p7, p8, p9, p10, p11', p12, p13, p14', p15, h16'⟩
          exact key
      refine ⟨_, addT, fun μ4 h r7 r8 => bk_T_activate_63 ⟨⟨_, rfl, rfl, cl_ext B 9 (σ 32 0) a, rfl, eD0, h⟩, ?_, ?_⟩⟩
      · omega
      · omega
  · refine ⟨0, Nat.zero_le _, ?_⟩
    refine mj_of (by decide) rfl (by decide) (Nat.le_of_ble_eq_true rfl) rfl ⟨Nat.le_refl _, Nat.le_refl _⟩ ?_
    unfold an_activate
    have stay : ∃ B', cZ B' = cZ B ∧ cD B' 0 0 = cD B 0 0 ∧ CR B' 0 0 0 σ μ0 μ := ⟨B, rfl, rfl, c, hQ, hP⟩
    refine bk_T_activate_0 ⟨hQ.t0 hx, _, lc_taskOf hQ hP v, fun y μ1 h r1 r2 => ?_⟩
    obtain ⟨hy, rfl⟩ := h
    by_cases z : 1 ≤ v.toInt ∧ v.toInt ≤ σ 1 0
    · rw [if_pos z] at hy ⊢
      rw [hy]
      refine bk_T_activate_5 ⟨fun q => (by cases q), fun b q => ⟨hQ.t0 hx, _, lc_isToCome hQ hP w, fun y μ2 h r3 r4 => ?_⟩⟩
      obtain ⟨rfl, rfl⟩ := h
      by_cases z2 : σ 43 0 ≤ w.toInt ∧ w.toInt ≤ 50000
      · rw [if_pos z2, if_pos z2]
        have z3 : σ 32 0 = 500 := by
          apply Decidable.byContradiction
          intro q
          exact good ⟨z, z2, q⟩
        rw [if_pos z3]
        refine bk_T_activate_19 ⟨fun _ => ⟨hQ.t0 hx, ?_⟩, fun q => absurd q (by decide)⟩
        rw [hQ.i0_8 hx, e8, show (500 : Int32) = nI 500 from rfl, mj_lt (by omega) (by decide)]
        exact ⟨fun q => absurd q (by omega), fun _ => ⟨⟨_, rfl, rfl, stay⟩, rfl, rfl⟩⟩
      · rw [if_neg z2, if_neg z2]
        exact bk_T_activate_19 ⟨fun q => absurd rfl q, fun _ => ⟨⟨_, rfl, rfl, stay⟩, rfl, rfl⟩⟩
    · rw [if_neg z] at hy ⊢
      rw [hy]
      exact bk_T_activate_5 ⟨fun _ => ⟨⟨_, rfl, rfl, stay⟩, rfl, rfl⟩, fun b q => (by cases q)⟩
end TA
