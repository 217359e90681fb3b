section TD
variable {G : mj_G} {B : cl_B} {e t0 t1 : Nat} {σ τ : ss_S} {c : cc_S} {μ μ0 : mj_MM} {Ex : Option Value → mj_MM → Prop} {N S : Nat}
theorem REP.addP (hP : REP B 0 0 0 σ c) (h0 : ∀ t, σ 11 t = 0) (a t n m l R X : Nat) (ht : 1 ≤ t ∧ t ≤ σ 1 0) (hg : an_good n m) (h7 : σ 7 0 < 500) (hl : lastw (pld (σ 8) t (σ 7 0) 0) (1000 + t + 1) = l + 1)
    (hX : (n = 6 ∧ R = m ∧ X = if c 7 0 m < σ 2 t then σ 2 t else c 7 0 m) ∨ (n ≠ 6 ∧ R = 0 ∧ X = c 7 0 0)) :
    REP (cl_ext B 6 (σ 7 0) a) 0 0 0 (an_add σ t n m) (cc_u (cc_u (cc_u (cc_u (cc_u c 0 10 0 (σ 7 0 + 1)) 7 0 R X) 6 0 (σ 7 0) n) 6 1 (σ 7 0) m) 6 2 l (σ 7 0 + 1)) := by
  have hd6 : ¬ cL B 6 (σ 7 0) := fun z => by
    have := (hP.b.2.2.2.2.2.2.2.2.1 _).mp z
    omega
  have hx := hP.x
  obtain ⟨gg1, gg2, gg3, gg4, gg5, gg6⟩ := an_gd hg
  have hR : cL B 7 R := hP.re (by
    rcases hX with z | z
    · have := gg4 (Or.inl z.1)
      omega
    · omega)
  have hz62 : c 6 2 (σ 7 0) = 0 := hP.h16 6 2 _ (by decide) hd6
  have hh6 := hP.h6
  have hh15 := hP.h15
  have hkp : ∀ j, j < σ 7 0 → cL B 6 j := fun j hj => hP.p hj
  have hks : ∀ t, 1 ≤ t ∧ t ≤ σ 1 0 → cL B 6 (1000 + t) := fun t ht => hP.ps ht
  obtain ⟨hb, p1, p2, p3, p4, p5, p6, ⟨p7a, p7b, p7c⟩, p8, ⟨p9a, p9b, p9c, p9d⟩, p10, p11, p12, p13, p14, p15, p16⟩ := hP
  have hchain : ch (c 6 2) (nx (σ 8) (σ 7 0) t 0) (pld (σ 8) t (σ 7 0) 0) := by
    have := pld_ch (p := σ 8) (f := c 6 2) (n := σ 7 0) (t := t) (fun j hj hp => by
      have := (hh6.1 j hj).2.2.1
      rw [hp] at this
      exact this) (σ 7 0) 0 (by omega)
    exact this
  have hnd : (pld (σ 8) t (σ 7 0) 0).Nodup := (pld_sorted (σ 8) t (σ 7 0) 0).imp (fun {x y} h z => by omega)
  have hmemL : ∀ j, j ∈ pld (σ 8) t (σ 7 0) 0 ↔ j < σ 7 0 ∧ σ 8 j = t := fun j => by
    rw [pld_mem]
    omega
  have p8' : ∀ j, j < σ 7 0 → ss_u σ 8 (σ 7 0) t 8 j = σ 8 j := fun j hj => ss_ui _ _ _ _ (by omega)
  have p8n : ss_u σ 8 (σ 7 0) t 8 (σ 7 0) = t := ss_us _ _ _ _
  have hla : (pld (σ 8) t (σ 7 0) 0 = [] ∧ l = 1000 + t) ∨ (l ∈ pld (σ 8) t (σ 7 0) 0) := by
    cases hL : pld (σ 8) t (σ 7 0) 0 with
    | nil =>
      rw [hL] at hl
      have : 1000 + t + 1 = l + 1 := hl
      exact Or.inl ⟨rfl, by omega⟩
    | cons x L =>
      right
      rw [hL] at hl
      have key : ∀ (M : List Nat) (w : Nat), M ≠ [] → ∃ s, s ∈ M ∧ lastw M w = s + 1 := by
        intro M
        induction M with
        | nil => exact fun w h => absurd rfl h
        | cons a M ihM =>
          intro w _
          cases M with
          | nil => exact ⟨a, List.mem_cons_self .., rfl⟩
          | cons b M =>
            obtain ⟨s, h1, h2⟩ := ihM (a + 1) (by simp)
            exact ⟨s, List.mem_cons_of_mem _ h1, h2⟩
      obtain ⟨s, h1, h2⟩ := key (x :: L) (1000 + t + 1) (by simp)
      rw [h2] at hl
      have : s = l := by omega
      rw [← this]
      exact h1
  have hlive : cL B 6 l := by
    rcases hla with z | z
    · rw [z.2]
      exact hks t ht
    · exact hkp l ((hmemL l).mp z).1
  have hlK : l ≠ σ 7 0 := by
    rcases hla with z | z
    · omega
    · have := ((hmemL l).mp z).1
      omega
  have hk6 : cL (cl_ext B 6 (σ 7 0) a) 6 (σ 7 0) := Or.inr ⟨rfl, rfl⟩
  have e62 : ∀ j, cc_u (cc_u (cc_u (cc_u (cc_u c 0 10 0 (σ 7 0 + 1)) 7 0 R X) 6 0 (σ 7 0) n) 6 1 (σ 7 0) m) 6 2 l (σ 7 0 + 1) 6 2 j = if j = l then σ 7 0 + 1 else c 6 2 j := fun j => by
    rw [cc_ue]
    rfl
  have e60 : ∀ j, cc_u (cc_u (cc_u (cc_u (cc_u c 0 10 0 (σ 7 0 + 1)) 7 0 R X) 6 0 (σ 7 0) n) 6 1 (σ 7 0) m) 6 2 l (σ 7 0 + 1) 6 0 j = if j = σ 7 0 then n else c 6 0 j := fun j => by
    show cc_u _ 6 0 (σ 7 0) n 6 0 j = _
    rw [cc_ue]
    rfl
  have e61 : ∀ j, cc_u (cc_u (cc_u (cc_u (cc_u c 0 10 0 (σ 7 0 + 1)) 7 0 R X) 6 0 (σ 7 0) n) 6 1 (σ 7 0) m) 6 2 l (σ 7 0 + 1) 6 1 j = if j = σ 7 0 then m else c 6 1 j := fun j => by
    show cc_u _ 6 1 (σ 7 0) m 6 1 j = _
    rw [cc_ue]
    rfl
  have e70 : ∀ j, cc_u (cc_u (cc_u (cc_u (cc_u c 0 10 0 (σ 7 0 + 1)) 7 0 R X) 6 0 (σ 7 0) n) 6 1 (σ 7 0) m) 6 2 l (σ 7 0 + 1) 7 0 j = if j = R then X else c 7 0 j := fun j => by
    show cc_u _ 7 0 R X 7 0 j = _
    rw [cc_ue]
    rfl
  have nx1 : ∀ j, j < σ 7 0 → nx (ss_u σ 8 (σ 7 0) t 8) (σ 7 0 + 1) (σ 8 j) (j + 1) = if j = l then σ 7 0 + 1 else c 6 2 j := fun j hj => by
    rw [nx_add (p := σ 8) (σ 8 j) (j + 1) p8' p8n (by omega), ← (hh6.1 j hj).2.2.1]
    by_cases z : σ 8 j = t
    · have hjL := (hmemL j).mpr ⟨hj, z⟩
      have := ch_last _ _ (1000 + t + 1) j hchain hnd hjL
      rw [hl] at this
      by_cases y : c 6 2 j = 0
      · have := this.mp y
        rw [if_neg (fun w => w y), if_pos z, if_pos (by omega)]
      · have hne : j ≠ l := fun w => y (this.mpr (by omega))
        rw [if_pos y, if_neg hne]
    · have hne : j ≠ l := fun w => by
        rcases hla with u | u
        · omega
        · rw [← w] at u
          exact z ((hmemL j).mp u).2
      rw [if_neg hne]
      by_cases y : c 6 2 j = 0
      · rw [if_neg (fun w => w y), if_neg z, y]
      · rw [if_pos y]
  have nx0 : ∀ t', 1 ≤ t' ∧ t' ≤ σ 1 0 → nx (ss_u σ 8 (σ 7 0) t 8) (σ 7 0 + 1) t' 0 = if 1000 + t' = l then σ 7 0 + 1 else c 6 2 (1000 + t') := fun t' ht' => by
    rw [nx_add (p := σ 8) t' 0 p8' p8n (Nat.zero_le _), ← (hh6.2 t' ht').2.2]
    by_cases z : t' = t
    · by_cases y : c 6 2 (1000 + t') = 0
      · have hnil : pld (σ 8) t (σ 7 0) 0 = [] := by
          have h1 := (hh6.2 t ht).2.2
          rw [z] at y
          rw [y] at h1
          rw [← h1] at hchain
          cases hL : pld (σ 8) t (σ 7 0) 0 with
          | nil => rfl
          | cons x L =>
            rw [hL] at hchain
            exact absurd hchain.1 (by omega)
        rcases hla with u | u
        · rw [if_neg (fun w => w y), if_pos z, if_pos (by omega)]
        · rw [hnil] at u
          cases u
      · have hne : 1000 + t' ≠ l := fun w => by
          rcases hla with u | u
          · apply y
            have h1 := (hh6.2 t ht).2.2
            rw [u.1] at hchain
            have h2 : nx (σ 8) (σ 7 0) t 0 = 0 := hchain
            rw [z, h1, h2]
          · have := ((hmemL l).mp u).1
            omega
        rw [if_pos y, if_neg hne]
    · have hne : 1000 + t' ≠ l := fun w => by
        rcases hla with u | u
        · omega
        · have := ((hmemL l).mp u).1
          omega
      rw [if_neg hne]
      by_cases y : c 6 2 (1000 + t') = 0
      · rw [if_neg (fun w => w y), if_neg z, y]
      · rw [if_pos y]
  have rb' : rb (cl_ext B 6 (σ 7 0) a) (an_add σ t n m) := by
    obtain ⟨b1, b2, b3, b4, b5, b6, b7, b8, b9, b10, b11, b12⟩ := hb
    have xo : ∀ K i, K ≠ 6 → (cL (cl_ext B 6 (σ 7 0) a) K i ↔ cL B K i) := fun K i hK => ⟨fun q => q.resolve_right (fun r => hK r.1), Or.inl⟩
    refine ⟨Or.inl b1, Or.inl b2, ⟨Or.inl b3.1, Or.inl b3.2.1, Or.inl b3.2.2.1, Or.inl b3.2.2.2⟩, b4, fun k => (xo 1 k (by decide)).trans (b5 k), fun k => (xo 4 k (by decide)).trans (b6 k), fun k => (xo 7 k (by decide)).trans (b7 k), fun k => (xo 8 k (by decide)).trans (b8 k), fun k => ?_, fun k => (xo 9 k (by decide)).trans (b10 k), fun k => (xo 2 k (by decide)).trans (b11 k), fun k => (xo 5 k (by decide)).trans (b12 k)⟩
    show _ ↔ k < σ 7 0 + 1 ∨ (1001 ≤ k ∧ k ≤ 1000 + σ 1 0)
    rw [xL, b9 k]
    omega
  refine ⟨rb', ⟨p1.1, ⟨p1.2.1.1, p1.2.1.2.1, rfl, p1.2.1.2.2.2⟩, p1.2.2⟩, p2, p3, p4, p5, ⟨fun j hj => ?_, fun t' ht' => ?_⟩, ⟨fun t' _ _ hs => absurd (h0 t') hs, p7b, fun t' _ hs => absurd (h0 t') hs⟩, p8, ⟨p9a, p9b, p9c, fun t' ht' hs => absurd (h0 t') (p9d t' ht' hs).2.1⟩, p10, p11, p12, p13, ?_, fun r g1 g2 => ?_, ?_⟩
  · have hj' : j < σ 7 0 + 1 := hj
    rw [e60, e61, e62]
    show (if j = σ 7 0 then n else c 6 0 j) = ss_u σ 9 (σ 7 0) n 9 j ∧ (if j = σ 7 0 then m else c 6 1 j) = ss_u σ 10 (σ 7 0) m 10 j ∧ (if j = l then σ 7 0 + 1 else c 6 2 j) = nx (ss_u σ 8 (σ 7 0) t 8) (σ 7 0 + 1) (ss_u σ 8 (σ 7 0) t 8 j) (j + 1) ∧ 1 ≤ ss_u σ 8 (σ 7 0) t 8 j ∧ ss_u σ 8 (σ 7 0) t 8 j ≤ σ 1 0 ∧ an_good (ss_u σ 9 (σ 7 0) n 9 j) (ss_u σ 10 (σ 7 0) m 10 j)
    rw [ss_ue, ss_ue]
    by_cases z : j = σ 7 0
    · rw [if_pos z, if_pos z, if_pos z, if_pos z, z, p8n, if_neg (Ne.symm hlK), hz62]
      refine ⟨rfl, rfl, ?_, ht.1, ht.2, hg⟩
      unfold nx
      rw [Nat.sub_self]
      rfl
    · obtain ⟨g1, g2, g3, g4, g5, g6⟩ := hh6.1 j (by omega)
      rw [if_neg z, if_neg z, if_neg z, if_neg z, p8' j (by omega), nx1 j (by omega)]
      exact ⟨g1, g2, rfl, g4, g5, g6⟩
  · have ht2 : 1 ≤ t' ∧ t' ≤ σ 1 0 := ht'
    rw [e60, e61, e62, if_neg (by omega), if_neg (by omega)]
    refine ⟨(hh6.2 t' ht2).1, (hh6.2 t' ht2).2.1, ?_⟩
    exact (nx0 t' ht2).symm
  · obtain ⟨⟨v1, v2, v3, v4, v5, v6, v7, v8, v9, v10⟩, q2, q3⟩ := p14
    refine ⟨⟨v1, v2, ?_, v4, v5, fun k hk => ?_, v7, v8, v9, v10⟩, q2, q3⟩
    · show σ 7 0 + 1 ≤ 500
      omega
    · have hk' : k < σ 7 0 + 1 := hk
      show ss_u σ 8 (σ 7 0) t 8 k < 101 ∧ ss_u σ 9 (σ 7 0) n 9 k < 14 ∧ (ss_u σ 9 (σ 7 0) n 9 k = 6 → ss_u σ 10 (σ 7 0) m 10 k < 33) ∧ (ss_u σ 9 (σ 7 0) n 9 k = 7 → ss_u σ 10 (σ 7 0) m 10 k < 33) ∧ (ss_u σ 9 (σ 7 0) n 9 k = 8 → ss_u σ 10 (σ 7 0) m 10 k < 17) ∧ (ss_u σ 9 (σ 7 0) n 9 k = 9 → ss_u σ 10 (σ 7 0) m 10 k < 17) ∧ ss_u σ 10 (σ 7 0) m 10 k < 2 ^ 23
      rw [ss_ue, ss_ue, ss_ue]
      by_cases z : k = σ 7 0
      · rw [if_pos z, if_pos z, if_pos z]
        omega
      · rw [if_neg z, if_neg z, if_neg z]
        exact v6 k (by omega)
  · rw [e70]
    show _ = cfc (σ 2) (ss_u σ 8 (σ 7 0) t 8) (ss_u σ 9 (σ 7 0) n 9) (ss_u σ 10 (σ 7 0) m 10) r (σ 7 0 + 1)
    have ecg : cfc (σ 2) (ss_u σ 8 (σ 7 0) t 8) (ss_u σ 9 (σ 7 0) n 9) (ss_u σ 10 (σ 7 0) m 10) r (σ 7 0) = c 7 0 r := by
      rw [hh15 r g1 g2]
      exact cfc_cg r (σ 7 0) (fun k hk => ⟨p8' k hk, ss_ui _ _ _ _ (by omega), ss_ui _ _ _ _ (by omega), rfl⟩)
    show _ = if ss_u σ 9 (σ 7 0) n 9 (σ 7 0) = 6 ∧ ss_u σ 10 (σ 7 0) m 10 (σ 7 0) = r ∧ cfc (σ 2) (ss_u σ 8 (σ 7 0) t 8) (ss_u σ 9 (σ 7 0) n 9) (ss_u σ 10 (σ 7 0) m 10) r (σ 7 0) < σ 2 (ss_u σ 8 (σ 7 0) t 8 (σ 7 0)) then σ 2 (ss_u σ 8 (σ 7 0) t 8 (σ 7 0)) else cfc (σ 2) (ss_u σ 8 (σ 7 0) t 8) (ss_u σ 9 (σ 7 0) n 9) (ss_u σ 10 (σ 7 0) m 10) r (σ 7 0)
    rw [ecg, p8n, ss_us, ss_us]
    rcases hX with ⟨z1, z2, z3⟩ | ⟨z1, z2, z3⟩
    · by_cases y : r = m
      · rw [if_pos (by omega), z3, y]
        by_cases x : c 7 0 m < σ 2 t
        · rw [if_pos x, if_pos ⟨z1, rfl, x⟩]
        · rw [if_neg x, if_neg (fun w => x w.2.2)]
      · rw [if_neg (by omega), if_neg (fun w => y w.2.1.symm)]
    · rw [if_neg (by omega), if_neg (fun w => z1 w.1)]
  · exact (((((p16.ext 6 (σ 7 0) a).u 0 10 0 _ (Or.inl (Or.inl hx))).u 7 0 R _ (Or.inl (Or.inl hR))).u 6 0 _ _ (Or.inl hk6)).u 6 1 _ _ (Or.inl hk6)).u 6 2 l _ (Or.inl (Or.inl hlive))
theorem lq_part (hQ : cl_Q B c μ0 μ) (hP : REP B 0 0 0 σ c) (hG : gS G) (h0 : σ 43 0 = 0 → ∀ t, σ 11 t = 0) (v k : Int32) (w : Int64) : ∃ n, n ≤ 1 ∧ mj_M G my_T_part mY_T_part [va_rf (some (cD B 0 0)), .int v, .int k, .long w] (mj_nc μ + n) (mj_ns μ + 3 * n) μ (mj_XI (fun x μ' => x = (an_part σ v.toInt k.toInt w.toInt).1 ∧ ∃ B', cZ B' = cZ B ∧ cD B' 0 0 = cD B 0 0 ∧ CR B' 0 0 0 (an_part σ v.toInt k.toInt w.toInt).2 μ0 μ')) := by
  have hx := hP.x
  have hV := hP.v
  have h7 := hV.2.2.1
  have hnow : σ 43 0 ≤ 50000 := hV.2.2.2.2.2.2.2.2.2
  have hT := hV.1
  have e10 : c 0 10 0 = σ 7 0 := hP.h1.2.1.2.2.1
  have e12 : c 0 12 0 = σ 43 0 := hP.h1.2.1.2.2.2.2
  have stay : ∃ B', cZ B' = cZ B ∧ cD B' 0 0 = cD B 0 0 ∧ CR B' 0 0 0 σ μ0 μ := ⟨B, rfl, rfl, c, hQ, hP⟩
  by_cases good : (1 ≤ v.toInt ∧ v.toInt ≤ σ 1 0) ∧ an_good k.toInt w.toInt ∧ σ 43 0 = 0 ∧ σ 7 0 ≠ 500
  · obtain ⟨g1, g2, g3, g4⟩ := good
    refine ⟨1, Nat.le_refl _, ?_⟩
    obtain ⟨n, n1, rfl, n3⟩ := mj_nn (v := k) (by unfold an_good at g2; omega)
    obtain ⟨m, m1, rfl, m3⟩ := mj_LL (v := w) (by unfold an_good at g2; omega)
    obtain ⟨t, ht1, rfl, ht3⟩ := mj_nn (v := v) (by omega)
    rw [n3, m3] at g2
    rw [ht3] at g1
    have ht : 1 ≤ t ∧ t ≤ σ 1 0 := by omega
    obtain ⟨gg1, gg2, gg3, gg4, gg5, gg6⟩ := an_gd g2
    have ean : an_part σ (nI t).toInt (nI n).toInt (lN m).toInt = (nI (sp_cnt (an_add σ t n m) t (σ 7 0 + 1)), an_add σ t n m) := by
      unfold an_part
      rw [ht3, n3, m3, if_pos g1, if_pos g2, if_pos g3, if_neg g4, Int.toNat_natCast, Int.toNat_natCast, Int.toNat_natCast]
    rw [ean]
    have hkt := hP.k ht
    have hd6 : ¬ cL B 6 (σ 7 0) := fun z => by
      have := (hP.b.2.2.2.2.2.2.2.2.1 _).mp z
      omega
    refine mj_of (by decide) rfl (by decide) (Nat.le_of_ble_eq_true rfl) rfl ⟨Nat.le_add_right _ _, Nat.le_add_right _ _⟩ ?_
    refine bk_T_part_0 ⟨hQ.t0 hx, _, lc_taskOf hQ hP (nI t), fun y μ1 h r1 r2 => ?_⟩
    obtain ⟨hy, rfl⟩ := h
    rw [ht3, if_pos g1, Int.toNat_natCast] at hy
    rw [hy]
    refine bk_T_part_5 ⟨fun q => (by cases q), fun b q => ⟨_, lc_mayBePart hG (nI n) (lN m), fun y μ2 h r3 r4 => ?_⟩⟩
    cases q
    obtain ⟨rfl, rfl⟩ := h
    rw [n3, m3, if_pos g2]
    refine bk_T_part_19 ⟨fun _ => ⟨hQ.t0 hx, ?_⟩, fun q => absurd q (by decide)⟩
    rw [hQ.i0_12 hx, hQ.i0_10 hx, e10, e12, mj_le0 (by omega), show (500 : Int32) = nI 500 from rfl, mj_lt (by omega) (by decide), nI_1, lN_i]
    refine ⟨fun _ => ⟨fun _ => ?_, fun q => absurd (by omega) q⟩, fun q => absurd g3 q⟩
    have hQ1 := hQ.pI 0 10 0 (σ 7 0 + 1) hx (by decide) (by omega)
    have fin : ∀ (R X a : Nat) (μ3 : mj_MM), cl_Q B (cc_u (cc_u c 0 10 0 (σ 7 0 + 1)) 7 0 R X) μ0 μ3 → ((n = 6 ∧ R = m ∧ X = if c 7 0 m < σ 2 t then σ 2 t else c 7 0 m) ∨ (n ≠ 6 ∧ R = 0 ∧ X = c 7 0 0)) → mj_nc μ3 = mj_nc μ2 → mj_ns μ3 = mj_ns μ2 → mj_t μ3 a = 0 →
        ∃ P : mj_MM → Prop, mj_M G my_P_init mY_P_init [va_rf (some a), .int (nI n), .int (nI m)] (mj_nc μ3 + 1) (mj_ns μ3 + 3) (mj_new μ3 a 7 0 3) (mj_XV P) ∧ ∀ μ', P μ' → mj_nc μ' = mj_nc μ3 + 1 → mj_ns μ' = mj_ns μ3 + 3 → mj_J G mY_T_part (fun v' μ' => mj_XI (fun x μ' => x = nI (sp_cnt (an_add σ t n m) t (σ 7 0 + 1)) ∧ ∃ B', cZ B' = cZ B ∧ cD B' 0 0 = cD B 0 0 ∧ CR B' 0 0 0 (an_add σ t n m) μ0 μ') v' μ' ∧ mj_nc μ' = mj_nc μ2 + 1 ∧ mj_ns μ' = mj_ns μ2 + 3 * 1) (mj_nc μ2 + 1) (mj_ns μ2 + 3 * 1) 111 [] [va_rf (some a), va_rf (some (cD B 8 t))] μ' := by
      intro R X a μ3 hQ2 hX f1 f2 ha
      have z6 : ∀ p, cc_u (cc_u c 0 10 0 (σ 7 0 + 1)) 7 0 R X 6 p (σ 7 0) = 0 := fun p => by
        rw [cc_uk _ _ _ _ _ _ (by decide), cc_uk _ _ _ _ _ _ (by decide)]
        exact hP.h16 6 p _ (by decide) hd6
      have hQ3 := hQ2.new 6 (σ 7 0) a 3 (by decide) hd6 ha z6
      have hk6 : cL (cl_ext B 6 (σ 7 0) a) 6 (σ 7 0) := Or.inr ⟨rfl, rfl⟩
      have eD6 : cD (cl_ext B 6 (σ 7 0) a) 6 (σ 7 0) = a := xD B 6 (σ 7 0) a
      have eD0 : cD (cl_ext B 6 (σ 7 0) a) 0 0 = cD B 0 0 := xDl hd6 hx
      have eD8 : cD (cl_ext B 6 (σ 7 0) a) 8 t = cD B 8 t := xDl hd6 hkt
      have hQ4 := (hQ3.pI 6 0 (σ 7 0) n hk6 (by decide) (by omega)).pI 6 1 (σ 7 0) m hk6 (by decide) (by omega)
      have init : mj_M G my_P_init mY_P_init [va_rf (some a), .int (nI n), .int (nI m)] (mj_nc μ3 + 1) (mj_ns μ3 + 3) (mj_new μ3 a 7 0 3) (mj_XV (fun μ' => cl_Q (cl_ext B 6 (σ 7 0) a) (cc_u (cc_u (cc_u (cc_u c 0 10 0 (σ 7 0 + 1)) 7 0 R X) 6 0 (σ 7 0) n) 6 1 (σ 7 0) m) μ0 μ')) := by
        refine mj_of (by decide) rfl (by decide) (Nat.le_of_ble_eq_true rfl) rfl ⟨Nat.le_refl _, Nat.le_refl _⟩ ?_
        have t6 := hQ3.t6 hk6
        rw [eD6] at t6
        have hQ4' := hQ4
        rw [eD6] at hQ4'
        exact bk_P_init_0 ⟨t6, ⟨rfl, hQ4'⟩, rfl, rfl⟩
      refine ⟨_, init, fun μ4 h r5 r6 => bk_T_part_111 ⟨_, rfl, ?_, ?_⟩⟩
      · have := h.t8 (Or.inl hkt : cL (cl_ext B 6 (σ 7 0) a) 8 t)
        rw [eD8] at this
        exact this
      · have hks := hP.ps ht
        have hks' : cL (cl_ext B 6 (σ 7 0) a) 6 (1000 + t) := Or.inl hks
        have hchain : ch (c 6 2) (nx (σ 8) (σ 7 0) t 0) (pld (σ 8) t (σ 7 0) 0) := by
          have := pld_ch (p := σ 8) (f := c 6 2) (n := σ 7 0) (t := t) (fun j hj hp => by
            have := (hP.h6.1 j hj).2.2.1
            rw [hp] at this
            exact this) (σ 7 0) 0 (by omega)
          exact this
        have hL6 : ∀ j ∈ pld (σ 8) t (σ 7 0) 0, cL (cl_ext B 6 (σ 7 0) a) 6 j := fun j hj => Or.inl (hP.p (by have := ((pld_mem _ _ _ _ _).mp hj).1; omega))
        have hcount : sp_cnt (an_add σ t n m) t (σ 7 0 + 1) = 1 + (pld (σ 8) t (σ 7 0) 0).length := by
          rw [cnt_len]
          show (pld (ss_u σ 8 (σ 7 0) t 8) t (σ 7 0 + 1) 0).length = _
          rw [pld_len, Nat.zero_add, ss_us, if_pos rfl, pld_cg (p := σ 8) t (σ 7 0) 0 (fun j h1 h2 => ss_ui _ _ _ _ (by omega))]
          omega
        have addP : mj_M G my_K_addPart mY_K_addPart [va_rf (some (cD B 8 t)), va_rf (some a)] (mj_nc μ4) (mj_ns μ4) μ4 (mj_XI (fun x μ' => x = nI (sp_cnt (an_add σ t n m) t (σ 7 0 + 1)) ∧ CR (cl_ext B 6 (σ 7 0) a) 0 0 0 (an_add σ t n m) μ0 μ')) := by
          refine mj_of (by decide) rfl (by decide) (Nat.le_of_ble_eq_true rfl) rfl ⟨Nat.le_refl _, Nat.le_refl _⟩ ?_
          have t8 := h.t8 (Or.inl hkt : cL (cl_ext B 6 (σ 7 0) a) 8 t)
          have r86 := h.r8_6 (Or.inl hkt : cL (cl_ext B 6 (σ 7 0) a) 8 t)
          have e86 : cc_u (cc_u (cc_u (cc_u c 0 10 0 (σ 7 0 + 1)) 7 0 R X) 6 0 (σ 7 0) n) 6 1 (σ 7 0) m 8 6 t = 1000 + t + 1 := (hP.h2 t ht).2.2.2.2.2.2.1
          rw [eD8] at t8
          rw [eD8, e86] at r86
          have r62 := h.r6_2 hks'
          have e62 : cc_u (cc_u (cc_u (cc_u c 0 10 0 (σ 7 0 + 1)) 7 0 R X) 6 0 (σ 7 0) n) 6 1 (σ 7 0) m 6 2 (1000 + t) = nx (σ 8) (σ 7 0) t 0 := (hP.h6.2 t ht).2.2
          rw [e62] at r62
          refine bk_K_addPart_0 ⟨t8, _, r86, h.t6 hks', ?_⟩
          rw [r86, r62]
          have J := rl_addP (G := G) (N := mj_nc μ4) (S := mj_ns μ4) (Ex := fun v' μ' => mj_XI (fun x μ' => x = nI (sp_cnt (an_add σ t n m) t (σ 7 0 + 1)) ∧ CR (cl_ext B 6 (σ 7 0) a) 0 0 0 (an_add σ t n m) μ0 μ') v' μ' ∧ mj_nc μ' = mj_nc μ4 ∧ mj_ns μ' = mj_ns μ4) h (σ 7 0) hk6 (by omega) (pld (σ 8) t (σ 7 0) 0) (nx (σ 8) (σ 7 0) t 0) (1000 + t) 1 hchain hL6 hks' (fun l h1 h2 h3 => ⟨⟨_, rfl, by rw [hcount], _, h3, hP.addP (h0 g3) a t n m l R X ht g2 (by omega) h1 hX⟩, rfl, rfl⟩)
          rw [eD6] at J
          exact J
        refine ⟨_, addP, fun x μ5 h r7 r8 => bk_T_part_114 ⟨⟨_, rfl, h.1, cl_ext B 6 (σ 7 0) a, rfl, eD0, h.2⟩, ?_, ?_⟩⟩
        · omega
        · omega
    have e6 : (nI n = 6) = (n = 6) := by rw [mj_c6, mj_zz (by omega) (by decide)]
    rw [e6]
    refine ⟨fun q => ⟨⟨Nat.le_refl _, Nat.le_refl _⟩, fun a ha => ?_⟩, fun q => ?_⟩
    · have hid : cc_u (cc_u c 0 10 0 (σ 7 0 + 1)) 7 0 0 (c 7 0 0) = cc_u c 0 10 0 (σ 7 0 + 1) := cc_id rfl
      exact fin 0 (c 7 0 0) a _ (by rw [hid]; exact hQ1) (Or.inr ⟨q, rfl, rfl⟩) rfl rfl ha
    · have hm := gg4 (Or.inl q)
      have hP1 : mj_M G my_T_resourceOf mY_T_resourceOf [va_rf (some (cD B 0 0)), .int (nI m)] (mj_nc μ2) (mj_ns μ2) (mj_pI μ2 (cD B 0 0) 10 (nI (σ 7 0 + 1))) (mj_XR (fun x μ' => x = some (cD B 7 m) ∧ μ' = mj_pI μ2 (cD B 0 0) 10 (nI (σ 7 0 + 1)))) := by
        have a0 : cL B 10 2 := hP.b.2.2.1.2.2.1
        have nn : cN B 10 2 = 33 := hP.b.2.2.2.1.2.2.1
        have e2 : mj_r (mj_pI μ2 (cD B 0 0) 10 (nI (σ 7 0 + 1))) (cD B 0 0) 2 = some (cD B 10 2) := by
          show mj_r μ2 (cD B 0 0) 2 = _
          rw [hQ.r0_2 hx, hP.h1.1.2.2.1]
          rfl
        have en : mj_n (mj_pI μ2 (cD B 0 0) 10 (nI (σ 7 0 + 1))) (cD B 10 2) = 33 := by
          show mj_n μ2 (cD B 10 2) = 33
          rw [(hQ.1.2.2.1 10 2 a0 (by decide)).1, nn]
        refine mj_of (by decide) rfl (by decide) (Nat.le_of_ble_eq_true rfl) rfl ⟨Nat.le_refl _, Nat.le_refl _⟩ ?_
        refine bk_T_resourceOf_0 ?_
        rw [show (1 : Int32) = nI 1 from rfl, mj_lt (by omega) (by decide)]
        refine ⟨fun z => absurd z (by omega), fun _ => ⟨hQ1.t0 hx, _, e2, hQ1.ta2 a0, ?_⟩⟩
        rw [en, mj_lt (by omega) (by decide), nI_clamp (by omega)]
        refine ⟨fun z => ⟨vp_in_nI z (by decide), ⟨_, rfl, ?_, rfl⟩, rfl, rfl⟩, fun z => absurd (by omega) z⟩
        rw [hQ1.e2 a0 (by omega), show cc_u c 0 10 0 (σ 7 0 + 1) 10 2 m = m + 1 from hP.h1.2.2.2.2.1 m (by omega)]
        rfl
      refine ⟨_, hP1, fun x μ3 h r5 r6 => bk_T_part_74 ?_⟩
      obtain ⟨rfl, rfl⟩ := h
      have hrm := hP.re (r := m) (by omega)
      have i70 := hQ1.i7_0 hrm
      have i81 := hQ1.i8_1 hkt
      have e81 : cc_u c 0 10 0 (σ 7 0 + 1) 8 1 t = σ 2 t := (hP.h2 t ht).2.1
      have e70 : cc_u c 0 10 0 (σ 7 0 + 1) 7 0 m = c 7 0 m := rfl
      rw [e81] at i81
      rw [e70] at i70
      have b70 := hQ.b 7 0 m (by decide)
      have b81 := hQ.b 8 1 t (by decide)
      have e81' : c 8 1 t = σ 2 t := (hP.h2 t ht).2.1
      refine ⟨fun z => (by cases z), fun b z => ?_⟩
      cases z
      refine ⟨hQ1.t7 hrm, _, rfl, hQ1.t8 hkt, ⟨Nat.le_refl _, Nat.le_refl _⟩, fun a ha => ?_⟩
      rw [i70, i81]
      have emax : (if nI (c 7 0 m) < nI (σ 2 t) then nI (σ 2 t) else nI (c 7 0 m)) = nI (if c 7 0 m < σ 2 t then σ 2 t else c 7 0 m) := by
        by_cases z : c 7 0 m < σ 2 t
        · rw [if_pos z, if_pos ((nI_ltI (by omega) (by omega)).mpr z)]
        · rw [if_neg z, if_neg (fun y => z ((nI_ltI (by omega) (by omega)).mp y))]
      rw [emax]
      have hQ2 := hQ1.pI 7 0 m (if c 7 0 m < σ 2 t then σ 2 t else c 7 0 m) hrm (by decide) (by split <;> omega)
      exact fin m _ a _ hQ2 (Or.inl ⟨q, rfl, rfl⟩) rfl rfl ha
  · refine ⟨0, Nat.zero_le _, ?_⟩
    refine mj_of (by decide) rfl (by decide) (Nat.le_of_ble_eq_true rfl) rfl ⟨Nat.le_refl _, Nat.le_refl _⟩ ?_
    unfold an_part
    refine bk_T_part_0 ⟨hQ.t0 hx, _, lc_taskOf hQ hP v, fun y μ1 h r1 r2 => ?_⟩
    obtain ⟨hy, rfl⟩ := h
    by_cases z : 1 ≤ v.toInt ∧ v.toInt ≤ σ 1 0
    · rw [if_pos z] at hy ⊢
      rw [hy]
      refine bk_T_part_5 ⟨fun q => (by cases q), fun b q => ⟨_, lc_mayBePart hG k w, fun y μ2 h r3 r4 => ?_⟩⟩
      obtain ⟨rfl, rfl⟩ := h
      by_cases z2 : an_good k.toInt w.toInt
      · rw [if_pos z2, if_pos z2]
        refine bk_T_part_19 ⟨fun _ => ⟨hQ.t0 hx, ?_⟩, fun q => absurd q (by decide)⟩
        rw [hQ.i0_12 hx, hQ.i0_10 hx, e10, e12, mj_le0 (by omega), show (500 : Int32) = nI 500 from rfl, mj_lt (by omega) (by decide)]
        refine ⟨fun z3 => ⟨fun z4 => absurd ⟨z, z2, z3, by omega⟩ good, fun z4 => ?_⟩, fun z3 => ?_⟩
        · rw [if_pos z3, if_pos (by omega)]
          exact ⟨⟨_, rfl, rfl, stay⟩, rfl, rfl⟩
        · rw [if_neg z3]
          exact ⟨⟨_, rfl, rfl, stay⟩, rfl, rfl⟩
      · rw [if_neg z2, if_neg z2]
        exact bk_T_part_19 ⟨fun q => absurd rfl q, fun _ => ⟨⟨_, rfl, rfl, stay⟩, rfl, rfl⟩⟩
    · rw [if_neg z] at hy ⊢
      rw [hy]
      exact bk_T_part_5 ⟨fun _ => ⟨⟨_, rfl, rfl, stay⟩, rfl, rfl⟩, fun b q => (by cases q)⟩
end TD
