/-! SWITCHES in order, and who ran when -/
theorem sp_ordc_spec (σ : ss_S) (i : Int) (t : Nat) (p : Nat × Nat) (C0 : Nat) (hp : (p.2 = 0 ∧ ¬ (0 ≤ i ∧ i < p.1)) ∨ ∃ t' k, t' < t ∧ k < C0 ∧ wsw (σ 44) k t' = 1 ∧ (wa (σ 44) C0 t' + wc (σ 44) t' k : Int) = i ∧ p.2 = 8 * t' + k + 1 ∧ i < p.1) (hpa : p.1 = wa (σ 44) C0 t) :
    ∀ c, c ≤ C0 → (sp_ordc σ i t p c).1 = wa (σ 44) C0 t + wc (σ 44) t c ∧ (((sp_ordc σ i t p c).2 = 0 ∧ ¬ (0 ≤ i ∧ i < (sp_ordc σ i t p c).1)) ∨ ∃ t' k, t' ≤ t ∧ k < C0 ∧ wsw (σ 44) k t' = 1 ∧ (wa (σ 44) C0 t' + wc (σ 44) t' k : Int) = i ∧ (sp_ordc σ i t p c).2 = 8 * t' + k + 1 ∧ i < (sp_ordc σ i t p c).1) := by
  intro c
  induction c with
  | zero =>
    intro _
    refine ⟨hpa, ?_⟩
    rcases hp with z | ⟨t', k, z1, z2⟩
    · exact Or.inl z
    · exact Or.inr ⟨t', k, Nat.le_of_lt z1, z2⟩
  | succ c ih =>
    intro hc
    obtain ⟨i1, i2⟩ := ih (by omega)
    unfold sp_ordc
    have ew : sp_isw σ c t = wsw (σ 44) c t := rfl
    rw [ew]
    have h01 := wsw_01 (σ 44) c t
    by_cases z : wsw (σ 44) c t = 0
    · rw [if_pos z]
      refine ⟨?_, i2⟩
      show _ = _ + (wc (σ 44) t c + wsw (σ 44) c t)
      rw [z]
      exact i1
    · rw [if_neg z]
      have z1 : wsw (σ 44) c t = 1 := by omega
      refine ⟨?_, ?_⟩
      · show _ + 1 = _ + (wc (σ 44) t c + wsw (σ 44) c t)
        rw [i1, z1]
        omega
      · show ((if ((sp_ordc σ i t p c).1 : Int) = i then 8 * t + c + 1 else (sp_ordc σ i t p c).2) = 0 ∧ ¬ (0 ≤ i ∧ i < ((sp_ordc σ i t p c).1 + 1 : Nat))) ∨ ∃ t' k, t' ≤ t ∧ k < C0 ∧ wsw (σ 44) k t' = 1 ∧ (wa (σ 44) C0 t' + wc (σ 44) t' k : Int) = i ∧ (if ((sp_ordc σ i t p c).1 : Int) = i then 8 * t + c + 1 else (sp_ordc σ i t p c).2) = 8 * t' + k + 1 ∧ i < ((sp_ordc σ i t p c).1 + 1 : Nat)
        by_cases y : ((sp_ordc σ i t p c).1 : Int) = i
        · rw [if_pos y]
          exact Or.inr ⟨t, c, Nat.le_refl _, by omega, z1, by omega, rfl, by omega⟩
        · rw [if_neg y]
          rcases i2 with x | ⟨t', k, x1, x2, x3, x4, x5, x6⟩
          · exact Or.inl ⟨x.1, by omega⟩
          · exact Or.inr ⟨t', k, x1, x2, x3, x4, x5, by omega⟩
theorem sp_ord_spec (σ : ss_S) (i : Int) : ∀ t, (sp_ord σ i t).1 = wa (σ 44) (σ 0 0) t ∧ (((sp_ord σ i t).2 = 0 ∧ ¬ (0 ≤ i ∧ i < (sp_ord σ i t).1)) ∨ ∃ t' k, t' < t ∧ k < σ 0 0 ∧ wsw (σ 44) k t' = 1 ∧ (wa (σ 44) (σ 0 0) t' + wc (σ 44) t' k : Int) = i ∧ (sp_ord σ i t).2 = 8 * t' + k + 1 ∧ i < (sp_ord σ i t).1) := by
  intro t
  induction t with
  | zero => exact ⟨rfl, Or.inl ⟨rfl, by show ¬ (0 ≤ i ∧ i < ((0 : Nat) : Int)); omega⟩⟩
  | succ t ih =>
    obtain ⟨i1, i2⟩ := ih
    obtain ⟨a1, a2⟩ := sp_ordc_spec σ i t (sp_ord σ i t) (σ 0 0) i2 i1 (σ 0 0) (Nat.le_refl _)
    refine ⟨a1, ?_⟩
    rcases a2 with z | ⟨t', k, z1, z2⟩
    · exact Or.inl z
    · exact Or.inr ⟨t', k, by omega, z2⟩
theorem wk_at (w : Nat → Nat) (k : Nat) : ∀ n m, m < wk w k n → ∃ t, t < n ∧ wsw w k t = 1 ∧ wk w k t = m := by
  intro n
  induction n with
  | zero => exact fun m h => absurd h (Nat.not_lt_zero _)
  | succ n ih =>
    intro m hm
    have h01 := wsw_01 w k n
    have hm' : m < wk w k n + wsw w k n := hm
    by_cases z : m < wk w k n
    · obtain ⟨t, h1, h2⟩ := ih m z
      exact ⟨t, by omega, h2⟩
    · exact ⟨n, by omega, by omega, by omega⟩
theorem wk_last (w : Nat → Nat) (k : Nat) : ∀ t, (wk w k (t + 1) = 0 ∧ w (50000 * k + t) = 0) ∨ ∃ t', t' ≤ t ∧ wsw w k t' = 1 ∧ wk w k t' + 1 = wk w k (t + 1) ∧ w (50000 * k + t') = w (50000 * k + t) := by
  intro t
  induction t with
  | zero =>
    have h01 := wsw_01 w k 0
    by_cases z : wsw w k 0 = 0
    · refine Or.inl ⟨?_, ?_⟩
      · show 0 + wsw w k 0 = 0
        omega
      · unfold wsw at z
        split at z
        · rename_i y
          exact y
        · omega
    · exact Or.inr ⟨0, Nat.le_refl _, by omega, by show 0 + 1 = 0 + wsw w k 0; omega, rfl⟩
  | succ t ih =>
    have h01 := wsw_01 w k (t + 1)
    have es : wk w k (t + 1 + 1) = wk w k (t + 1) + wsw w k (t + 1) := rfl
    by_cases z : wsw w k (t + 1) = 0
    · have ew : w (50000 * k + (t + 1)) = w (50000 * k + t) := by
        have z' := z
        unfold wsw at z'
        split at z'
        · rename_i y
          unfold wbef at y
          rw [if_neg (by omega)] at y
          exact y
        · omega
      rw [ew, es, z, Nat.add_zero]
      rcases ih with y | ⟨t', y1, y2⟩
      · exact Or.inl y
      · exact Or.inr ⟨t', by omega, y2⟩
    · exact Or.inr ⟨t + 1, Nat.le_refl _, by omega, by omega, rfl⟩
theorem sp_fstc_spec (σ : ss_S) (k l : Nat) : ∀ n, (sp_fstc σ k l n = 0 ∧ ∀ t, 1 ≤ t → t ≤ n → ¬ (σ 3 t = k ∧ σ 26 t = l)) ∨ ((1 ≤ sp_fstc σ k l n ∧ sp_fstc σ k l n ≤ n) ∧ (σ 3 (sp_fstc σ k l n) = k ∧ σ 26 (sp_fstc σ k l n) = l) ∧ ∀ t, 1 ≤ t → t ≤ n → (σ 3 t = k ∧ σ 26 t = l) → σ 27 (sp_fstc σ k l n) ≤ σ 27 t) := by
  intro n
  induction n with
  | zero => exact Or.inl ⟨rfl, fun t h1 h2 => by omega⟩
  | succ n ih =>
    unfold sp_fstc
    split
    · rename_i h
      refine Or.inr ⟨by omega, ⟨h.1, h.2.1⟩, fun t h1 h2 h3 => ?_⟩
      by_cases e : t = n + 1
      · rw [e]
        exact Nat.le_refl _
      · rcases ih with q | q
        · exact absurd h3 (q.2 t h1 (by omega))
        · have := q.2.2 t h1 (by omega) h3
          rcases h.2.2 with z | z
          · omega
          · omega
    · rename_i h
      rcases ih with q | q
      · refine Or.inl ⟨q.1, fun t h1 h2 h3 => ?_⟩
        by_cases e : t = n + 1
        · subst e
          exact h ⟨h3.1, h3.2, Or.inl q.1⟩
        · exact q.2 t h1 (by omega) h3
      · refine Or.inr ⟨by omega, q.2.1, fun t h1 h2 h3 => ?_⟩
        by_cases e : t = n + 1
        · subst e
          apply Decidable.byContradiction
          intro z
          exact h ⟨h3.1, h3.2, Or.inr (by omega)⟩
        · exact q.2.2 t h1 (by omega) h3
/-- the first of a queue on a core -/
def qfst (s : Nat → Nat) (k : Nat) : List Nat → Nat
  | [] => 0
  | t :: L => if s t = k then t else qfst s k L
theorem qfst_spec {σ : ss_S} {k : Nat} : ∀ L : List Nat, L.Pairwise (fun a b => σ 27 a < σ 27 b) → (∀ t ∈ L, 1 ≤ t) → (qfst (σ 3) k L = 0 ∧ ∀ t ∈ L, σ 3 t ≠ k) ∨ (qfst (σ 3) k L ∈ L ∧ σ 3 (qfst (σ 3) k L) = k ∧ ∀ t ∈ L, σ 3 t = k → t ≠ qfst (σ 3) k L → σ 27 (qfst (σ 3) k L) < σ 27 t) := by
  intro L
  induction L with
  | nil => exact fun _ _ => Or.inl ⟨rfl, fun t h => (by cases h)⟩
  | cons x L ih =>
    intro hp hm
    obtain ⟨p1, p2⟩ := List.pairwise_cons.mp hp
    unfold qfst
    by_cases z : σ 3 x = k
    · rw [if_pos z]
      refine Or.inr ⟨List.mem_cons_self .., z, fun t ht _ hne => ?_⟩
      exact p1 t ((List.mem_cons.mp ht).resolve_left hne)
    · rw [if_neg z]
      rcases ih p2 (fun t ht => hm t (List.mem_cons_of_mem _ ht)) with y | ⟨y1, y2, y3⟩
      · refine Or.inl ⟨y.1, fun t ht => ?_⟩
        rcases List.mem_cons.mp ht with w | w
        · rw [w]
          exact z
        · exact y.2 t w
      · refine Or.inr ⟨List.mem_cons_of_mem _ y1, y2, fun t ht h3 hne => ?_⟩
        rcases List.mem_cons.mp ht with w | w
        · rw [w] at h3
          exact absurd h3 z
        · exact y3 t w h3 hne
theorem qfst_fstc {σ : ss_S} {k l : Nat} {L : List Nat} (hl : 1 ≤ l) (hm : ∀ t, t ∈ L ↔ (1 ≤ t ∧ t ≤ σ 1 0) ∧ σ 26 t = l) (hp : L.Pairwise (fun a b => σ 27 a < σ 27 b)) : qfst (σ 3) k L = sp_fstc σ k l (σ 1 0) := by
  rcases qfst_spec (k := k) L hp (fun t ht => ((hm t).mp ht).1.1) with z | ⟨z1, z2, z3⟩
  · rcases sp_fstc_spec σ k l (σ 1 0) with y | ⟨y1, y2, y3⟩
    · rw [z.1, y.1]
    · exact absurd y2.1 (z.2 _ ((hm _).mpr ⟨y1, y2.2⟩))
  · have h1 := (hm _).mp z1
    rcases sp_fstc_spec σ k l (σ 1 0) with y | ⟨y1, y2, y3⟩
    · exact absurd ⟨z2, h1.2⟩ (y.2 _ h1.1.1 h1.1.2)
    · apply Decidable.byContradiction
      intro hne
      have a1 := z3 _ ((hm _).mpr ⟨y1, y2.2⟩) y2.1 (fun q => hne q.symm)
      have a2 := y3 _ h1.1.1 h1.1.2 ⟨z2, h1.2⟩
      omega
section CY
variable {G : mj_G} {B : cl_B} {σ τ : ss_S} {c : cc_S} {μ μ0 : mj_MM} {Ex : Option Value → mj_MM → Prop} {N S : Nat}
/-- what stands in the logs of SWITCHES -/
theorem REP.log1 (hP : REP B 0 0 0 σ c) (i : Nat) (hi : i < wa (σ 44) (σ 0 0) (σ 43 0)) : ∃ t k, t < σ 43 0 ∧ k < σ 0 0 ∧ wsw (σ 44) k t = 1 ∧ wa (σ 44) (σ 0 0) t + wc (σ 44) t k = i ∧ c 20 1 i = t * 2 ^ 40 + k * 2 ^ 20 + σ 44 (50000 * k + t) ∧ σ 44 (50000 * k + t) < 1100 := by
  obtain ⟨a1, a2⟩ := sp_ord_spec σ i (σ 43 0)
  rcases a2 with z | ⟨t, k, z1, z2, z3, z4, -⟩
  · exfalso
    rw [a1] at z
    omega
  · obtain ⟨g1, g2⟩ := hP.h13.2.2 k t z2 z1
    refine ⟨t, k, z1, z2, z3, by omega, ?_, g1⟩
    rw [← (g2 z3).1]
    congr 1
    omega
theorem REP.log2 (hP : REP B 0 0 0 σ c) (k i : Nat) (hk : k < σ 0 0) (hi : i < wk (σ 44) k (σ 43 0)) : ∃ t, t < σ 43 0 ∧ wsw (σ 44) k t = 1 ∧ wk (σ 44) k t = i ∧ c 20 (k + 2) i = t * 2 ^ 40 + σ 44 (50000 * k + t) * 2 ^ 20 + 0 ∧ σ 44 (50000 * k + t) < 1100 := by
  obtain ⟨t, z1, z2, z3⟩ := wk_at (σ 44) k _ _ hi
  obtain ⟨g1, g2⟩ := hP.h13.2.2 k t hk z1
  refine ⟨t, z1, z2, z3, ?_, g1⟩
  rw [← z3, (g2 z2).2, Nat.add_zero]
theorem lq_order (hQ : cl_Q B c μ0 μ) (hP : REP B 0 0 0 σ c) (v w : Int32) : mj_M G my_T_order mY_T_order [va_rf (some (cD B 0 0)), .int v, .int w] (mj_nc μ) (mj_ns μ) μ (mj_XI (fun x μ' => x = an_order σ v.toInt w.toInt ∧ μ' = μ)) := by
  have hx := hP.x
  have hV := hP.v
  have hC := hV.2.1.2
  have hnow : σ 43 0 ≤ 50000 := hV.2.2.2.2.2.2.2.2.2
  obtain ⟨⟨c1, c2⟩, -, -⟩ := hP.h13
  have hg : cL B 5 1 := hP.lg (by omega)
  have e6 : c 0 6 0 = 2 := hP.h1.1.2.2.2.2.2.2
  have hcap : wa (σ 44) (σ 0 0) (σ 43 0) ≤ 50000 * σ 0 0 := by
    have h1 := wa_bd (σ 44) (σ 0 0) (σ 43 0)
    have h2 : σ 0 0 * σ 43 0 ≤ σ 0 0 * 50000 := Nat.mul_le_mul_left _ hnow
    omega
  refine mj_of (by decide) rfl (by decide) (Nat.le_of_ble_eq_true rfl) rfl ⟨Nat.le_refl _, Nat.le_refl _⟩ ?_
  refine bk_T_order_0 ⟨hQ.t0 hx, cD B 5 1, ?_, hQ.t5 hg, _, lc_answer hQ 1 hg v w (fun i h1 h2 => ?_), fun x μ1 h r1 r2 => bk_T_order_9 ?_⟩
  · rw [hQ.r0_6 hx, e6]
    rfl
  · obtain ⟨t, k, g1, g2, -, -, g5, g6⟩ := hP.log1 i (by omega)
    rw [g5]
    exact (lg_un _ _ _ (by omega) (by omega) (by omega)).2.2.2
  · obtain ⟨rfl, rfl⟩ := h
    refine ⟨⟨_, rfl, ?_, rfl⟩, rfl, rfl⟩
    obtain ⟨s1, s2⟩ := sp_ord_spec σ v.toInt (σ 43 0)
    unfold lg_ans an_order
    rw [c1, c2, s1]
    by_cases z : v.toInt = -1 ∧ w.toInt = 0
    · rw [if_pos z, if_pos z]
    · rw [if_neg z, if_neg z]
      rcases s2 with ⟨y1, y2⟩ | ⟨t, k, y1, y2, y3, y4, y5, y6⟩
      · rw [s1] at y2
        rw [y1, if_pos rfl, if_neg (by omega)]
      · rw [s1] at y6
        rw [if_pos (by omega), y5, if_neg (show ¬ (8 * t + k + 1 = 0) by omega)]
        obtain ⟨g1, g2⟩ := hP.h13.2.2 k t y2 y1
        have ec : c 20 1 v.toInt.toNat = t * 2 ^ 40 + k * 2 ^ 20 + σ 44 (50000 * k + t) := by
          rw [← (g2 y3).1]
          congr 1
          omega
        obtain ⟨u1, u2, u3, -⟩ := lg_un t k (σ 44 (50000 * k + t)) (by omega) (by omega) (by omega)
        have d1 : (8 * t + k + 1 - 1) / 8 = t := by omega
        have d2 : (8 * t + k + 1 - 1) % 8 = k := by omega
        rw [ec, d1, d2]
        by_cases h0 : w.toInt = 0
        · rw [if_pos h0, if_pos (by omega), h0]
          show nI (_ / 2 ^ (20 * (2 - 0)) % 2 ^ 20) = _
          rw [u1]
        · rw [if_neg h0]
          by_cases h1 : w.toInt = 1
          · rw [if_pos h1, if_pos (by omega), h1]
            show nI (_ / 2 ^ (20 * (2 - 1)) % 2 ^ 20) = _
            rw [u2]
          · rw [if_neg h1]
            by_cases h2 : w.toInt = 2
            · rw [if_pos h2, if_pos (by omega), h2]
              show nI (_ / 2 ^ (20 * (2 - 2)) % 2 ^ 20) = _
              rw [u3]
            · rw [if_neg h2, if_neg (by omega)]
theorem rl_whoAt (hQ : cl_Q B c μ0 μ) (hP : REP B 0 0 0 σ c) (k t : Nat) (hk : k < σ 0 0) (ht : t < σ 43 0) (he : Ex (some (.int (nI (σ 44 (50000 * k + t))))) μ) :
    ∀ d lo hi h, h + d = 32 → hi - lo < 2 ^ d → lo ≤ wk (σ 44) k (t + 1) → wk (σ 44) k (t + 1) ≤ hi → hi ≤ wk (σ 44) k (σ 43 0) → mj_J G mY_C_whoAt Ex (mj_nc μ) (mj_ns μ) 13 [(0, va_rf (some (cD B 1 k))), (1, .int (nI t)), (2, .int (nI lo)), (3, .int (nI hi)), (4, .int (nI h))] [] μ := by
  have hV := hP.v
  have hC := hV.2.1.2
  have hnow : σ 43 0 ≤ 50000 := hV.2.2.2.2.2.2.2.2.2
  have hck := hP.co hk
  have hg : cL B 5 (k + 2) := hP.lg (by omega)
  have e11 : c 1 1 k = k + 2 + 1 := (hP.h4 k hk).2.1
  obtain ⟨c1, c2, c3⟩ := hP.h13.2.1 k hk
  have hbd := wk_bd (σ 44) k (σ 43 0)
  have eR : mj_r μ (cD B 1 k) 1 = some (cD B 5 (k + 2)) := by rw [hQ.r1_1 hck, e11]; rfl
  have hx62 : ∀ i, i < c 5 2 (k + 2) → i < c 5 1 (k + 2) → c 20 (k + 2) i < 2 ^ 62 := fun i h1 h2 => by
    obtain ⟨t', g1, g2, g3, g4, g5⟩ := hP.log2 k i hk (by omega)
    rw [g4]
    exact (lg_un _ _ _ (by omega) (by omega) (by decide)).2.2.2
  have fin : ∀ lo, lo = wk (σ 44) k (t + 1) → (¬ nI lo = 0 → (mj_t μ (cD B 1 k) = 2 ∧ ∃ b2, mj_r μ (cD B 1 k) 1 = some b2 ∧ mj_t μ b2 = 6 ∧ ∃ P : Int32 → mj_MM → Prop, mj_M G my_G_answer mY_G_answer [va_rf (some b2), .int (nI lo - 1), .int 1] (mj_nc μ) (mj_ns μ) μ (mj_XI P) ∧ ∀ (x : Int32) (μ' : mj_MM), P x μ' → mj_nc μ' = mj_nc μ → mj_ns μ' = mj_ns μ → mj_J G mY_C_whoAt Ex (mj_nc μ) (mj_ns μ) 82 [] [.int x] μ')) ∧ (nI lo = 0 → mj_J G mY_C_whoAt Ex (mj_nc μ) (mj_ns μ) 82 [] [.int 0] μ) := by
    intro lo hlo
    have hle := wk_mono (σ 44) k (t + 1) (σ 43 0) (by omega)
    rw [mj_z0 (by omega)]
    rcases wk_last (σ 44) k t with ⟨z1, z2⟩ | ⟨t', z1, z2, z3, z4⟩
    · refine ⟨fun y => absurd (by omega) y, fun _ => bk_C_whoAt_82 ?_⟩
      rw [z2] at he
      exact he
    · refine ⟨fun y => ⟨hQ.t1 hck, _, eR, hQ.t5 hg, _, lc_answer hQ (k + 2) hg _ _ hx62, fun x μ' h r1 r2 => bk_C_whoAt_82 ?_⟩, fun y => absurd y (by omega)⟩
      obtain ⟨hx, rfl⟩ := h
      obtain ⟨g1, g2⟩ := hP.h13.2.2 k t' hk (by omega)
      have e1 : nI lo - 1 = nI (wk (σ 44) k t') := by
        rw [hlo, ← z3, nI_pred]
      have e2 : lg_ans c (k + 2) (nI lo - 1).toInt (1 : Int32).toInt = nI (σ 44 (50000 * k + t)) := by
        rw [e1, nI_toInt (by omega), show (1 : Int32).toInt = 1 from by decide]
        unfold lg_ans
        rw [if_neg (by omega), c1, c2, if_pos (by omega), if_pos (by decide), Int.toNat_natCast, (g2 z2).2]
        show nI (_ / 2 ^ (20 * (2 - 1)) % 2 ^ 20) = _
        have u := (lg_un t' (σ 44 (50000 * k + t')) 0 (by omega) (by omega) (by decide)).2.1
        rw [Nat.add_zero] at u
        rw [u, z4]
      rw [hx, e2]
      exact he
  intro d
  induction d with
  | zero =>
    intro lo hi h h1 h2 h3 h4 h5
    have hl : hi - lo = 0 := by omega
    refine bk_C_whoAt_13 ⟨fun _ => fin lo (by omega), fun z => absurd (by rw [mj_c32, mj_le (by decide) (by omega)]; omega) z⟩
  | succ d ih =>
    intro lo hi h h1 h2 h3 h4 h5
    refine bk_C_whoAt_13 ⟨fun z => absurd z (by rw [mj_c32, mj_le (by decide) (by omega)]; omega), fun _ => ?_⟩
    rw [mj_le (by omega) (by omega)]
    refine ⟨fun z => fin lo (by omega), fun z => ⟨hQ.t1 hck, _, eR, hQ.t5 hg, ?_⟩⟩
    have em : (nI lo + nI hi) / 2 = nI ((lo + hi) / 2) := by
      rw [nI_add, mj_c2, pk_div (by omega) (by decide) (by decide)]
    rw [em]
    refine ⟨_, lc_answer hQ (k + 2) hg _ _ hx62, fun x μ' hh r1 r2 => ?_⟩
    obtain ⟨hx, rfl⟩ := hh
    obtain ⟨t', g1, g2, g3, g4, g5⟩ := hP.log2 k ((lo + hi) / 2) hk (by omega)
    have e2 : lg_ans c (k + 2) (nI ((lo + hi) / 2)).toInt (0 : Int32).toInt = nI t' := by
      rw [nI_toInt (by omega), show (0 : Int32).toInt = 0 from by decide]
      unfold lg_ans
      rw [if_neg (by omega), c1, c2, if_pos (by omega), if_pos (by decide), Int.toNat_natCast, g4]
      show nI (_ / 2 ^ (20 * (2 - 0)) % 2 ^ 20) = _
      rw [(lg_un t' (σ 44 (50000 * k + t')) 0 (by omega) (by omega) (by decide)).1]
    rw [hx, e2]
    have hpw : 2 ^ (d + 1) = 2 * 2 ^ d := by rw [Nat.pow_succ]; omega
    refine bk_C_whoAt_42 ?_
    rw [mj_lt (by omega) (by omega), nI_1, nI_1]
    refine ⟨fun y => ih lo ((lo + hi) / 2) (h + 1) (by omega) (by omega) h3 ?_ (by omega), fun y => ih ((lo + hi) / 2 + 1) hi (h + 1) (by omega) (by omega) ?_ h4 h5⟩
    · have := wk_mono (σ 44) k (t + 1) t' (by omega)
      omega
    · have := wk_mono (σ 44) k (t' + 1) (t + 1) (by omega)
      have es : wk (σ 44) k (t' + 1) = wk (σ 44) k t' + wsw (σ 44) k t' := rfl
      omega
theorem lq_running (hQ : cl_Q B c μ0 μ) (hP : REP B 0 0 0 σ c) (v : Int32) (w : Int64) : mj_M G my_T_running mY_T_running [va_rf (some (cD B 0 0)), .int v, .long w] (mj_nc μ) (mj_ns μ) μ (mj_XI (fun x μ' => x = an_running σ v.toInt w.toInt ∧ μ' = μ)) := by
  have hx := hP.x
  have hV := hP.v
  have hnow : σ 43 0 ≤ 50000 := hV.2.2.2.2.2.2.2.2.2
  have e12 : c 0 12 0 = σ 43 0 := hP.h1.2.1.2.2.2.2
  refine mj_of (by decide) rfl (by decide) (Nat.le_of_ble_eq_true rfl) rfl ⟨Nat.le_refl _, Nat.le_refl _⟩ ?_
  refine bk_T_running_0 ⟨hQ.t0 hx, _, lc_coreOf hQ hP v, fun y μ1 h r1 r2 => ?_⟩
  obtain ⟨hy, rfl⟩ := h
  unfold an_running
  by_cases z : 0 ≤ v.toInt ∧ v.toInt < σ 0 0
  · rw [if_pos z] at hy ⊢
    have hk : v.toInt.toNat < σ 0 0 := by omega
    have hck := hP.co hk
    rw [hy]
    refine bk_T_running_5 ⟨fun q => (by cases q), fun b q => ?_⟩
    cases q
    rw [mj_jLT, show (0 : Int64).toInt = 0 from by decide]
    refine ⟨fun q => ?_, fun q => ⟨hQ.t0 hx, ?_⟩⟩
    · rw [if_neg (by omega)]
      exact ⟨⟨_, rfl, rfl, rfl⟩, rfl, rfl⟩
    · obtain ⟨n, n1, rfl, n3⟩ := mj_LL (v := w) (by omega)
      rw [hQ.i0_12 hx, e12, nI_l (by omega), mj_LT n1 (by omega), n3]
      refine ⟨fun q2 => ⟨hQ.t1 hck, ?_⟩, fun q2 => ?_⟩
      · rw [if_pos (by omega), Int.toNat_natCast, lN_i]
        have hg : cL B 5 (v.toInt.toNat + 2) := hP.lg (by omega)
        have e11 : c 1 1 v.toInt.toNat = v.toInt.toNat + 2 + 1 := (hP.h4 _ hk).2.1
        have c2 := (hP.h13.2.1 _ hk).2.1
        have hbd := wk_bd (σ 44) v.toInt.toNat (σ 43 0)
        have hmo := wk_mono (σ 44) v.toInt.toNat (n + 1) (σ 43 0) (by omega)
        have wa : mj_M G my_C_whoAt mY_C_whoAt [va_rf (some (cD B 1 v.toInt.toNat)), .int (nI n)] (mj_nc μ1) (mj_ns μ1) μ1 (mj_XI (fun x μ' => x = nI (σ 44 (50000 * v.toInt.toNat + n)) ∧ μ' = μ1)) := by
          refine mj_of (by decide) rfl (by decide) (Nat.le_of_ble_eq_true rfl) rfl ⟨Nat.le_refl _, Nat.le_refl _⟩ ?_
          refine bk_C_whoAt_0 ⟨hQ.t1 hck, cD B 5 (v.toInt.toNat + 2), ?_, hQ.t5 hg, ?_⟩
          · rw [hQ.r1_1 hck, e11]
            rfl
          · rw [hQ.i5_2 hg, c2]
            exact rl_whoAt hQ hP v.toInt.toNat n hk q2 ⟨⟨_, rfl, rfl, rfl⟩, rfl, rfl⟩ 32 0 _ 0 (by decide) (by omega) (Nat.zero_le _) hmo (Nat.le_refl _)
        exact ⟨_, wa, fun x μ' h r3 r4 => bk_T_running_40 ⟨⟨_, rfl, h⟩, r3, r4⟩⟩
      · rw [if_neg (by omega)]
        exact ⟨⟨_, rfl, rfl, rfl⟩, rfl, rfl⟩
  · rw [if_neg z] at hy ⊢
    rw [hy]
    exact bk_T_running_5 ⟨fun _ => ⟨⟨_, rfl, rfl, rfl⟩, rfl, rfl⟩, fun b q => (by cases q)⟩
theorem rl_firstQ (hQ : cl_Q B c μ0 μ) (hP : REP B 0 0 0 σ c) (k : Nat) (hk : k < σ 0 0) : ∀ (L : List Nat) (v : Nat), ch (c 8 18) v L → (∀ t ∈ L, 1 ≤ t ∧ t ≤ σ 1 0) → Ex (some (va_rf (cl_ref B 8 (enc (qfst (σ 3) k L))))) μ → mj_J G mY_L_firstInQueueOf Ex N S 5 [(1, va_rf (some (cD B 1 k))), (2, va_rf (cl_ref B 8 v))] [] μ := by
  have hck := hP.co hk
  intro L
  induction L with
  | nil =>
    intro v hc hl he
    have hv : v = 0 := hc
    subst hv
    exact bk_L_firstInQueueOf_5 ⟨fun _ => he, fun b z => (by cases z)⟩
  | cons t L ih =>
    intro v hc hl he
    obtain ⟨hv, hc⟩ := hc
    subst hv
    have ht := hl t (List.mem_cons_self ..)
    have hkt := hP.k ht
    have e2 : c 8 2 t = σ 3 t + 1 := (hP.h2 t ht).2.2.1
    refine bk_L_firstInQueueOf_5 ⟨fun z => (by cases z), fun b z => ?_⟩
    cases z
    have ei : (cl_ref B 1 (σ 3 t + 1) = some (cD B 1 k)) = (σ 3 t = k) := by
      rw [show some (cD B 1 k) = cl_ref B 1 (k + 1) from rfl, cl_ref_inj hQ.1 (v := σ 3 t + 1) (w := k + 1) (Or.inr (hP.co (hP.h2 t ht).2.2.2.2.2.2.2)) (Or.inr hck)]
      apply propext
      omega
    rw [hQ.r8_2 hkt, e2, ei, hQ.r8_18 hkt]
    unfold qfst at he
    refine ⟨hQ.t8 hkt, fun q => ?_, fun q => ?_⟩
    · rw [if_neg q] at he
      exact ih _ hc (fun x hx => hl x (List.mem_cons_of_mem _ hx)) he
    · rw [if_pos q, enc_s (by omega)] at he
      exact he
theorem lq_spin (hQ : cl_Q B c μ0 μ) (hP : REP B 0 0 0 σ c) (v w : Int32) : mj_M G my_T_spin mY_T_spin [va_rf (some (cD B 0 0)), .int v, .int w] (mj_nc μ) (mj_ns μ) μ (mj_XI (fun x μ' => x = an_spin σ v.toInt w.toInt ∧ μ' = μ)) := by
  have hx := hP.x
  refine mj_of (by decide) rfl (by decide) (Nat.le_of_ble_eq_true rfl) rfl ⟨Nat.le_refl _, Nat.le_refl _⟩ ?_
  refine bk_T_spin_0 ⟨hQ.t0 hx, _, lc_coreOf hQ hP v, fun y μ1 h r1 r2 => ?_⟩
  obtain ⟨hy, rfl⟩ := h
  unfold an_spin
  by_cases z : 0 ≤ v.toInt ∧ v.toInt < σ 0 0
  · rw [if_pos z] at hy ⊢
    have hk : v.toInt.toNat < σ 0 0 := by omega
    have hck := hP.co hk
    rw [hy]
    refine bk_T_spin_5 ⟨fun q => (by cases q), fun b q => ⟨hQ.t0 hx, _, lc_lockOf hQ hP w, fun y μ2 h r3 r4 => ?_⟩⟩
    cases q
    obtain ⟨hy2, rfl⟩ := h
    by_cases z2 : 1 ≤ w.toInt ∧ w.toInt ≤ 16
    · rw [if_pos z2] at hy2 ⊢
      have hl : 1 ≤ w.toInt.toNat ∧ w.toInt.toNat ≤ 16 := by omega
      have hll := hP.lo (l := w.toInt.toNat) (by omega)
      obtain ⟨e1, e2⟩ := hP.h9.2.1.2 _ hl.1 hl.2
      obtain ⟨L, w1, w2, w3⟩ := hP.h9.2.2.1.2.1 _ hl.1 hl.2
      have hf : mj_M G my_L_firstInQueueOf mY_L_firstInQueueOf [va_rf (some (cD B 4 w.toInt.toNat)), va_rf (some (cD B 1 v.toInt.toNat))] (mj_nc μ2) (mj_ns μ2) μ2 (mj_XR (fun x μ' => x = cl_ref B 8 (enc (sp_fstc σ v.toInt.toNat w.toInt.toNat (σ 1 0))) ∧ μ' = μ2)) := by
        refine mj_of (by decide) rfl (by decide) (Nat.le_of_ble_eq_true rfl) rfl ⟨Nat.le_refl _, Nat.le_refl _⟩ ?_
        refine bk_L_firstInQueueOf_0 ⟨hQ.t4 hll, ?_⟩
        rw [hQ.r4_1 hll]
        refine rl_firstQ hQ hP v.toInt.toNat hk L _ w1 (fun t ht => ((w2 t).mp ht).1) ?_
        rw [qfst_fstc hl.1 w2 w3]
        exact ⟨⟨_, rfl, rfl, rfl⟩, rfl, rfl⟩
      have f65 : ¬ (σ 25 w.toInt.toNat ≠ 0 ∧ σ 3 (σ 25 w.toInt.toNat) = v.toInt.toNat) → ∃ P : Option Nat → mj_MM → Prop, mj_M G my_L_firstInQueueOf mY_L_firstInQueueOf [va_rf (some (cD B 4 w.toInt.toNat)), va_rf (some (cD B 1 v.toInt.toNat))] (mj_nc μ2) (mj_ns μ2) μ2 (mj_XR P) ∧ ∀ (x : Option Nat) (μ' : mj_MM), P x μ' → mj_nc μ' = mj_nc μ2 → mj_ns μ' = mj_ns μ2 → mj_J G mY_T_spin (fun v' μ' => mj_XI (fun x μ' => x = (if σ 25 w.toInt.toNat ≠ 0 ∧ σ 3 (σ 25 w.toInt.toNat) = v.toInt.toNat then nI (σ 25 w.toInt.toNat) else -nI (sp_fstc σ v.toInt.toNat w.toInt.toNat (σ 1 0))) ∧ μ' = μ2) v' μ' ∧ mj_nc μ' = mj_nc μ2 ∧ mj_ns μ' = mj_ns μ2) (mj_nc μ2) (mj_ns μ2) 65 [] [va_rf x] μ' := fun hno => by
        refine ⟨_, hf, fun x μ' h r5 r6 => ?_⟩
        obtain ⟨rfl, rfl⟩ := h
        rw [if_neg hno]
        rcases sp_fstc_spec σ v.toInt.toNat w.toInt.toNat (σ 1 0) with q | ⟨q1, -⟩
        · rw [q.1]
          exact bk_T_spin_65 ⟨fun _ => ⟨⟨_, rfl, rfl, rfl⟩, rfl, rfl⟩, fun b u => (by cases u)⟩
        · generalize sp_fstc σ v.toInt.toNat w.toInt.toNat (σ 1 0) = s at *
          have hks := hP.k q1
          rw [enc_s (by omega)]
          refine bk_T_spin_65 ⟨fun u => (by cases u), fun b u => ?_⟩
          cases u
          rw [hQ.i8_0 hks, (hP.h2 _ q1).1]
          exact ⟨hQ.t8 hks, ⟨_, rfl, rfl, rfl⟩, rfl, rfl⟩
      rw [hy2]
      refine bk_T_spin_19 ⟨fun q => (by cases q), fun b q => ?_⟩
      cases q
      rw [hQ.r4_0 hll, e1]
      refine ⟨hQ.t4 hll, ?_⟩
      by_cases q : σ 25 w.toInt.toNat = 0
      · rw [show enc (σ 25 w.toInt.toNat) = 0 by rw [q]; rfl]
        exact ⟨fun _ => f65 (fun u => u.1 q), fun b u => (by cases u)⟩
      · have ht : 1 ≤ σ 25 w.toInt.toNat ∧ σ 25 w.toInt.toNat ≤ σ 1 0 := ⟨by omega, e2 q⟩
        have hkt := hP.k ht
        obtain ⟨a1, -, a3, -, -, -, -, a8⟩ := hP.h2 _ ht
        have ei : (cl_ref B 1 (σ 3 (σ 25 w.toInt.toNat) + 1) = some (cD B 1 v.toInt.toNat)) = (σ 3 (σ 25 w.toInt.toNat) = v.toInt.toNat) := by
          rw [show some (cD B 1 v.toInt.toNat) = cl_ref B 1 (v.toInt.toNat + 1) from rfl, cl_ref_inj hQ.1 (v := σ 3 (σ 25 w.toInt.toNat) + 1) (w := v.toInt.toNat + 1) (Or.inr (hP.co a8)) (Or.inr hck)]
          apply propext
          omega
        rw [enc_s q]
        refine ⟨fun u => (by cases u), fun b u => ?_⟩
        cases u
        rw [hQ.r8_2 hkt, a3, ei, hQ.i8_0 hkt, a1]
        refine ⟨hQ.t8 hkt, fun u => f65 (fun y => u y.2), fun u => ?_⟩
        rw [if_pos ⟨q, u⟩]
        exact ⟨⟨_, rfl, rfl, rfl⟩, rfl, rfl⟩
    · rw [if_neg z2] at hy2 ⊢
      rw [hy2]
      exact bk_T_spin_19 ⟨fun _ => ⟨⟨_, rfl, rfl, rfl⟩, rfl, rfl⟩, fun b q => (by cases q)⟩
  · rw [if_neg z] at hy ⊢
    rw [hy]
    exact bk_T_spin_5 ⟨fun _ => ⟨⟨_, rfl, rfl, rfl⟩, rfl, rfl⟩, fun b q => (by cases q)⟩
end CY
