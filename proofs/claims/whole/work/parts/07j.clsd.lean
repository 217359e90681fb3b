theorem ss_id {σ : ss_S} {f i v : Nat} (h : σ f i = v) : ss_u σ f i v = σ := by
  funext g j
  unfold ss_u
  split
  · split
    · rename_i h1 h2
      rw [h1, h2]
      exact h.symm
    · rfl
  · rfl
def cc_r (c : cc_S) (K p : Nat) (f : Nat → Nat) : cc_S := fun K' p' i' => if K' = K then (if p' = p then f i' else c K' p' i') else c K' p' i'
def cs_un (c : cc_S) : List Nat → cc_S
  | [] => c
  | r :: L => cs_un (cc_u c 7 1 r 0) L
theorem cs_un_eq : ∀ (L : List Nat) (c : cc_S), cs_un c L = cc_r c 7 1 (fun r => if r ∈ L then 0 else c 7 1 r) := by
  intro L
  induction L with
  | nil =>
    intro c
    funext K p i
    show c K p i = _
    unfold cc_r
    split
    · split
      · rename_i h1 h2
        rw [h1, h2]
        show _ = if i ∈ ([] : List Nat) then 0 else c 7 1 i
        rw [if_neg (by simp)]
      · rfl
    · rfl
  | cons r L ih =>
    intro c
    show cs_un (cc_u c 7 1 r 0) L = _
    rw [ih]
    funext K p i
    unfold cc_r
    by_cases h1 : K = 7
    · by_cases h2 : p = 1
      · subst h1 h2
        show (if i ∈ L then 0 else cc_u c 7 1 r 0 7 1 i) = if i ∈ r :: L then 0 else c 7 1 i
        rw [cc_ue]
        by_cases h3 : i ∈ L
        · rw [if_pos h3, if_pos (List.mem_cons_of_mem _ h3)]
        · rw [if_neg h3]
          by_cases h4 : i = r
          · rw [if_pos h4, if_pos (by rw [h4]; exact List.mem_cons_self ..)]
          · rw [if_neg h4, if_neg (fun z => (List.mem_cons.mp z).elim h4 h3)]
      · rw [if_pos h1, if_neg h2, if_pos h1, if_neg h2, cc_up _ _ _ _ _ _ h2]
    · rw [if_neg h1, if_neg h1, cc_uk _ _ _ _ _ _ h1]
section CD
variable {G : mj_G} {B : cl_B} {e t0 t1 b : Nat} {σ : ss_S} {c : cc_S} {μ μ0 : mj_MM} {Ex : Option Value → mj_MM → Prop} {N S : Nat}
theorem r5.off (h : r5 σ c) (t v : Nat) (ht : 1 ≤ t ∧ t ≤ σ 1 0) (h3 : σ 3 t < σ 0 0) (h0 : σ 11 t = 2) (h19 : σ 19 t = 0) (hv : v ≠ 2) : r5 (ss_u σ 11 t v) (cc_u c 1 4 (σ 3 t) 0) := by
  obtain ⟨h5a, h5b, h5c, h5d, h5e⟩ := h
  have hr := (h5a t ht).mp h0
  refine ⟨fun t' ht' => ?_, fun k hk => ?_, fun k hk hz => ?_, fun t' ht' hs => ?_, fun t' ht' hs => ?_⟩
  · show ss_u σ 11 t v 11 t' = 2 ↔ cc_u c 1 4 (σ 3 t) 0 1 4 (σ 3 t') = t' + 1
    rw [ss_ue, cc_ue]
    by_cases q : t' = t
    · rw [if_pos q, if_pos (by rw [q])]
      exact ⟨fun z => absurd z hv, fun z => by omega⟩
    · rw [if_neg q]
      by_cases q2 : σ 3 t' = σ 3 t
      · rw [if_pos q2, h5a t' ht', q2, hr]
        exact ⟨fun z => by omega, fun z => by omega⟩
      · rw [if_neg q2]
        exact h5a t' ht'
  · show cc_u c 1 4 (σ 3 t) 0 1 4 k = 0 ∨ ∃ t', (1 ≤ t' ∧ t' ≤ σ 1 0) ∧ cc_u c 1 4 (σ 3 t) 0 1 4 k = t' + 1 ∧ σ 3 t' = k
    rw [cc_ue]
    by_cases q : k = σ 3 t
    · rw [if_pos q]
      exact Or.inl rfl
    · rw [if_neg q]
      exact h5b k hk
  · have hz2 : cc_u c 1 4 (σ 3 t) 0 1 4 k = 0 := hz
    rw [cc_ue] at hz2
    show c 1 6 k = 0
    by_cases q : k = σ 3 t
    · rw [q, h5d t ht h0]
      exact h19
    · rw [if_neg q] at hz2
      exact h5c k hk hz2
  · have hs2 : ss_u σ 11 t v 11 t' = 2 := hs
    rw [ss_ue] at hs2
    by_cases q : t' = t
    · rw [if_pos q] at hs2
      exact absurd hs2 hv
    · rw [if_neg q] at hs2
      exact h5d t' ht' hs2
  · have hs2 : ss_u σ 11 t v 11 t' ≠ 2 := hs
    rw [ss_ue] at hs2
    by_cases q : t' = t
    · show σ 19 t' = 0
      rw [q]
      exact h19
    · rw [if_neg q] at hs2
      exact h5e t' ht' hs2
theorem r16.un : ∀ (L : List Nat) (c : cc_S), r16 B c → (∀ r ∈ L, cL B 7 r) → r16 B (cs_un c L) := by
  intro L
  induction L with
  | nil => exact fun c h _ => h
  | cons r L ih => exact fun c h hl => ih _ (h.u 7 1 r 0 (Or.inl (hl r (List.mem_cons_self ..)))) (fun x hx => hl x (List.mem_cons_of_mem _ hx))
/-- all resources of a task given back -/
theorem REP.frR (hP : REP B e t0 t1 σ c) (t : Nat) (ht : 1 ≤ t ∧ t ≤ σ 1 0) (L : List Nat) (hm : ∀ r, r ∈ L ↔ (1 ≤ r ∧ r ≤ 32) ∧ σ 22 r = t) : REP B e t0 t1 (sp_frR σ t 32) (cc_u (cs_un c L) 8 15 t 0) := by
  have hks := hP.k ht
  have hr7 : ∀ r ∈ L, cL B 7 r := fun r hr => hP.re (by have := ((hm r).mp hr).1; omega)
  obtain ⟨hb, h1, h2, h3, h4, h5, h6, h7, h8, h9, h10, h11, h12, h13, h14, h15, h16⟩ := hP
  have h16' : r16 B (cs_un c L) := r16.un L c h16 hr7
  rw [cs_un_eq] at h16' ⊢
  rw [sp_frR_eq]
  refine ⟨hb, h1, h2, h3, h4, h5, h6, h7, ⟨fun r g1 g2 => ?_, h8.2.1, fun t' ht' => ?_⟩, h9, h10, h11, h12, h13, h14, h15, h16'.u 8 15 t _ (Or.inl hks)⟩
  · show (if r ∈ L then 0 else c 7 1 r) = enc (if (1 ≤ r ∧ r ≤ 32) ∧ σ 22 r = t then 0 else σ 22 r) ∧ ((if (1 ≤ r ∧ r ≤ 32) ∧ σ 22 r = t then 0 else σ 22 r) ≠ 0 → (if (1 ≤ r ∧ r ≤ 32) ∧ σ 22 r = t then 0 else σ 22 r) ≤ σ 1 0)
    by_cases q : r ∈ L
    · rw [if_pos q, if_pos ((hm r).mp q)]
      exact ⟨rfl, fun z => absurd rfl z⟩
    · rw [if_neg q, if_neg (fun z => q ((hm r).mpr z))]
      exact h8.1 r g1 g2
  · obtain ⟨L', w1, w2, w3⟩ := h8.2.2 t' ht'
    show ∃ L'', ch (c 7 2) (cc_u (cc_r c 7 1 _) 8 15 t 0 8 15 t') L'' ∧ (∀ r, r ∈ L'' ↔ (1 ≤ r ∧ r ≤ 32) ∧ (if (1 ≤ r ∧ r ≤ 32) ∧ σ 22 r = t then 0 else σ 22 r) = t') ∧ L''.Pairwise (fun a b => σ 23 b < σ 23 a)
    rw [cc_ue]
    by_cases q : t' = t
    · rw [if_pos q]
      refine ⟨[], rfl, fun r => ?_, List.Pairwise.nil⟩
      refine ⟨fun z => (by cases z), fun z => ?_⟩
      exfalso
      by_cases y : (1 ≤ r ∧ r ≤ 32) ∧ σ 22 r = t
      · rw [if_pos y] at z
        omega
      · rw [if_neg y] at z
        exact y ⟨z.1, z.2.trans q⟩
    · rw [if_neg q]
      refine ⟨L', w1, fun r => ?_, w3⟩
      rw [w2 r]
      by_cases y : (1 ≤ r ∧ r ≤ 32) ∧ σ 22 r = t
      · rw [if_pos y]
        exact ⟨fun z => absurd (z.2.symm.trans y.2) q, fun z => by omega⟩
      · rw [if_neg y]
theorem rl_frR (hx : cL B 0 0) (t : Nat) (w : Int32) (ht : cL B 8 t) (a3 : cL B 10 3) (n3 : cN B 10 3 = 17) : ∀ (L : List Nat) (v : Nat) (c : cc_S) (μ : mj_MM), c 0 3 0 = 4 → ch (c 7 2) v L → (∀ r ∈ L, cL B 7 r) → cl_Q B c μ0 μ →
    (∀ μ', cl_Q B (cc_u (cs_un c L) 8 15 t 0) μ0 μ' → mj_nc μ' = mj_nc μ → mj_ns μ' = mj_ns μ → mj_J G mY_T_freeAll Ex N S 59 [(0, va_rf (some (cD B 0 0))), (1, va_rf (some (cD B 8 t))), (2, .int w), (3, va_rf (some (cD B 10 3))), (4, .int (nI 17)), (5, .int 0)] [] μ') →
    mj_J G mY_T_freeAll Ex N S 25 [(0, va_rf (some (cD B 0 0))), (1, va_rf (some (cD B 8 t))), (2, .int w), (3, va_rf (cl_ref B 7 v))] [] μ := by
  intro L
  induction L with
  | nil =>
    intro v c μ e3 hc hl hQ he
    have hv : v = 0 := hc
    subst hv
    have e4 : mj_r μ (cD B 0 0) 3 = some (cD B 10 3) := by rw [hQ.r0_3 hx, e3]; rfl
    have en : mj_n μ (cD B 10 3) = 17 := by rw [(hQ.1.2.2.1 10 3 a3 (by decide)).1, n3]
    refine bk_T_freeAll_25 ⟨fun _ => ⟨_, rfl, hQ.t8 ht, hQ.t0 hx, _, e4, hQ.ta3 a3, ?_⟩, fun b z => by cases z⟩
    rw [e4, en]
    exact he _ (hQ.pR 8 15 t 0 ht (by decide) (by decide) (Or.inl rfl)) rfl rfl
  | cons r L ih =>
    intro v c μ e3 hc hl hQ he
    obtain ⟨hv, hc⟩ := hc
    subst hv
    have hr := hl r (List.mem_cons_self ..)
    refine bk_T_freeAll_25 ⟨fun z => (by cases z), fun b z => ?_⟩
    cases z
    refine ⟨hQ.t7 hr, ?_⟩
    rw [hQ.r7_2 hr]
    exact ih (c 7 2 r) (cc_u c 7 1 r 0) _ e3 hc (fun x hx => hl x (List.mem_cons_of_mem _ hx)) (hQ.pR 7 1 r 0 hr (by decide) (by decide) (Or.inl rfl)) he
theorem sp_unlock_26 (σ : ss_S) (l t : Nat) (h : σ 26 t = 0) : sp_unlock σ l 26 t = 0 := by
  unfold sp_unlock
  split
  · exact h
  · show ss_u _ 26 (sp_fst σ l (σ 1 0)) 0 26 t = 0
    rw [ss_ue]
    split
    · rfl
    · exact h
theorem sp_freeL_26 (σ : ss_S) (t : Nat) (h : σ 26 t = 0) : ∀ n, sp_freeL σ t n 26 t = 0 := by
  intro n
  induction n with
  | zero => exact h
  | succ n ih =>
    unfold sp_freeL
    split
    · exact sp_unlock_26 _ _ _ ih
    · exact ih
theorem sp_unlock_25 (σ : ss_S) (l l' : Nat) (h : l' ≠ l) : sp_unlock σ l 25 l' = σ 25 l' := by
  unfold sp_unlock
  split
  · rw [ss_ui _ _ _ _ h]
  · show ss_u (ss_u σ 25 l 0) 25 l _ 25 l' = _
    rw [ss_ui _ _ _ _ h, ss_ui _ _ _ _ h]
theorem sp_unlock_25s (σ : ss_S) (l t : Nat) (hl : l ≠ 0) (ht : t ≠ 0) (h : σ 26 t = 0) : sp_unlock σ l 25 l ≠ t := by
  unfold sp_unlock
  split
  · rw [ss_us]
    exact Ne.symm ht
  · rename_i q
    show ss_u (ss_u σ 25 l 0) 25 l _ 25 l ≠ t
    rw [ss_us]
    rcases sp_fst_spec σ l (σ 1 0) with z | z
    · exact absurd z.1 q
    · intro y
      rw [y] at z
      omega
theorem sp_freeL_25 (σ : ss_S) (t : Nat) (ht : t ≠ 0) (h : σ 26 t = 0) : ∀ n l, 1 ≤ l → l ≤ n → sp_freeL σ t n 25 l ≠ t := by
  intro n
  induction n with
  | zero => exact fun l h1 h2 => by omega
  | succ n ih =>
    intro l h1 h2
    unfold sp_freeL
    split
    · by_cases q : l = n + 1
      · rw [q]
        exact sp_unlock_25s _ _ _ (by omega) ht (sp_freeL_26 σ t h n)
      · rw [sp_unlock_25 _ _ _ q]
        exact ih l h1 (by omega)
    · rename_i z
      by_cases q : l = n + 1
      · rw [q]
        exact z
      · exact ih l h1 (by omega)
theorem rl_frL (t : Nat) (w : Int32) (ht : 1 ≤ t ∧ t ≤ σ 1 0) (h26 : σ 26 t = 0) (h01 : t1 = 0 ∨ t1 = t) (he : ∀ c' μ', cl_Q B c' μ0 μ' → REP B e t t1 (sp_freeL σ t 16) c' → mj_nc μ' = mj_nc μ0 → mj_ns μ' = mj_ns μ0 → mj_J G mY_T_freeAll Ex N S 59 [(0, va_rf (some (cD B 0 0))), (1, va_rf (some (cD B 8 t))), (2, .int w), (3, va_rf (some (cD B 10 3))), (4, .int (nI 17)), (5, .int (nI 17))] [] μ') :
    ∀ d i c μ, i + d = 17 → cl_Q B c μ0 μ → REP B e t t1 (sp_freeL σ t (i - 1)) c → mj_nc μ = mj_nc μ0 → mj_ns μ = mj_ns μ0 → mj_J G mY_T_freeAll Ex N S 59 [(0, va_rf (some (cD B 0 0))), (1, va_rf (some (cD B 8 t))), (2, .int w), (3, va_rf (some (cD B 10 3))), (4, .int (nI 17)), (5, .int (nI i))] [] μ := by
  intro d
  induction d with
  | zero =>
    intro i c μ hi hQ hP r1 r2
    have : i = 17 := by omega
    subst this
    exact he c μ hQ hP r1 r2
  | succ d ih =>
    intro i c μ hi hQ hP r1 r2
    have a3 : cL B 10 3 := hP.b.2.2.1.2.2.2
    have n3 : cN B 10 3 = 17 := hP.b.2.2.2.1.2.2.2
    have hll := hP.lo (l := i) (by omega)
    have ea : mj_r μ (cD B 10 3) i = some (cD B 4 i) := by
      rw [hQ.e3 a3 (by omega), hP.h1.2.2.2.2.2 i (by omega)]
      rfl
    have en : mj_n μ (cD B 10 3) = 17 := by rw [(hQ.1.2.2.1 10 3 a3 (by decide)).1, n3]
    have e1 : sp_freeL σ t (i - 1) 1 0 = σ 1 0 := sp_freeL_f σ t 1 0 (by decide) _
    have hkt : cL B 8 t := hP.k (by rw [e1]; exact ht)
    have eo : mj_r μ (cD B 4 i) 0 = cl_ref B 8 (c 4 0 i) := hQ.r4_0 hll
    have tgt := hQ.l4_0 hll
    refine bk_T_freeAll_59 ⟨fun z => absurd z (by rw [mj_le (by omega) (by omega)]; omega), fun _ => ⟨_, rfl, hQ.ta3 a3, by rw [en]; exact vp_in_nI (by omega) (by decide), ?_⟩⟩
    rw [nI_clamp (by omega)]
    refine ⟨_, ea, hQ.t4 hll, ?_⟩
    rw [eo, show some (cD B 8 t) = cl_ref B 8 (t + 1) from rfl, cl_ref_inj hQ.1 (w := t + 1) tgt (Or.inr hkt)]
    have step : ∀ c' μ', cl_Q B c' μ0 μ' → REP B e t t1 (sp_freeL σ t i) c' → mj_nc μ' = mj_nc μ0 → mj_ns μ' = mj_ns μ0 → mj_J G mY_T_freeAll Ex N S 86 [(0, va_rf (some (cD B 0 0))), (1, va_rf (some (cD B 8 t))), (2, .int w), (3, va_rf (some (cD B 10 3))), (4, .int (nI 17)), (5, .int (nI i))] [] μ' := by
      intro c' μ' g1 g2 g3 g4
      refine bk_T_freeAll_86 ?_
      rw [nI_1]
      exact ih (i + 1) c' μ' (by omega) g1 g2 g3 g4
    cases i with
    | zero =>
      have e0 : c 4 0 0 = 0 := hP.h9.2.1.1
      refine ⟨fun _ => step c μ hQ hP r1 r2, fun z => by omega⟩
    | succ n =>
      have hn : n + 1 - 1 = n := rfl
      rw [hn] at hP e1
      have eb := (hP.h9.2.1.2 (n + 1) (by omega) (by omega)).1
      have ei : (c 4 0 (n + 1) = t + 1) = (sp_freeL σ t n 25 (n + 1) = t) := by
        rw [eb]
        unfold enc
        apply propext
        split <;> omega
      rw [ei]
      refine ⟨fun q => step c μ hQ ?_ r1 r2, fun q => ⟨_, lc_handOn hQ hP (n + 1) (by omega) q (sp_freeL_26 σ t h26 n) h01, fun μ' h r3 r4 => ?_⟩⟩
      · unfold sp_freeL
        rw [if_neg q]
        exact hP
      · obtain ⟨c', g1, g2⟩ := h
        refine step c' μ' g1 ?_ (r3.trans r1) (r4.trans r2)
        unfold sp_freeL
        rw [if_pos q]
        exact g2
theorem lc_freeAll (hQ : cl_Q B c μ0 μ) (hP : REP B e 0 t1 σ c) (t : Nat) (ht : 1 ≤ t ∧ t ≤ σ 1 0) (h26 : σ 26 t = 0) (h01 : t1 = 0 ∨ t1 = t) : mj_M G my_T_freeAll mY_T_freeAll [va_rf (some (cD B 0 0)), va_rf (some (cD B 8 t))] (mj_nc μ) (mj_ns μ) μ (mj_XI (fun x μ' => x = nI (sp_held σ t) ∧ CR B e 0 t1 (sp_fr3 σ t) μ0 μ')) := by
  have hx := hP.x
  have hkt := hP.k ht
  have hu := hP.u
  have a3 : cL B 10 3 := hP.b.2.2.1.2.2.2
  have n3 : cN B 10 3 = 17 := hP.b.2.2.2.1.2.2.2
  have e3 : c 0 3 0 = 4 := hP.h1.1.2.2.2.1
  obtain ⟨L, w1, w2, w3⟩ := hP.h8.2.2 t ht
  have e16 : c 8 16 t = lcn (σ 25) t 16 := hP.h9.1 t ht (by omega)
  have b16 := lcn_le (σ 25) t 16
  have hL7 : ∀ r ∈ L, cL B 7 r := fun r hr => hP.re (by have := ((w2 r).mp hr).1; omega)
  refine mj_of (by decide) rfl (by decide) (Nat.le_of_ble_eq_true rfl) rfl ⟨Nat.le_refl _, Nat.le_refl _⟩ ?_
  have go : ∀ x : Nat, x = (if sp_holds σ t ≠ 0 then 1 else 0) → mj_J G mY_T_freeAll (fun v μ' => mj_XI (fun x μ' => x = nI (sp_held σ t) ∧ CR B e 0 t1 (sp_fr3 σ t) μ0 μ') v μ' ∧ mj_nc μ' = mj_nc μ ∧ mj_ns μ' = mj_ns μ) (mj_nc μ) (mj_ns μ) 25 [(0, va_rf (some (cD B 0 0))), (1, va_rf (some (cD B 8 t))), (2, .int (nI x)), (3, va_rf (cl_ref B 7 (c 8 15 t)))] [] μ := by
    intro x hx1
    refine rl_frR (μ0 := μ0) hx t (nI x) hkt a3 n3 L (c 8 15 t) c μ e3 w1 hL7 hQ (fun μ1 hQ1 r1 r2 => ?_)
    have hP1 := hP.frR t ht L w2
    have hs : sp_freeL (sp_frR σ t 32) t 16 = sp_fr2 σ t := rfl
    have hP1' : REP B e t t1 (sp_frR σ t 32) (cc_u (cs_un c L) 8 15 t 0) := by
      obtain ⟨hb, h1, h2, h3, h4, h5, h6, h7, h8, ⟨h9a, h9b, h9c, h9d⟩, h10, h11, h12, h13, h14, h15, h16⟩ := hP1
      exact ⟨hb, h1, h2, h3, h4, h5, h6, h7, h8, ⟨fun t' g1 g2 => h9a t' g1 (by omega), h9b, h9c, h9d⟩, h10, h11, h12, h13, h14, h15, h16⟩
    have e1 : sp_frR σ t 32 1 0 = σ 1 0 := sp_frR_f σ t 1 0 (by decide) _
    have e26 : sp_frR σ t 32 26 t = 0 := by rw [sp_frR_f σ t 26 t (by decide)]; exact h26
    refine rl_frL (σ := sp_frR σ t 32) (μ0 := μ1) (e := e) (t1 := t1) t (nI x) (by rw [e1]; exact ht) e26 h01 (fun c2 μ2 hQ2 hP2 r3 r4 => ?_) 17 0 _ μ1 (by omega) ⟨hQ1.1, hQ1.1.self.2⟩ hP1' rfl rfl
    rw [hs] at hP2
    have hQ2 := hQ1.trans hQ2
    have e29 : sp_fr2 σ t 29 0 = σ 29 0 := by rw [← hs, sp_freeL_f _ _ _ _ (by decide), sp_frR_f _ _ _ _ (by decide)]
    have e10 : sp_fr2 σ t 1 0 = σ 1 0 := by rw [← hs, sp_freeL_f _ _ _ _ (by decide), sp_frR_f _ _ _ _ (by decide)]
    have n25 : ∀ l, 1 ≤ l → l ≤ 16 → sp_fr2 σ t 25 l ≠ t := sp_freeL_25 (sp_frR σ t 32) t (by omega) e26 16
    have e3' : sp_fr3 σ t = ss_u (sp_fr2 σ t) 29 0 (if sp_fr2 σ t 29 0 = t then 0 else sp_fr2 σ t 29 0) := rfl
    rw [e3']
    clear e3' hs
    generalize sp_fr2 σ t = τ at hP2 e29 e10 n25 ⊢
    have e4 : c2 0 4 0 = 1 := hP2.h1.1.2.2.2.2.1
    have eo : c2 3 2 0 = enc (τ 29 0) := hP2.h10.2.2.1
    have eR : mj_r μ2 (cD B 0 0) 4 = some (cD B 3 0) := by rw [hQ2.r0_4 hx, e4]; rfl
    have eO : (mj_r μ2 (cD B 3 0) 2 = some (cD B 8 t)) = (σ 29 0 = t) := by
      rw [hQ2.r3_2 hu, show some (cD B 8 t) = cl_ref B 8 (t + 1) from rfl, cl_ref_inj hQ2.1 (w := t + 1) (hQ2.l3_2 hu) (Or.inr hkt), eo, e29]
      unfold enc
      apply propext
      split <;> omega
    have hQ3 := hQ2.pI 8 16 t 0 hkt (by decide) (by decide)
    have hP3 : REP B e 0 t1 τ (cc_u c2 8 16 t 0) := by
      obtain ⟨hb, h1, h2, h3, h4, h5, h6, h7, h8, ⟨h9a, h9b, h9c, h9d⟩, h10, h11, h12, h13, h14, h15, h16⟩ := hP2
      refine ⟨hb, h1, h2, h3, h4, h5, h6, h7, h8, ⟨fun t' g1 g2 => ?_, h9b, h9c, h9d⟩, h10, h11, h12, h13, h14, h15, h16.u 8 16 t _ (Or.inl hkt)⟩
      rw [cc_ue]
      by_cases q : t' = t
      · rw [if_pos q, q]
        exact ((lcn_0 _ _ _).mpr n25).symm
      · rw [if_neg q]
        exact h9a t' g1 q
    refine bk_T_freeAll_59 ⟨fun _ => ⟨_, rfl, hQ2.t8 hkt, hQ2.t0 hx, _, eR, hQ2.t3 hu, ?_⟩, fun z => absurd (by decide) z⟩
    rw [eO]
    unfold sp_held
    refine ⟨fun q => ⟨?_, ⟨_, rfl, ?_, _, hQ3, ?_⟩, r3.trans r1, r4.trans r2⟩, fun q => ⟨⟨_, rfl, ?_, _, hQ3.pR 3 2 0 0 hu (by decide) (by decide) (Or.inl rfl), ?_⟩, r3.trans r1, r4.trans r2⟩⟩
    · rw [hx1]
      split
      · exact Or.inr rfl
      · exact Or.inl rfl
    · rw [hx1]
      by_cases z : sp_holds σ t ≠ 0
      · rw [if_pos z, if_pos (Or.inl z)]
      · rw [if_neg z, if_neg (fun y => y.elim z q)]
    · rw [e29, if_neg q, ← e29, ss_id rfl]
      exact hP3
    · rw [if_pos (Or.inr q)]
      rfl
    · rw [e29, if_pos q]
      obtain ⟨hb, h1, h2, h3, h4, h5, h6, h7, h8, h9, h10, h11, h12, h13, h14, h15, h16⟩ := hP3
      exact ⟨hb, h1, h2, h3, h4, h5, h6, h7, h8, h9, ⟨h10.1, h10.2.1, rfl, fun z => absurd rfl z, h10.2.2.2.2⟩, h11, h12, h13, h14, h15, h16.u 3 2 0 _ (Or.inl hu)⟩
  have hiff := sp_holds_iff σ t
  refine bk_T_freeAll_0 ?_
  simp (disch := first | decide | assumption | omega) only [hQ.t0, hQ.t1, hQ.t2, hQ.t3, hQ.t4, hQ.t5, hQ.t6, hQ.t7, hQ.t8, hQ.t9, hQ.ta0, hQ.ta1, hQ.ta2, hQ.ta3, hQ.tb, hQ.e0, hQ.e1, hQ.e2, hQ.e3, hQ.i0_8, hQ.i0_9, hQ.i0_10, hQ.i0_11, hQ.i0_12, hQ.r0_0, hQ.r0_1, hQ.r0_2, hQ.r0_3, hQ.r0_4, hQ.r0_5, hQ.r0_6, hQ.r0_7, hQ.i1_0, hQ.i1_5, hQ.i1_6, hQ.r1_1, hQ.r1_2, hQ.r1_3, hQ.r1_4, hQ.i2_0, hQ.i2_1, hQ.i2_2, hQ.r2_3, hQ.i3_1, hQ.i3_3, hQ.r3_0, hQ.r3_2, hQ.r4_0, hQ.r4_1, hQ.i5_1, hQ.i5_2, hQ.r5_0, hQ.i6_0, hQ.i6_1, hQ.r6_2, hQ.i7_0, hQ.r7_1, hQ.r7_2, hQ.i8_0, hQ.i8_1, hQ.i8_3, hQ.i8_4, hQ.i8_5, hQ.i8_8, hQ.i8_9, hQ.i8_10, hQ.i8_11, hQ.i8_12, hQ.i8_13, hQ.i8_14, hQ.i8_16, hQ.r8_2, hQ.r8_6, hQ.r8_7, hQ.r8_15, hQ.r8_17, hQ.r8_18, hQ.i9_1, hQ.r9_0, hQ.r9_2, Option.some.injEq, exists_eq_left', nI_clamp, nI_1, mj_vin, true_and, eq_self, e16, mj_le0]
  have lem : (c 8 15 t = 0 ∧ lcn (σ 25) t 16 = 0) ↔ ¬ sp_holds σ t ≠ 0 := by
    rw [hiff, lcn_0]
    constructor
    · intro h z
      rcases z with ⟨r, g1, g2, g3⟩ | ⟨l, g1, g2, g3⟩
      · have := (w2 r).mpr ⟨⟨g1, g2⟩, g3⟩
        cases L with
        | nil => cases this
        | cons y L =>
          have := w1.1
          omega
      · exact h.2 l g1 g2 g3
    · intro h
      refine ⟨?_, fun l g1 g2 g3 => h (Or.inr ⟨l, g1, g2, g3⟩)⟩
      cases L with
      | nil => exact w1
      | cons y L =>
        have := (w2 y).mp (List.mem_cons_self ..)
        exact absurd (Or.inl ⟨y, this.1.1, this.1.2, this.2⟩) h
  cases hc : c 8 15 t with
  | zero =>
    rw [hc] at go lem
    refine ⟨fun _ => ⟨fun q => ?_, fun q => ?_⟩, fun b z => by cases z⟩
    · exact go 0 (by rw [if_neg (lem.mp ⟨rfl, q⟩)])
    · exact go 1 (by rw [if_pos (Decidable.byContradiction fun z => q (lem.mpr z).2)])
  | succ r =>
    rw [hc] at go lem
    refine ⟨fun z => (by cases z), fun b z => ?_⟩
    exact go 1 (by rw [if_pos (Decidable.byContradiction fun z => absurd (lem.mpr z).1 (by omega))])
end CD
