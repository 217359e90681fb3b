theorem cc_ub {c : cc_S} {K p i v K' p' i' : Nat} (h : c K' p' i' < 2 ^ 31) (hv : v < 2 ^ 31) : cc_u c K p i v K' p' i' < 2 ^ 31 := by
  unfold cc_u
  split
  · split
    · split
      · exact hv
      · exact h
    · exact h
  · exact h
section TG
variable {G : mj_G} {B : cl_B} {σ τ : ss_S} {c : cc_S} {μ μ0 : mj_MM} {Ex : Option Value → mj_MM → Prop} {N S : Nat}
/-- a new array of objects -/
theorem cl_Q.newA (h : cl_Q B c μ0 μ) (j a n : Nat) (hj : j < 4) (hd : ¬ cL B 10 j) (ha : mj_t μ a = 0) (hz : ∀ i, c 10 j i = 0) (hn : cN B 10 j = n) (hn2 : n < 2 ^ 31) : cl_Q (cl_ext B 10 j a) c μ0 (mj_new μ a (1004 + j) n n) := by
  obtain ⟨⟨a1, a2, a3, a4, a5, a6, a7, a8, a9, a10⟩, f⟩ := h
  have ne : ∀ K' i', cL B K' i' → cD B K' i' ≠ a := fun K' i' hl z => by
    have := a1 K' i' hl
    rw [z, ha] at this
    exact cl_tag_pos K' i' this.symm
  refine ⟨⟨fun K' i' hl => ?_, fun K1 i1 K2 i2 h1 h2 he => ?_, fun K' i' hl hK' => ?_, fun K' p i' hl hp => ?_, fun K' p i' hl hp => ?_, fun j' i' hl hi => ?_, ?_, a8, fun b hb => ?_, fun j' hl => ?_⟩, fun b hb => ?_⟩
  · rcases hl with hl | ⟨rfl, rfl⟩
    · rw [xDl hd hl, mj_nwt (ne K' i' hl)]
      exact a1 K' i' hl
    · rw [xD, mj_nst]
      rfl
  · rcases h1 with h1 | ⟨rfl, rfl⟩
    · rw [xDl hd h1] at he
      rcases h2 with h2 | ⟨rfl, rfl⟩
      · rw [xDl hd h2] at he
        exact a2 K1 i1 K2 i2 h1 h2 he
      · rw [xD] at he
        exact absurd he (ne K1 i1 h1)
    · rw [xD] at he
      rcases h2 with h2 | ⟨rfl, rfl⟩
      · rw [xDl hd h2] at he
        exact absurd he.symm (ne K2 i2 h2)
      · exact ⟨rfl, rfl⟩
  · rcases hl with hl | ⟨rfl, rfl⟩
    · rw [xDl hd hl, mj_nwn (ne K' i' hl)]
      exact a3 K' i' hl hK'
    · rw [xD, mj_nsn]
      exact ⟨hn.symm, by show cN B 10 i' < 2 ^ 31; omega⟩
  · have := cl_isI_lt hp
    rcases hl with hl | ⟨rfl, rfl⟩
    · rw [xDl hd hl, mj_nwi (ne K' i' hl)]
      exact a4 K' p i' hl hp
    · omega
  · have := cl_tk_lt hp
    rcases hl with hl | ⟨rfl, rfl⟩
    · obtain ⟨g1, g2⟩ := a5 K' p i' hl hp
      rw [xDl hd hl, mj_nwr (ne K' i' hl), xref hd g2]
      exact ⟨g1, g2.imp id (fun z => Or.inl z)⟩
    · omega
  · rcases hl with hl | ⟨-, rfl⟩
    · obtain ⟨g1, g2⟩ := a6 j' i' hl hi
      rw [xDl hd hl, mj_nwr (ne 10 j' hl), xref hd g2]
      exact ⟨g1, g2.imp id (fun z => Or.inl z)⟩
    · rw [xD, mj_nsr, hz]
      exact ⟨rfl, Or.inl rfl⟩
  · have l5 : ∀ j', cL (cl_ext B 10 j a) 5 j' → cL B 5 j' := fun j' hl => hl.resolve_right (fun z => by omega)
    have e11 : ∀ j' b, cL B 11 j' → mj_r (mj_new μ a (1004 + j) n n) (cD (cl_ext B 10 j a) 11 j') b = mj_r μ (cD B 11 j') b := fun j' b hj => by rw [xDl hd hj, mj_nwr (ne 11 j' hj)]
    refine ⟨fun j' hj => ?_, fun j1 b j' b' x h1 h2 h3 h4 h5 h6 => ?_⟩
    · obtain ⟨g1, g2, g3, g4, g5⟩ := a7.1 j' (l5 j' hj)
      refine ⟨Or.inl g1, g2, g3, g4, fun b hb => ?_⟩
      rw [e11 j' b g1]
      rcases g5 b hb with z | ⟨x, z1, z2, z3, z4, z5, z6⟩
      · exact Or.inl z
      · have hxa : x ≠ a := fun y => by
          rw [y, ha] at z2
          omega
        exact Or.inr ⟨x, z1, by rw [mj_nwt hxa]; exact z2, by rw [mj_nwn hxa]; exact z3, z4, z5, fun i hi => by rw [mj_nwl hxa]; exact z6 i hi⟩
    · rw [e11 j1 b (a7.1 j1 (l5 j1 h1)).1] at h5
      rw [e11 j' b' (a7.1 j' (l5 j' h2)).1] at h6
      exact a7.2 j1 b j' b' x (l5 j1 h1) (l5 j' h2) h3 h4 h5 h6
  · have hba : b ≠ a := fun y => (a9 b hb).1 (by rw [y]; exact ha)
    refine ⟨by rw [mj_nwt hba]; exact (a9 b hb).1, fun K' i' hl => ?_⟩
    rcases hl with hl | ⟨rfl, rfl⟩
    · rw [xDl hd hl]
      exact (a9 b hb).2 K' i' hl
    · rw [xD]
      exact hba
  · rcases hl with hl | ⟨-, rfl⟩
    · exact a10 j' hl
    · exact hj
  · have hba : b ≠ a := fun y => (a9 b hb).1 (by rw [y]; exact ha)
    obtain ⟨f1, f2, f3, f4, f5⟩ := f b hb
    exact ⟨(mj_nwt hba).trans f1, (mj_nwn hba).trans f2, fun k => (mj_nwi hba k).trans (f3 k), fun k => (mj_nwr hba k).trans (f4 k), fun k => (mj_nwl hba k).trans (f5 k)⟩
/-- a new log with its array of blocks -/
theorem cl_Q.newG (h : cl_Q B c μ0 μ) (j a b cap : Nat) (hd5 : ¬ cL B 5 j) (hd11 : ¬ cL B 11 j) (ha : mj_t μ a = 0) (hb : mj_t μ b = 0) (hab : b ≠ a) (hz : ∀ p, c 5 p j = 0) (hz20 : ∀ i, c 20 j i = 0) (hn : cN B 11 j = cap / 512 + 1) (hcap : cap < 2 ^ 31) (hj : j + 1 < 2 ^ 31) :
    cl_Q (cl_ext (cl_ext B 5 j a) 11 j b) (cc_u (cc_u c 5 1 j cap) 5 0 j (j + 1)) μ0 (mj_pR (mj_new (mj_pI (mj_new μ a 6 0 3) a 1 (nI cap)) b 1008 (cap / 512 + 1) (cap / 512 + 1)) a 0 (some b)) := by
  obtain ⟨⟨a1, a2, a3, a4, a5, a6, a7, a8, a9, a10⟩, f⟩ := h
  have ne : ∀ K' i', cL B K' i' → cD B K' i' ≠ a ∧ cD B K' i' ≠ b := fun K' i' hl => ⟨fun z => by
    have := a1 K' i' hl
    rw [z, ha] at this
    exact cl_tag_pos K' i' this.symm, fun z => by
    have := a1 K' i' hl
    rw [z, hb] at this
    exact cl_tag_pos K' i' this.symm⟩
  have hd11' : ¬ cL (cl_ext B 5 j a) 11 j := fun z => hd11 (z.resolve_right (fun q => by omega))
  have D5 : cD (cl_ext (cl_ext B 5 j a) 11 j b) 5 j = a := (xDo _ 11 j b (by omega)).trans (xD B 5 j a)
  have D11 : cD (cl_ext (cl_ext B 5 j a) 11 j b) 11 j = b := xD _ 11 j b
  have Dl : ∀ {K i}, cL B K i → cD (cl_ext (cl_ext B 5 j a) 11 j b) K i = cD B K i := fun {K i} hl => (xDl hd11' (Or.inl hl : cL (cl_ext B 5 j a) K i)).trans (xDl hd5 hl)
  have rl : ∀ {T v}, (v = 0 ∨ cL B T (v - 1)) → cl_ref (cl_ext (cl_ext B 5 j a) 11 j b) T v = cl_ref B T v := fun {T v} hl => (xref hd11' (hl.imp id (fun z => Or.inl z))).trans (xref hd5 hl)
  have cases3 : ∀ {K i}, cL (cl_ext (cl_ext B 5 j a) 11 j b) K i → cL B K i ∨ (K = 5 ∧ i = j) ∨ (K = 11 ∧ i = j) := fun hl => by
    rcases hl with (hl | hl) | hl
    · exact Or.inl hl
    · exact Or.inr (Or.inl hl)
    · exact Or.inr (Or.inr hl)
  -- the memory
  have mt : ∀ x, x ≠ a → x ≠ b → mj_t (mj_pR (mj_new (mj_pI (mj_new μ a 6 0 3) a 1 (nI cap)) b 1008 (cap / 512 + 1) (cap / 512 + 1)) a 0 (some b)) x = mj_t μ x := fun x h1 h2 => by
    show mj_t (mj_new (mj_pI (mj_new μ a 6 0 3) a 1 (nI cap)) b 1008 (cap / 512 + 1) (cap / 512 + 1)) x = _
    rw [mj_nwt h2]
    show mj_t (mj_new μ a 6 0 3) x = _
    rw [mj_nwt h1]
  have mn : ∀ x, x ≠ a → x ≠ b → mj_n (mj_pR (mj_new (mj_pI (mj_new μ a 6 0 3) a 1 (nI cap)) b 1008 (cap / 512 + 1) (cap / 512 + 1)) a 0 (some b)) x = mj_n μ x := fun x h1 h2 => by
    show mj_n (mj_new (mj_pI (mj_new μ a 6 0 3) a 1 (nI cap)) b 1008 (cap / 512 + 1) (cap / 512 + 1)) x = _
    rw [mj_nwn h2]
    show mj_n (mj_new μ a 6 0 3) x = _
    rw [mj_nwn h1]
  have mi : ∀ x k, x ≠ a → x ≠ b → mj_i (mj_pR (mj_new (mj_pI (mj_new μ a 6 0 3) a 1 (nI cap)) b 1008 (cap / 512 + 1) (cap / 512 + 1)) a 0 (some b)) x k = mj_i μ x k := fun x k h1 h2 => by
    show mj_i (mj_new (mj_pI (mj_new μ a 6 0 3) a 1 (nI cap)) b 1008 (cap / 512 + 1) (cap / 512 + 1)) x k = _
    rw [mj_nwi h2, mj_ki h1, mj_nwi h1]
  have mr : ∀ x k, x ≠ a → x ≠ b → mj_r (mj_pR (mj_new (mj_pI (mj_new μ a 6 0 3) a 1 (nI cap)) b 1008 (cap / 512 + 1) (cap / 512 + 1)) a 0 (some b)) x k = mj_r μ x k := fun x k h1 h2 => by
    rw [mj_kr h1, mj_nwr h2]
    show mj_r (mj_new μ a 6 0 3) x k = _
    rw [mj_nwr h1]
  have ml : ∀ x k, x ≠ a → x ≠ b → mj_l (mj_pR (mj_new (mj_pI (mj_new μ a 6 0 3) a 1 (nI cap)) b 1008 (cap / 512 + 1) (cap / 512 + 1)) a 0 (some b)) x k = mj_l μ x k := fun x k h1 h2 => by
    show mj_l (mj_new (mj_pI (mj_new μ a 6 0 3) a 1 (nI cap)) b 1008 (cap / 512 + 1) (cap / 512 + 1)) x k = _
    rw [mj_nwl h2]
    show mj_l (mj_new μ a 6 0 3) x k = _
    rw [mj_nwl h1]
  have cco : ∀ K p i, ¬ (K = 5 ∧ i = j) → cc_u (cc_u c 5 1 j cap) 5 0 j (j + 1) K p i = c K p i := fun K p i hh => by
    unfold cc_u
    by_cases y : K = 5
    · have : i ≠ j := fun z => hh ⟨y, z⟩
      simp [y, this]
    · simp [y]
  refine ⟨⟨fun K' i' hl => ?_, fun K1 i1 K2 i2 h1 h2 he => ?_, fun K' i' hl hK' => ?_, fun K' p i' hl hp => ?_, fun K' p i' hl hp => ?_, fun j' i' hl hi => ?_, ?_, fun K p i hK => ?_, fun x hx => ?_, fun j' hl => ?_⟩, fun x hx => ?_⟩
  · rcases cases3 hl with hl | ⟨rfl, rfl⟩ | ⟨rfl, rfl⟩
    · rw [Dl hl, mt _ (ne _ _ hl).1 (ne _ _ hl).2]
      exact a1 K' i' hl
    · rw [D5]
      show mj_t (mj_new (mj_pI (mj_new μ a 6 0 3) a 1 (nI cap)) b 1008 (cap / 512 + 1) (cap / 512 + 1)) a = 6
      rw [mj_nwt (Ne.symm hab)]
      show mj_t (mj_new μ a 6 0 3) a = 6
      exact mj_nst
    · rw [D11]
      show mj_t (mj_new (mj_pI (mj_new μ a 6 0 3) a 1 (nI cap)) b 1008 (cap / 512 + 1) (cap / 512 + 1)) b = 1008
      exact mj_nst
  · have nea : ∀ K i, cL B K i → cD B K i ≠ a := fun K i hl => (ne K i hl).1
    have neb : ∀ K i, cL B K i → cD B K i ≠ b := fun K i hl => (ne K i hl).2
    rcases cases3 h1 with g1 | ⟨u1, u2⟩ | ⟨u1, u2⟩
    · rw [Dl g1] at he
      rcases cases3 h2 with g2 | ⟨v1, v2⟩ | ⟨v1, v2⟩
      · rw [Dl g2] at he
        exact a2 _ _ _ _ g1 g2 he
      · rw [v1, v2, D5] at he
        exact absurd he (nea _ _ g1)
      · rw [v1, v2, D11] at he
        exact absurd he (neb _ _ g1)
    · rw [u1, u2, D5] at he
      rcases cases3 h2 with g2 | ⟨v1, v2⟩ | ⟨v1, v2⟩
      · rw [Dl g2] at he
        exact absurd he.symm (nea _ _ g2)
      · exact ⟨u1.trans v1.symm, u2.trans v2.symm⟩
      · rw [v1, v2, D11] at he
        exact absurd he.symm hab
    · rw [u1, u2, D11] at he
      rcases cases3 h2 with g2 | ⟨v1, v2⟩ | ⟨v1, v2⟩
      · rw [Dl g2] at he
        exact absurd he.symm (neb _ _ g2)
      · rw [v1, v2, D5] at he
        exact absurd he hab
      · exact ⟨u1.trans v1.symm, u2.trans v2.symm⟩
  · rcases cases3 hl with hl | ⟨rfl, rfl⟩ | ⟨rfl, rfl⟩
    · rw [Dl hl, mn _ (ne _ _ hl).1 (ne _ _ hl).2]
      exact a3 K' i' hl hK'
    · omega
    · rw [D11]
      refine ⟨?_, ?_⟩
      · show mj_n (mj_new _ b 1008 (cap / 512 + 1) (cap / 512 + 1)) b = cN B 11 i'
        rw [mj_nsn, hn]
      · show cN B 11 i' < 2 ^ 31
        omega
  · have hK10 := cl_isI_lt hp
    rcases cases3 hl with hl | ⟨rfl, rfl⟩ | ⟨rfl, rfl⟩
    · rw [Dl hl, mi _ _ (ne _ _ hl).1 (ne _ _ hl).2, cco K' p i' (fun z => hd5 (by rw [← z.1, ← z.2]; exact hl))]
      exact a4 K' p i' hl hp
    · rw [D5]
      show mj_i (mj_new (mj_pI (mj_new μ a 6 0 3) a 1 (nI cap)) b 1008 (cap / 512 + 1) (cap / 512 + 1)) a p = _
      rw [mj_nwi (Ne.symm hab)]
      by_cases y : p = 1
      · subst y
        rw [mj_sI, cc_up _ _ _ _ _ _ (by decide), cc_us]
      · have e1 : mj_i (mj_pI (mj_new μ a 6 0 3) a 1 (nI cap)) a p = mj_i (mj_new μ a 6 0 3) a p := mj_pi0 y
        rw [e1, mj_nsi]
        have : cc_u (cc_u c 5 1 i' cap) 5 0 i' (i' + 1) 5 p i' = if p = 0 then i' + 1 else 0 := by
          unfold cc_u
          by_cases y0 : p = 0
          · simp [y0]
          · simp [y, y0, hz]
        rw [this]
        by_cases y0 : p = 0
        · subst y0
          exact absurd hp (by decide)
        · rw [if_neg y0]
          rfl
    · omega
  · have hK10 := cl_tk_lt hp
    rcases cases3 hl with hl | ⟨rfl, rfl⟩ | ⟨rfl, rfl⟩
    · obtain ⟨g1, g2⟩ := a5 K' p i' hl hp
      rw [Dl hl, mr _ _ (ne _ _ hl).1 (ne _ _ hl).2, cco K' p i' (fun z => hd5 (by rw [← z.1, ← z.2]; exact hl)), rl g2]
      exact ⟨g1, g2.imp id (fun z => Or.inl (Or.inl z))⟩
    · have hp0 : p = 0 := by
        apply Decidable.byContradiction
        intro y
        have : ∀ p, p < 20 → p ≠ 0 → ¬ cl_tk 5 p < 90 := by decide
        by_cases y2 : p < 20
        · exact this p y2 y hp
        · unfold cl_tk at hp
          have e20 : (([[10, 10, 10, 10, 3, 5, 5, 9, 99, 99, 99, 99, 99, 99, 99, 99, 99, 99, 99, 99], [99, 5, 8, 8, 8, 99, 99, 99, 99, 99, 99, 99, 99, 99, 99, 99, 99, 99, 99, 99], [99, 99, 99, 2, 99, 99, 99, 99, 99, 99, 99, 99, 99, 99, 99, 99, 99, 99, 99, 99], [2, 99, 8, 99, 99, 99, 99, 99, 99, 99, 99, 99, 99, 99, 99, 99, 99, 99, 99, 99], [8, 8, 99, 99, 99, 99, 99, 99, 99, 99, 99, 99, 99, 99, 99, 99, 99, 99, 99, 99], [11, 99, 99, 99, 99, 99, 99, 99, 99, 99, 99, 99, 99, 99, 99, 99, 99, 99, 99, 99], [99, 99, 6, 99, 99, 99, 99, 99, 99, 99, 99, 99, 99, 99, 99, 99, 99, 99, 99, 99], [99, 8, 7, 99, 99, 99, 99, 99, 99, 99, 99, 99, 99, 99, 99, 99, 99, 99, 99, 99], [99, 99, 1, 99, 99, 99, 6, 6, 99, 99, 99, 99, 99, 99, 99, 7, 99, 8, 8, 99], [8, 99, 9, 99, 99, 99, 99, 99, 99, 99, 99, 99, 99, 99, 99, 99, 99, 99, 99, 99]] : List (List Nat)).getD 5 []).length = 20 := by decide
          rw [List.getD_eq_getElem?_getD (i := p), List.getElem?_eq_none (by rw [e20]; omega)] at hp
          simp at hp
      subst hp0
      rw [D5, mj_sR, cc_us]
      refine ⟨?_, Or.inr (Or.inr ⟨rfl, rfl⟩)⟩
      show some b = some (cD _ 11 i')
      rw [D11]
    · omega
  · have hl' : cL B 10 j' := by
      rcases cases3 hl with hl | hl | hl
      · exact hl
      · omega
      · omega
    obtain ⟨g1, g2⟩ := a6 j' i' hl' hi
    rw [Dl hl', mr _ _ (ne _ _ hl').1 (ne _ _ hl').2, cco 10 j' i' (by omega), rl g2]
    exact ⟨g1, g2.imp id (fun z => Or.inl (Or.inl z))⟩
  · have l5 : ∀ j', j' ≠ j → cL (cl_ext (cl_ext B 5 j a) 11 j b) 5 j' → cL B 5 j' := fun j' hne hl => by
      rcases cases3 hl with hl | hl | hl
      · exact hl
      · exact absurd hl.2 hne
      · omega
    have lm : ∀ j', j' ≠ j → lg_m (cc_u (cc_u c 5 1 j cap) 5 0 j (j + 1)) j' = lg_m c j' := fun j' hne => by
      unfold lg_m
      rw [cco 5 2 j' (fun z => hne z.2), cco 5 1 j' (fun z => hne z.2)]
    have lmj : lg_m (cc_u (cc_u c 5 1 j cap) 5 0 j (j + 1)) j = 0 := by
      unfold lg_m
      have e2 : cc_u (cc_u c 5 1 j cap) 5 0 j (j + 1) 5 2 j = 0 := by
        show c 5 2 j = 0
        exact hz 2
      rw [e2]
      simp
    have e11 : ∀ j' k, cL B 11 j' → mj_r (mj_pR (mj_new (mj_pI (mj_new μ a 6 0 3) a 1 (nI cap)) b 1008 (cap / 512 + 1) (cap / 512 + 1)) a 0 (some b)) (cD (cl_ext (cl_ext B 5 j a) 11 j b) 11 j') k = mj_r μ (cD B 11 j') k := fun j' k hj => by rw [Dl hj, mr _ _ (ne _ _ hj).1 (ne _ _ hj).2]
    have ej : ∀ k, mj_r (mj_pR (mj_new (mj_pI (mj_new μ a 6 0 3) a 1 (nI cap)) b 1008 (cap / 512 + 1) (cap / 512 + 1)) a 0 (some b)) (cD (cl_ext (cl_ext B 5 j a) 11 j b) 11 j) k = none := fun k => by
      rw [D11, mj_kr hab, mj_nsr]
    refine ⟨fun j' hj' => ?_, fun j1 k1 j2 k2 x h1 h2 h3 h4 h5 h6 => ?_⟩
    · by_cases y : j' = j
      · subst y
        refine ⟨Or.inr ⟨rfl, rfl⟩, cc_us _ _ _ _ _, ?_, fun i _ => ?_, fun k hk => Or.inl ⟨ej k, by rw [lmj]; exact Nat.zero_le _⟩⟩
        · rw [cc_up _ _ _ _ _ _ (by decide), cc_us]
          exact hn
        · rw [cco 20 j' i (by omega)]
          exact hz20 i
      · obtain ⟨g1, g2, g3, g4, g5⟩ := a7.1 j' (l5 j' y hj')
        refine ⟨Or.inl (Or.inl g1), (cco 5 0 j' (fun z => y z.2)).trans g2, ?_, fun i hi => ?_, fun k hk => ?_⟩
        · rw [cco 5 1 j' (fun z => y z.2)]
          exact g3
        · rw [cco 20 j' i (by omega)]
          exact g4 i (by rw [← lm j' y]; exact hi)
        · rw [e11 j' k g1, lm j' y]
          rcases g5 k hk with z | ⟨x, z1, z2, z3, z4, z5, z6⟩
          · exact Or.inl z
          · have hxa : x ≠ a := fun u => by
              rw [u, ha] at z2
              omega
            have hxb : x ≠ b := fun u => by
              rw [u, hb] at z2
              omega
            exact Or.inr ⟨x, z1, by rw [mt x hxa hxb]; exact z2, by rw [mn x hxa hxb]; exact z3, z4, z5, fun i hi => by rw [ml x i hxa hxb, cco 20 j' _ (by omega)]; exact z6 i hi⟩
    · have y1 : j1 ≠ j := fun u => by
        rw [u, ej] at h5
        cases h5
      have y2 : j2 ≠ j := fun u => by
        rw [u, ej] at h6
        cases h6
      rw [e11 j1 k1 (a7.1 j1 (l5 j1 y1 h1)).1] at h5
      rw [e11 j2 k2 (a7.1 j2 (l5 j2 y2 h2)).1] at h6
      exact a7.2 j1 k1 j2 k2 x (l5 j1 y1 h1) (l5 j2 y2 h2) h3 h4 h5 h6
  · exact cc_ub (cc_ub (a8 K p i hK) hcap) hj
  · have hxa : x ≠ a := fun y => (a9 x hx).1 (by rw [y]; exact ha)
    have hxb : x ≠ b := fun y => (a9 x hx).1 (by rw [y]; exact hb)
    refine ⟨by rw [mt x hxa hxb]; exact (a9 x hx).1, fun K' i' hl => ?_⟩
    rcases cases3 hl with hl | ⟨rfl, rfl⟩ | ⟨rfl, rfl⟩
    · rw [Dl hl]
      exact (a9 x hx).2 K' i' hl
    · rw [D5]
      exact hxa
    · rw [D11]
      exact hxb
  · have hl' : cL B 10 j' := by
      rcases cases3 hl with hl | hl | hl
      · exact hl
      · omega
      · omega
    exact a10 j' hl'
  · have hxa : x ≠ a := fun y => (a9 x hx).1 (by rw [y]; exact ha)
    have hxb : x ≠ b := fun y => (a9 x hx).1 (by rw [y]; exact hb)
    obtain ⟨f1, f2, f3, f4, f5⟩ := f x hx
    exact ⟨(mt x hxa hxb).trans f1, (mn x hxa hxb).trans f2, fun k => (mi x k hxa hxb).trans (f3 k), fun k => (mr x k hxa hxb).trans (f4 k), fun k => (ml x k hxa hxb).trans (f5 k)⟩
theorem lc_Ginit (ν : mj_MM) (a cap : Nat) (ht : mj_t ν a = 6) (hcap : cap ≤ 400000) : mj_M G my_G_init mY_G_init [va_rf (some a), .int (nI cap)] (mj_nc ν + 1) (mj_ns ν + (cap / 512 + 1)) ν (mj_XV (fun μ' => ∃ b, mj_t ν b = 0 ∧ μ' = mj_pR (mj_new (mj_pI ν a 1 (nI cap)) b 1008 (cap / 512 + 1) (cap / 512 + 1)) a 0 (some b))) := by
  refine mj_of (by decide) rfl (by decide) (Nat.le_of_ble_eq_true rfl) rfl ⟨Nat.le_add_right _ _, Nat.le_add_right _ _⟩ ?_
  have emax : (if 0 < nI cap then nI cap else 0) = nI cap := by
    by_cases z : cap = 0
    · rw [z]
      decide
    · rw [if_pos (by rw [show (0 : Int32) = nI 0 from rfl]; exact (nI_ltI (by decide) (by omega)).mpr (by omega))]
  refine bk_G_init_0 ⟨ht, cap / 512 + 1, ⟨?_, by omega⟩, ⟨Nat.le_refl _, Nat.le_refl _⟩, fun b hb => ?_⟩
  · rw [emax, show (512 : Int32) = nI 512 from rfl, pk_div (by omega) (by decide) (by decide), nI_1]
  · rw [emax]
    exact ⟨⟨rfl, b, hb, rfl⟩, rfl, rfl⟩
end TG
