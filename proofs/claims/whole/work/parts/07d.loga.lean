section LA
variable {G : mj_G} {B : cl_B} {c : cc_S} {μ μ0 μ' : mj_MM} {Ex : Option Value → mj_MM → Prop} {N S : Nat}
theorem lg_mo (j x j' : Nat) (h : j' ≠ j) : lg_m (lg_add c j x) j' = lg_m c j' := by
  unfold lg_m
  rw [lg_add5 _ _ _ _ (Or.inr h), lg_add5 _ _ _ _ (Or.inr h)]
theorem lg_ms (j x : Nat) : lg_m (lg_add c j x) j = if c 5 2 j < c 5 1 j then c 5 2 j + 1 else c 5 1 j := by
  unfold lg_m
  rw [lg_addC, lg_add5 _ _ _ _ (Or.inl (by decide))]
  split <;> split <;> omega
theorem lg_R_over (h : lg_R B c μ) (j x : Nat) (hc : ¬ c 5 2 j < c 5 1 j) (hr : ∀ i k, cL B 5 i → mj_r μ' (cD B 11 i) k = mj_r μ (cD B 11 i) k) (ho : ∀ a, mj_t μ a ≠ 0 → mj_t μ' a = mj_t μ a ∧ mj_n μ' a = mj_n μ a ∧ ∀ i, mj_l μ' a i = mj_l μ a i) : lg_R B (lg_add c j x) μ' := by
  obtain ⟨h1, h2⟩ := h
  have em : ∀ j', lg_m (lg_add c j x) j' = lg_m c j' := by
    intro j'
    by_cases e : j' = j
    · subst e
      rw [lg_ms, if_neg hc]
      unfold lg_m
      split <;> omega
    · exact lg_mo j x j' e
  have e20 : ∀ j' i, lg_add c j x 20 j' i = c 20 j' i := fun j' i => by rw [lg_add20, if_neg (fun z => hc z.2.2)]
  refine ⟨fun j' hj' => ?_, fun j1 b1 j2 b2 a g1 g2 g3 g4 g5 g6 => ?_⟩
  · obtain ⟨g1, g2, g3, g4, g5⟩ := h1 j' hj'
    refine ⟨g1, by rw [lg_add5 _ _ _ _ (Or.inl (by decide))]; exact g2, by rw [lg_add5 _ _ _ _ (Or.inl (by decide))]; exact g3, fun i hi => by rw [e20]; rw [em] at hi; exact g4 i hi, fun b hb => ?_⟩
    rw [em, hr j' b hj']
    rcases g5 b hb with q | ⟨a, q1, q2, q3, q4, q5, q6⟩
    · exact Or.inl q
    · obtain ⟨w1, w2, w3⟩ := ho a (by rw [q2]; decide)
      exact Or.inr ⟨a, q1, w1.trans q2, w2.trans q3, q4, q5, fun i hi => by rw [w3, e20]; exact q6 i hi⟩
  · rw [hr j1 b1 g1] at g5
    rw [hr j2 b2 g2] at g6
    exact h2 j1 b1 j2 b2 a g1 g2 g3 g4 g5 g6
theorem lg_R_add (h : lg_R B c μ) (j x a : Nat) (hj : cL B 5 j) (hc : c 5 2 j < c 5 1 j) (ht : mj_t μ' a = 1001) (hn : mj_n μ' a = 512) (hz : ¬ cZ B a) (hr1 : mj_r μ' (cD B 11 j) (c 5 2 j / 512) = some a) (hr2 : ∀ j' b, cL B 5 j' → (j' ≠ j ∨ b ≠ c 5 2 j / 512) → mj_r μ' (cD B 11 j') b = mj_r μ (cD B 11 j') b)
    (hl1 : mj_l μ' a (c 5 2 j % 512) = lN x) (hl2 : ∀ i, i < 512 → i ≠ c 5 2 j % 512 → mj_l μ' a i = lN (c 20 j (c 5 2 j / 512 * 512 + i)))
    (hd : ∀ j' b, cL B 5 j' → b < cN B 11 j' → (j' ≠ j ∨ b ≠ c 5 2 j / 512) → mj_r μ (cD B 11 j') b ≠ some a)
    (ho : ∀ a', a' ≠ a → mj_t μ a' ≠ 0 → mj_t μ' a' = mj_t μ a' ∧ mj_n μ' a' = mj_n μ a' ∧ ∀ i, mj_l μ' a' i = mj_l μ a' i) : lg_R B (lg_add c j x) μ' := by
  obtain ⟨h1, h2⟩ := h
  have emj : lg_m (lg_add c j x) j = c 5 2 j + 1 := by rw [lg_ms, if_pos hc]
  have emc : lg_m c j = c 5 2 j := by
    unfold lg_m
    rw [if_pos (by omega)]
  refine ⟨fun j' hj' => ?_, fun j1 b1 j2 b2 a' g1 g2 g3 g4 g5 g6 => ?_⟩
  · obtain ⟨g1, g2, g3, g4, g5⟩ := h1 j' hj'
    refine ⟨g1, by rw [lg_add5 _ _ _ _ (Or.inl (by decide))]; exact g2, by rw [lg_add5 _ _ _ _ (Or.inl (by decide))]; exact g3, fun i hi => ?_, fun b hb => ?_⟩
    · rw [lg_add20]
      by_cases e : j' = j
      · subst e
        rw [emj] at hi
        rw [if_neg (by omega)]
        exact g4 i (by rw [emc]; omega)
      · rw [if_neg (fun z => e z.1)]
        rw [lg_mo _ _ _ e] at hi
        exact g4 i hi
    · by_cases e : j' = j
      · subst e
        rw [emj]
        by_cases eb : b = c 5 2 j' / 512
        · subst eb
          refine Or.inr ⟨a, hr1, ht, hn, hz, by omega, fun i hi => ?_⟩
          rw [lg_add20]
          by_cases ei : i = c 5 2 j' % 512
          · subst ei
            rw [hl1, if_pos ⟨rfl, by omega, hc⟩]
          · rw [hl2 i hi ei, if_neg (fun z => ei (by omega))]
        · rw [hr2 j' b hj' (Or.inr eb)]
          rcases g5 b hb with q | ⟨a', q1, q2, q3, q4, q5, q6⟩
          · left
            rw [emc] at q
            exact ⟨q.1, by omega⟩
          · have hne : a' ≠ a := fun e => hd j' b hj' hb (Or.inr eb) (by rw [← e]; exact q1)
            obtain ⟨w1, w2, w3⟩ := ho a' hne (by rw [q2]; decide)
            rw [emc] at q5
            refine Or.inr ⟨a', q1, w1.trans q2, w2.trans q3, q4, by omega, fun i hi => ?_⟩
            rw [w3, lg_add20, if_neg (fun z => eb (by omega))]
            exact q6 i hi
      · rw [lg_mo _ _ _ e, hr2 j' b hj' (Or.inl e)]
        rcases g5 b hb with q | ⟨a', q1, q2, q3, q4, q5, q6⟩
        · exact Or.inl q
        · have hne : a' ≠ a := fun e' => hd j' b hj' hb (Or.inl e) (by rw [← e']; exact q1)
          obtain ⟨w1, w2, w3⟩ := ho a' hne (by rw [q2]; decide)
          refine Or.inr ⟨a', q1, w1.trans q2, w2.trans q3, q4, q5, fun i hi => ?_⟩
          rw [w3, lg_add20, if_neg (fun z => e z.1)]
          exact q6 i hi
  · by_cases e1 : j1 = j ∧ b1 = c 5 2 j / 512
    · obtain ⟨rfl, rfl⟩ := e1
      rw [hr1] at g5
      have ea := Option.some.inj g5
      subst ea
      by_cases e2 : j2 = j1 ∧ b2 = c 5 2 j1 / 512
      · exact ⟨e2.1.symm, e2.2.symm⟩
      · rw [hr2 j2 b2 g2 (by omega)] at g6
        exact absurd g6 (hd j2 b2 g2 g4 (by omega))
    · rw [hr2 j1 b1 g1 (by omega)] at g5
      by_cases e2 : j2 = j ∧ b2 = c 5 2 j / 512
      · obtain ⟨rfl, rfl⟩ := e2
        rw [hr1] at g6
        have ea := Option.some.inj g6
        subst ea
        exact absurd g5 (hd j1 b1 g1 g3 (by omega))
      · rw [hr2 j2 b2 g2 (by omega)] at g6
        exact h2 j1 b1 j2 b2 a' g1 g2 g3 g4 g5 g6
theorem mj_nwt {a b t n k : Nat} (h : b ≠ a) : mj_t (mj_new μ a t n k) b = mj_t μ b := by simp [mj_t, mj_new, mj_w, h]
theorem mj_nwn {a b t n k : Nat} (h : b ≠ a) : mj_n (mj_new μ a t n k) b = mj_n μ b := by simp [mj_n, mj_new, mj_w, h]
theorem mj_nwi {a b t n k : Nat} (h : b ≠ a) (j : Nat) : mj_i (mj_new μ a t n k) b j = mj_i μ b j := by simp [mj_i, mj_new, mj_w, h]
theorem mj_nwr {a b t n k : Nat} (h : b ≠ a) (j : Nat) : mj_r (mj_new μ a t n k) b j = mj_r μ b j := by simp [mj_r, mj_new, mj_w, h]
theorem mj_nwl {a b t n k : Nat} (h : b ≠ a) (j : Nat) : mj_l (mj_new μ a t n k) b j = mj_l μ b j := by simp [mj_l, mj_new, mj_w, h]
theorem mj_nst {a t n k : Nat} : mj_t (mj_new μ a t n k) a = t := by simp [mj_t, mj_new, mj_w]
theorem mj_nsn {a t n k : Nat} : mj_n (mj_new μ a t n k) a = n := by simp [mj_n, mj_new, mj_w]
theorem cl_R.tz (h : cl_R B c μ) {K i : Nat} (hl : cL B K i) : mj_t μ (cD B K i) ≠ 0 := by
  rw [h.1 K i hl]
  unfold cl_tag
  split
  · omega
  · split <;> omega
theorem mj_pl0 {a b i k : Nat} {x : Int64} (h : i ≠ k) : mj_l (mj_pL μ a k x) b i = mj_l μ b i := mj_u_ne _ _ (fun q => h q.2)
theorem mj_pi0 {a b i k : Nat} {x : Int32} (h : i ≠ k) : mj_i (mj_pI μ a k x) b i = mj_i μ b i := mj_u_ne _ _ (fun q => h q.2)
theorem mj_pr0 {a b i k : Nat} {x : Option Nat} (h : i ≠ k) : mj_r (mj_pR μ a k x) b i = mj_r μ b i := mj_u_ne _ _ (fun q => h q.2)
theorem lc_add (hQ : cl_Q B c μ0 μ) (j a b d : Nat) (hj : cL B 5 j) (ha : a < 2 ^ 20) (hb : b < 2 ^ 20) (hd : d < 2 ^ 20) (hc : c 5 2 j + 1 < 2 ^ 31) :
    mj_M G my_G_add mY_G_add [va_rf (some (cD B 5 j)), .int (nI a), .int (nI b), .int (nI d)] (mj_nc μ + lg_n c j) (mj_ns μ + 512 * lg_n c j) μ (mj_XV (fun μ' => cl_Q B (lg_add c j (a * 2 ^ 40 + b * 2 ^ 20 + d)) μ0 μ')) := by
  refine mj_of (by decide) rfl (by decide) (Nat.le_of_ble_eq_true rfl) rfl ⟨Nat.le_add_right _ _, Nat.le_add_right _ _⟩ ?_
  have hR := hQ.1
  have hg := hR.2.2.2.2.2.2.1
  obtain ⟨l1, l2, l3, l4, l5⟩ := hg.1 j hj
  have eC : mj_i μ (cD B 5 j) 2 = nI (c 5 2 j) := hQ.i5_2 hj
  have eM : mj_i μ (cD B 5 j) 1 = nI (c 5 1 j) := hQ.i5_1 hj
  have eR : mj_r μ (cD B 5 j) 0 = some (cD B 11 j) := by rw [hQ.r5_0 hj, l2]; rfl
  have b1 := hQ.b 5 1 j (by decide)
  have tn := fun i hl => hR.tz (K := 11) (i := i) hl
  have nl : ∀ i, cL B 11 i → cD B 11 i ≠ cD B 5 j := fun i hi => hR.ne hj hi (by decide)
  refine bk_G_add_0 ?_
  rw [eC, eM, show (512 : Int32) = nI 512 from rfl, pk_rem (by omega) (by decide) (by decide), pk_div (by omega) (by decide) (by decide), nI_clamp (by omega), nI_clamp (by omega), lg_pack ha hb hd, nI_1]
  refine ⟨hQ.t5 hj, fun q => absurd q (nI_pos (by omega)), fun _ => ⟨fun q => ?_, fun q => ⟨_, eR, hQ.tb l1, fun q2 => ⟨?_, fun q3 => ?_, fun a' q3 => ?_⟩, fun q2 => ?_⟩⟩⟩
  · rw [mj_le b1 (by omega)] at q
    have en : lg_n c j = 0 := by
      unfold lg_n
      rw [if_neg (fun z => by omega)]
    rw [en]
    refine ⟨⟨rfl, lg_keep hR j _ hj hc (fun a _ => ⟨rfl, rfl⟩) (fun a k _ h => ?_) (mj_sI _ _ _ _) (fun a k _ _ => rfl) (lg_R_over hg j _ (by omega) (fun i k _ => rfl) (fun a _ => ⟨rfl, rfl, fun _ => rfl⟩)), fun a ha => ?_⟩, rfl, rfl⟩
    · rcases h with h | h
      · exact mj_ki h
      · exact mj_pi0 h
    · obtain ⟨f1, f2, f3, f4, f5⟩ := hQ.2 a ha
      exact ⟨f1, f2, fun k => (mj_ki ((hR.2.2.2.2.2.2.2.2.1 a ha).2 5 j hj)).trans (f3 k), f4, f5⟩
  · rw [(hR.2.2.1 11 j l1 (by decide)).1]
    rw [mj_le b1 (by omega)] at q
    exact vp_in_nI (by rw [l3]; omega) (hR.2.2.1 11 j l1 (by decide)).2
  · rw [mj_le b1 (by omega)] at q
    have q4 : mj_r μ (cD B 11 j) (c 5 2 j / 512) = none := q3
    have hbn : c 5 2 j / 512 < cN B 11 j := by rw [l3]; omega
    have emc : lg_m c j = c 5 2 j := by
      unfold lg_m
      rw [if_pos (by omega)]
    have hm0 : c 5 2 j ≤ c 5 2 j / 512 * 512 := by
      rcases l5 _ hbn with z | ⟨a', z, -⟩
      · rw [← emc]
        rw [emc]
        have := z.2
        rw [emc] at this
        exact this
      · rw [q4] at z
        cases z
    have hm1 : c 5 2 j % 512 = 0 := by omega
    have en : lg_n c j = 1 := by
      unfold lg_n
      rw [if_pos ⟨by omega, hm1⟩]
    rw [en]
    refine ⟨by omega, fun a' ha' => ?_⟩
    have h11 : cD B 11 j ≠ a' := fun e => tn j l1 (by rw [e]; exact ha')
    have h5 : cD B 5 j ≠ a' := fun e => hR.tz hj (by rw [e]; exact ha')
    have vin : vp_in (nI (c 5 2 j / 512)) (mj_n (mj_new μ a' 1001 512 512) (cD B 11 j)) := by
      rw [mj_nwn h11, (hR.2.2.1 11 j l1 (by decide)).1]
      exact vp_in_nI hbn (hR.2.2.1 11 j l1 (by decide)).2
    refine ⟨vin, cD B 11 j, ?_, ?_, vin, a', mj_sR _ _ _ _, mj_nst, ?_, ?_⟩
    · rw [mj_nwr h5]
      exact eR
    · rw [mj_nwt h11]
      exact hQ.tb l1
    · rw [mj_nsn]
      exact vp_in_nI (by omega) (by decide)
    have hzz : ∀ x, mj_t μ x ≠ 0 → x ≠ a' := fun x hx e => hx (by rw [e]; exact ha')
    refine ⟨⟨rfl, lg_keep hR j _ hj hc (fun x hx => ?_) (fun x k hx h => ?_) ?_ (fun x k hx h => ?_) (lg_R_add hg j _ a' hj (by omega) ?_ ?_ (fun z => (hR.2.2.2.2.2.2.2.2.1 a' z).1 ha') ?_ (fun j' b' hj' h => ?_) (mj_sL _ _ _ _) (fun i hi hi2 => ?_) (fun j' b' hj' hb' h => ?_) (fun x hx hx2 => ?_)), fun x hx => ?_⟩, rfl, rfl⟩
    · exact ⟨mj_nwt (t := 1001) (n := 512) (k := 512) (hzz x hx), mj_nwn (t := 1001) (n := 512) (k := 512) (hzz x hx)⟩
    · have e : mj_i (mj_new (mj_pI μ (cD B 5 j) 2 (nI (c 5 2 j + 1))) a' 1001 512 512) x k = mj_i (mj_pI μ (cD B 5 j) 2 (nI (c 5 2 j + 1))) x k := mj_nwi (hzz x hx) k
      refine Eq.trans e ?_
      rcases h with h | h
      · exact mj_ki h
      · exact mj_pi0 h
    · have e : mj_i (mj_new (mj_pI μ (cD B 5 j) 2 (nI (c 5 2 j + 1))) a' 1001 512 512) (cD B 5 j) 2 = mj_i (mj_pI μ (cD B 5 j) 2 (nI (c 5 2 j + 1))) (cD B 5 j) 2 := mj_nwi h5 2
      exact Eq.trans e (mj_sI _ _ _ _)
    · have e : mj_r (mj_pR (mj_new (mj_pI μ (cD B 5 j) 2 (nI (c 5 2 j + 1))) a' 1001 512 512) (cD B 11 j) (c 5 2 j / 512) (some a')) x k = mj_r (mj_new (mj_pI μ (cD B 5 j) 2 (nI (c 5 2 j + 1))) a' 1001 512 512) x k := mj_kr (h j l1)
      exact Eq.trans e (mj_nwr (hzz x hx) k)
    · exact mj_nst (n := 512) (k := 512)
    · exact mj_nsn (t := 1001) (k := 512)
    · exact mj_sR _ _ _ _
    · have l1' := (hg.1 j' hj').1
      have hj11 : cD B 11 j' ≠ a' := fun e => tn j' l1' (by rw [e]; exact ha')
      have e : mj_r (mj_pR (mj_new (mj_pI μ (cD B 5 j) 2 (nI (c 5 2 j + 1))) a' 1001 512 512) (cD B 11 j) (c 5 2 j / 512) (some a')) (cD B 11 j') b' = mj_r (mj_new (mj_pI μ (cD B 5 j) 2 (nI (c 5 2 j + 1))) a' 1001 512 512) (cD B 11 j') b' := by
        rcases h with h | h
        · exact mj_kr (fun e => h (hR.2.1 11 j' 11 j l1' l1 e).2)
        · exact mj_pr0 h
      exact Eq.trans e (mj_nwr hj11 b')
    · have e : mj_l (mj_pL (mj_pR (mj_new (mj_pI μ (cD B 5 j) 2 (nI (c 5 2 j + 1))) a' 1001 512 512) (cD B 11 j) (c 5 2 j / 512) (some a')) a' (c 5 2 j % 512) (lN (a * 2 ^ 40 + b * 2 ^ 20 + d))) a' i = mj_l (mj_new (mj_pI μ (cD B 5 j) 2 (nI (c 5 2 j + 1))) a' 1001 512 512) a' i := mj_pl0 hi2
      refine Eq.trans e ?_
      have e0 : c 20 j (c 5 2 j / 512 * 512 + i) = 0 := l4 _ (by rw [emc]; exact Nat.le_trans hm0 (Nat.le_add_right _ _))
      rw [e0, show lN 0 = 0 from rfl]
      exact mj_new0L (mj_pI μ (cD B 5 j) 2 (nI (c 5 2 j + 1))) a' 1001 512 512 i
    · rcases (hg.1 j' hj').2.2.2.2 b' hb' with z | ⟨w, z1, z2, -⟩
      · rw [z.1]
        exact fun e => by cases e
      · rw [z1]
        intro e
        rw [Option.some.inj e, ha'] at z2
        cases z2
    · refine ⟨mj_nwt (t := 1001) (n := 512) (k := 512) hx, mj_nwn (t := 1001) (n := 512) (k := 512) hx, fun i => ?_⟩
      have e : mj_l (mj_pL (mj_pR (mj_new (mj_pI μ (cD B 5 j) 2 (nI (c 5 2 j + 1))) a' 1001 512 512) (cD B 11 j) (c 5 2 j / 512) (some a')) a' (c 5 2 j % 512) (lN (a * 2 ^ 40 + b * 2 ^ 20 + d))) x i = mj_l (mj_new (mj_pI μ (cD B 5 j) 2 (nI (c 5 2 j + 1))) a' 1001 512 512) x i := mj_kl hx
      exact Eq.trans e (mj_nwl hx i)
    · obtain ⟨f1, f2, f3, f4, f5⟩ := hQ.2 x hx
      obtain ⟨z1, z2⟩ := hR.2.2.2.2.2.2.2.2.1 x hx
      have hxa := hzz x z1
      refine ⟨Eq.trans (mj_nwt (t := 1001) (n := 512) (k := 512) hxa) f1, Eq.trans (mj_nwn (t := 1001) (n := 512) (k := 512) hxa) f2, fun k => ?_, fun k => ?_, fun k => ?_⟩
      · refine Eq.trans (mj_nwi (t := 1001) (n := 512) (k := 512) (μ := mj_pI μ (cD B 5 j) 2 (nI (c 5 2 j + 1))) hxa k) (Eq.trans (mj_ki (z2 5 j hj)) (f3 k))
      · have e : mj_r (mj_pR (mj_new (mj_pI μ (cD B 5 j) 2 (nI (c 5 2 j + 1))) a' 1001 512 512) (cD B 11 j) (c 5 2 j / 512) (some a')) x k = mj_r (mj_new (mj_pI μ (cD B 5 j) 2 (nI (c 5 2 j + 1))) a' 1001 512 512) x k := mj_kr (z2 11 j l1)
        exact Eq.trans e (Eq.trans (mj_nwr hxa k) (f4 k))
      · have e : mj_l (mj_pL (mj_pR (mj_new (mj_pI μ (cD B 5 j) 2 (nI (c 5 2 j + 1))) a' 1001 512 512) (cD B 11 j) (c 5 2 j / 512) (some a')) a' (c 5 2 j % 512) (lN (a * 2 ^ 40 + b * 2 ^ 20 + d))) x k = mj_l (mj_new (mj_pI μ (cD B 5 j) 2 (nI (c 5 2 j + 1))) a' 1001 512 512) x k := mj_kl hxa
        exact Eq.trans e (Eq.trans (mj_nwl hxa k) (f5 k))
  · rw [mj_le b1 (by omega)] at q
    have q4 : mj_r μ (cD B 11 j) (c 5 2 j / 512) = some a' := q3
    have hbn : c 5 2 j / 512 < cN B 11 j := by rw [l3]; omega
    have emc : lg_m c j = c 5 2 j := by
      unfold lg_m
      rw [if_pos (by omega)]
    rcases l5 _ hbn with z | ⟨a2, z1, z2, z3, z4, z5, z6⟩
    · rw [q4] at z
      cases z.1
    rw [q4] at z1
    have ea := Option.some.inj z1
    subst ea
    rw [emc] at z5
    have en : lg_n c j = 0 := by
      unfold lg_n
      rw [if_neg (fun z => by omega)]
    rw [en]
    have hne : ∀ K i, cL B K i → cD B K i ≠ a' := fun K i hl e => by
      have := hR.1 K i hl
      rw [e, z2] at this
      unfold cl_tag at this
      split at this
      · omega
      · split at this
        · rename_i e10
          subst e10
          have := hR.2.2.2.2.2.2.2.2.2 i hl
          omega
        · omega
    refine ⟨?_, z2, ?_, ?_⟩
    · rw [(hR.2.2.1 11 j l1 (by decide)).1]
      exact vp_in_nI hbn (hR.2.2.1 11 j l1 (by decide)).2
    · rw [z3]
      exact vp_in_nI (by omega) (by decide)
    refine ⟨⟨rfl, lg_keep hR j _ hj hc (fun x hx => ⟨rfl, rfl⟩) (fun x k hx h => ?_) (mj_sI μ (cD B 5 j) 2 _) (fun x k hx h => rfl) (lg_R_add hg j _ a' hj (by omega) z2 z3 z4 q4 (fun j' b' hj' h => rfl) (mj_sL _ _ _ _) (fun i hi hi2 => ?_) (fun j' b' hj' hb' h e => ?_) (fun x hx hx2 => ⟨rfl, rfl, fun i => mj_kl hx⟩)), fun x hx => ?_⟩, rfl, rfl⟩
    · rcases h with h | h
      · exact mj_ki h
      · exact mj_pi0 h
    · exact Eq.trans (mj_pl0 (μ := mj_pI μ (cD B 5 j) 2 (nI (c 5 2 j + 1))) hi2) (z6 i hi)
    · have := hg.2 j' b' j _ a' hj' hj hb' hbn e q4
      omega
    · obtain ⟨f1, f2, f3, f4, f5⟩ := hQ.2 x hx
      obtain ⟨y1, y2⟩ := hR.2.2.2.2.2.2.2.2.1 x hx
      exact ⟨f1, f2, fun k => Eq.trans (mj_ki (y2 5 j hj)) (f3 k), f4, fun k => Eq.trans (mj_kl (μ := mj_pI μ (cD B 5 j) 2 (nI (c 5 2 j + 1))) (fun e => z4 (by rw [← e]; exact hx))) (f5 k)⟩
  · rw [mj_le b1 (by omega)] at q
    rw [(hR.2.2.1 11 j l1 (by decide)).1, l3, mj_lt (by omega) (by omega)] at q2
    omega
end LA
