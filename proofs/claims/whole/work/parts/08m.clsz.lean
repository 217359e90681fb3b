/-! New objects -/
def cl_ext (B : cl_B) (K i a : Nat) : cl_B := (B.1, fun K' i' => if K' = K ∧ i' = i then a else B.2.1 K' i', fun K' i' => B.2.2.1 K' i' ∨ (K' = K ∧ i' = i), B.2.2.2)
section CZ
variable {G : mj_G} {B : cl_B} {e t0 t1 : Nat} {σ τ : ss_S} {c : cc_S} {μ μ0 : mj_MM} {Ex : Option Value → mj_MM → Prop} {N S : Nat}
theorem xD (B : cl_B) (K i a : Nat) : cD (cl_ext B K i a) K i = a := if_pos ⟨rfl, rfl⟩
theorem xDo (B : cl_B) (K i a : Nat) {K' i' : Nat} (h : ¬ (K' = K ∧ i' = i)) : cD (cl_ext B K i a) K' i' = cD B K' i' := if_neg h
theorem xDl {K i a K' i' : Nat} (hd : ¬ cL B K i) (h : cL B K' i') : cD (cl_ext B K i a) K' i' = cD B K' i' := xDo B K i a (fun z => hd (by rw [← z.1, ← z.2]; exact h))
theorem xL (B : cl_B) (K i a K' i' : Nat) : cL (cl_ext B K i a) K' i' ↔ cL B K' i' ∨ (K' = K ∧ i' = i) := Iff.rfl
theorem xref {K i a T v : Nat} (hd : ¬ cL B K i) (h : v = 0 ∨ cL B T (v - 1)) : cl_ref (cl_ext B K i a) T v = cl_ref B T v := by
  cases v with
  | zero => rfl
  | succ v =>
    show some (cD (cl_ext B K i a) T v) = some (cD B T v)
    have hl : cL B T v := h.resolve_left (by omega)
    rw [xDl hd hl]
theorem cl_tag_pos (K i : Nat) : cl_tag K i ≠ 0 := by
  unfold cl_tag
  split
  · omega
  · split <;> omega
theorem mj_nsi {a t n k : Nat} (j : Nat) : mj_i (mj_new μ a t n k) a j = 0 := by simp [mj_i, mj_new, mj_w]
theorem mj_nsr {a t n k : Nat} (j : Nat) : mj_r (mj_new μ a t n k) a j = none := by simp [mj_r, mj_new, mj_w]
theorem mj_nsl {a t n k : Nat} (j : Nat) : mj_l (mj_new μ a t n k) a j = 0 := by simp [mj_l, mj_new, mj_w]
theorem cl_Q.new (h : cl_Q B c μ0 μ) (K i a k : Nat) (hK : K < 10 ∧ K ≠ 5) (hd : ¬ cL B K i) (ha : mj_t μ a = 0) (hz : ∀ p, c K p i = 0) : cl_Q (cl_ext B K i a) c μ0 (mj_new μ a (K + 1) 0 k) := by
  obtain ⟨⟨a1, a2, a3, a4, a5, a6, a7, a8, a9, a10⟩, f⟩ := h
  have ne : ∀ K' i', cL B K' i' → cD B K' i' ≠ a := fun K' i' hl z => by
    have := a1 K' i' hl
    rw [z, ha] at this
    exact cl_tag_pos K' i' this.symm
  refine ⟨⟨fun K' i' hl => ?_, fun K1 i1 K2 i2 h1 h2 he => ?_, fun K' i' hl hK' => ?_, fun K' p i' hl hp => ?_, fun K' p i' hl hp => ?_, fun j i' hl hi => ?_, ?_, a8, fun b hb => ?_, fun j hl => ?_⟩, fun b hb => ?_⟩
  · rcases hl with hl | ⟨rfl, rfl⟩
    · rw [xDl hd hl, mj_nwt (ne K' i' hl)]
      exact a1 K' i' hl
    · rw [xD, mj_nst]
      unfold cl_tag
      rw [if_pos hK.1]
  · rcases h1 with h1 | ⟨rfl, rfl⟩
    · rw [xDl hd h1] at he
      rcases h2 with h2 | ⟨rfl, rfl⟩
      · rw [xDl hd h2] at he
        exact a2 K1 i1 K2 i2 h1 h2 he
      · rw [xD] at he
        exact absurd he (ne K1 i1 h1)
    · rw [xD] at he
      rcases h2 with h2 | ⟨rfl, rfl⟩
      · rw [xDl hd h2] at he
        exact absurd he.symm (ne K2 i2 h2)
      · exact ⟨rfl, rfl⟩
  · rcases hl with hl | ⟨rfl, rfl⟩
    · rw [xDl hd hl, mj_nwn (ne K' i' hl)]
      exact a3 K' i' hl hK'
    · omega
  · rcases hl with hl | ⟨rfl, rfl⟩
    · rw [xDl hd hl, mj_nwi (ne K' i' hl)]
      exact a4 K' p i' hl hp
    · rw [xD, mj_nsi, hz]
      rfl
  · rcases hl with hl | ⟨rfl, rfl⟩
    · obtain ⟨g1, g2⟩ := a5 K' p i' hl hp
      rw [xDl hd hl, mj_nwr (ne K' i' hl), xref hd g2]
      exact ⟨g1, g2.imp id (fun z => Or.inl z)⟩
    · rw [xD, mj_nsr, hz]
      exact ⟨rfl, Or.inl rfl⟩
  · have hl' : cL B 10 j := hl.resolve_right (fun z => by omega)
    obtain ⟨g1, g2⟩ := a6 j i' hl' hi
    rw [xDl hd hl', mj_nwr (ne 10 j hl'), xref hd g2]
    exact ⟨g1, g2.imp id (fun z => Or.inl z)⟩
  · have l5 : ∀ j, cL (cl_ext B K i a) 5 j → cL B 5 j := fun j hl => hl.resolve_right (fun z => by omega)
    have e11 : ∀ j b, cL B 11 j → mj_r (mj_new μ a (K + 1) 0 k) (cD (cl_ext B K i a) 11 j) b = mj_r μ (cD B 11 j) b := fun j b hj => by rw [xDl hd hj, mj_nwr (ne 11 j hj)]
    refine ⟨fun j hj => ?_, fun j b j' b' x h1 h2 h3 h4 h5 h6 => ?_⟩
    · obtain ⟨g1, g2, g3, g4, g5⟩ := a7.1 j (l5 j hj)
      refine ⟨Or.inl g1, g2, g3, g4, fun b hb => ?_⟩
      rw [e11 j b g1]
      rcases g5 b hb with z | ⟨x, z1, z2, z3, z4, z5, z6⟩
      · exact Or.inl z
      · have hxa : x ≠ a := fun y => by
          rw [y, ha] at z2
          omega
        exact Or.inr ⟨x, z1, by rw [mj_nwt hxa]; exact z2, by rw [mj_nwn hxa]; exact z3, z4, z5, fun i hi => by rw [mj_nwl hxa]; exact z6 i hi⟩
    · rw [e11 j b (a7.1 j (l5 j h1)).1] at h5
      rw [e11 j' b' (a7.1 j' (l5 j' h2)).1] at h6
      exact a7.2 j b j' b' x (l5 j h1) (l5 j' h2) h3 h4 h5 h6
  · have hba : b ≠ a := fun y => (a9 b hb).1 (by rw [y]; exact ha)
    refine ⟨by rw [mj_nwt hba]; exact (a9 b hb).1, fun K' i' hl => ?_⟩
    rcases hl with hl | ⟨rfl, rfl⟩
    · rw [xDl hd hl]
      exact (a9 b hb).2 K' i' hl
    · rw [xD]
      exact hba
  · exact a10 j (hl.resolve_right (fun z => by omega))
  · have hba : b ≠ a := fun y => (a9 b hb).1 (by rw [y]; exact ha)
    obtain ⟨f1, f2, f3, f4, f5⟩ := f b hb
    exact ⟨(mj_nwt hba).trans f1, (mj_nwn hba).trans f2, fun k => (mj_nwi hba k).trans (f3 k), fun k => (mj_nwr hba k).trans (f4 k), fun k => (mj_nwl hba k).trans (f5 k)⟩
/-- an element of an array of objects -/
theorem cl_Q.pA (h : cl_Q B c μ0 μ) (j i v : Nat) (hl : cL B 10 j) (hi : i < cN B 10 j) (hv : v < 2 ^ 31) (ht : v = 0 ∨ cL B (cl_at j) (v - 1)) : cl_Q B (cc_u c 10 j i v) μ0 (mj_pR μ (cD B 10 j) i (cl_ref B (cl_at j) v)) := by
  obtain ⟨⟨a1, a2, a3, a4, a5, a6, a7, a8, a9, a10⟩, f⟩ := h
  refine ⟨⟨a1, a2, a3, fun K' p' i' q1 q2 => ?_, fun K' p' i' q1 q2 => ?_, fun j' i' q1 q2 => ?_, ?_, fun K' p' i' q => ?_, a9, a10⟩, fun a ha => ?_⟩
  · have := cl_isI_lt q2
    rw [cc_uk _ _ _ _ _ _ (by omega)]
    exact a4 K' p' i' q1 q2
  · have := cl_tk_lt q2
    rw [cc_uk _ _ _ _ _ _ (by omega), mj_kr (fun e => by have := (a2 K' i' 10 j q1 hl e).1; omega)]
    exact a5 K' p' i' q1 q2
  · by_cases e : j' = j
    · subst e
      by_cases e2 : i' = i
      · subst e2
        rw [mj_sR, cc_us]
        exact ⟨rfl, ht⟩
      · rw [cc_ui _ _ _ _ e2]
        refine ⟨?_, (a6 j' i' q1 q2).2⟩
        rw [← (a6 j' i' q1 q2).1]
        exact mj_u_ne _ _ (fun q => e2 q.2)
    · rw [cc_up _ _ _ _ _ _ e, mj_kr (fun z => e (a2 10 j' 10 j q1 hl z).2)]
      exact a6 j' i' q1 q2
  · have e : ∀ p' i', cc_u c 10 j i v 5 p' i' = c 5 p' i' := fun p' i' => cc_uk _ _ _ _ _ _ (by decide)
    have e2 : ∀ p' i', cc_u c 10 j i v 20 p' i' = c 20 p' i' := fun p' i' => cc_uk _ _ _ _ _ _ (by decide)
    have e3 : ∀ j' b, cL B 11 j' → mj_r (mj_pR μ (cD B 10 j) i (cl_ref B (cl_at j) v)) (cD B 11 j') b = mj_r μ (cD B 11 j') b := fun j' b hj => mj_kr (fun e => by have := (a2 11 j' 10 j hj hl e).1; omega)
    unfold lg_R lg_m at a7 ⊢
    simp only [e, e2]
    refine ⟨fun j' hj => ?_, fun j1 b j' b' a h1 h2 h3 h4 h5 h6 => ?_⟩
    · obtain ⟨g1, g2, g3, g4, g5⟩ := a7.1 j' hj
      refine ⟨g1, g2, g3, g4, fun b hb => ?_⟩
      rw [e3 j' b g1]
      exact g5 b hb
    · rw [e3 j1 b (a7.1 j1 h1).1] at h5
      rw [e3 j' b' (a7.1 j' h2).1] at h6
      exact a7.2 j1 b j' b' a h1 h2 h3 h4 h5 h6
  · unfold cc_u
    have := a8 K' p' i' q
    split
    · split
      · split
        · exact hv
        · exact this
      · exact this
    · exact this
  · obtain ⟨f1, f2, f3, f4, f5⟩ := f a ha
    exact ⟨f1, f2, f3, fun k => (mj_kr ((a9 a ha).2 10 j hl)).trans (f4 k), f5⟩
/-- one more in a chain -/
theorem ch_in0 {f : Nat → Nat} {k v : Nat} {L : List Nat} (hc : ch f v L) (hk : k ∉ L) : ch (fun x => if x = k then v else f x) (k + 1) (k :: L) := by
  refine ⟨rfl, ?_⟩
  show ch _ (if k = k then v else f k) L
  rw [if_pos rfl]
  exact ch_congr L _ (fun x hx => if_neg (fun z => hk (by rw [← z]; exact hx))) hc
theorem ch_in1 {f : Nat → Nat} {k s : Nat} : ∀ (L1 : List Nat) (v w : Nat) (L2 : List Nat), ch f v (L1 ++ L2) → (L1 ++ L2).Nodup → k ∉ L1 ++ L2 → lastw L1 w = s + 1 → L1 ≠ [] → s ∈ L1 ∧ ch (fun x => if x = s then k + 1 else if x = k then f s else f x) v (L1 ++ k :: L2) := by
  intro L1
  induction L1 with
  | nil => exact fun v w L2 _ _ _ _ h => absurd rfl h
  | cons x L1 ih =>
    intro v w L2 hc hn hk hl _
    obtain ⟨hv, hc⟩ := hc
    obtain ⟨n1, n2⟩ := List.nodup_cons.mp hn
    have hkx : k ≠ x := fun z => hk (by rw [z]; exact List.mem_cons_self ..)
    have hkL : k ∉ L1 ++ L2 := fun z => hk (List.mem_cons_of_mem _ z)
    cases L1 with
    | nil =>
      have hs : s = x := by
        have : x + 1 = s + 1 := hl
        omega
      subst hs
      refine ⟨List.mem_cons_self .., hv, ?_⟩
      show ch _ (if s = s then k + 1 else _) (k :: L2)
      rw [if_pos rfl]
      refine ⟨rfl, ?_⟩
      show ch _ (if k = s then k + 1 else if k = k then f s else f k) L2
      rw [if_neg hkx, if_pos rfl]
      refine ch_congr L2 _ (fun y hy => ?_) hc
      have y1 : y ≠ s := fun z => n1 (by rw [← z]; exact hy)
      have y2 : y ≠ k := fun z => hkL (by rw [← z]; exact hy)
      rw [if_neg y1, if_neg y2]
    | cons y L1 =>
      obtain ⟨i1, i2⟩ := ih (f x) (x + 1) L2 hc n2 hkL hl (by simp)
      have hxs : x ≠ s := fun z => n1 (by rw [z]; exact List.mem_append_left _ i1)
      refine ⟨List.mem_cons_of_mem _ i1, hv, ?_⟩
      show ch _ (if x = s then k + 1 else if x = k then f s else f x) _
      rw [if_neg hxs, if_neg (Ne.symm hkx)]
      exact i2
theorem lc_isToCome (hQ : cl_Q B c μ0 μ) (hP : REP B e t0 t1 σ c) (v : Int64) : mj_M G my_T_isToCome mY_T_isToCome [va_rf (some (cD B 0 0)), .long v] (mj_nc μ) (mj_ns μ) μ (mj_XI (fun x μ' => x = (if σ 43 0 ≤ v.toInt ∧ v.toInt ≤ 50000 then 1 else 0) ∧ μ' = μ)) := by
  have hx := hP.x
  have hnow : σ 43 0 ≤ 50000 := hP.v.2.2.2.2.2.2.2.2.2
  have e12 : c 0 12 0 = σ 43 0 := hP.h1.2.1.2.2.2.2
  refine mj_of (by decide) rfl (by decide) (Nat.le_of_ble_eq_true rfl) rfl ⟨Nat.le_refl _, Nat.le_refl _⟩ ?_
  refine bk_T_isToCome_0 ⟨hQ.t0 hx, ?_⟩
  rw [hQ.i0_12 hx, e12, nI_l (by omega), mj_jLT, mj_jLT, show (50000 : Int64).toInt = 50000 from by decide, pk_lT (by omega)]
  refine ⟨fun q => ?_, fun q => ⟨fun q2 => ?_, fun q2 => ?_⟩⟩
  · rw [if_neg (by omega)]
    exact ⟨⟨_, rfl, rfl, rfl⟩, rfl, rfl⟩
  · rw [if_neg (by omega)]
    exact ⟨⟨_, rfl, rfl, rfl⟩, rfl, rfl⟩
  · rw [if_pos (by omega)]
    exact ⟨⟨_, rfl, rfl, rfl⟩, rfl, rfl⟩
/-- REP over a book with one object more -/
theorem r16.ext (h : r16 B c) (K i a : Nat) : r16 (cl_ext B K i a) c := fun K' p i' hK hd => h K' p i' hK (fun z => hd (Or.inl z))
end CZ
