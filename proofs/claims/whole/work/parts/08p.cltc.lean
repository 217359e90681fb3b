/-- the class's tables -/
def tLo (i : Nat) : Nat := ([1, 1, 1, 1, 65537, 1, 1, 1, 1, 1, 0, 0, 1, 0] : List Nat).getD i 0
def tHi (i : Nat) : Nat := ([50000, 100, 100, 65535, 6619135, 65535, 32, 32, 16, 16, 0, 0, 50000, 0] : List Nat).getD i 0
def gS (G : mj_G) : Prop := (G.2.2.1.2 0).2.1 = 14 ∧ (G.2.2.1.2 1).2.1 = 14 ∧ (∀ i, i < 14 → (G.2.2.1.2 0).2.2 i = nI (tLo i)) ∧ ∀ i, i < 14 → (G.2.2.1.2 1).2.2 i = nI (tHi i)
theorem tb_good (n m : Nat) : an_good n m ↔ n < 14 ∧ tLo n ≤ m ∧ m ≤ tHi n ∧ (n = 4 → m % 65536 ≠ 0) := by
  by_cases h : n < 14
  · have : n = 0 ∨ n = 1 ∨ n = 2 ∨ n = 3 ∨ n = 4 ∨ n = 5 ∨ n = 6 ∨ n = 7 ∨ n = 8 ∨ n = 9 ∨ n = 10 ∨ n = 11 ∨ n = 12 ∨ n = 13 := by omega
    unfold an_good
    rcases this with rfl | rfl | rfl | rfl | rfl | rfl | rfl | rfl | rfl | rfl | rfl | rfl | rfl | rfl
    · show _ ↔ _ ∧ 1 ≤ m ∧ m ≤ 50000 ∧ _
      omega
    · show _ ↔ _ ∧ 1 ≤ m ∧ m ≤ 100 ∧ _
      omega
    · show _ ↔ _ ∧ 1 ≤ m ∧ m ≤ 100 ∧ _
      omega
    · show _ ↔ _ ∧ 1 ≤ m ∧ m ≤ 65535 ∧ _
      omega
    · show _ ↔ _ ∧ 65537 ≤ m ∧ m ≤ 6619135 ∧ _
      omega
    · show _ ↔ _ ∧ 1 ≤ m ∧ m ≤ 65535 ∧ _
      omega
    · show _ ↔ _ ∧ 1 ≤ m ∧ m ≤ 32 ∧ _
      omega
    · show _ ↔ _ ∧ 1 ≤ m ∧ m ≤ 32 ∧ _
      omega
    · show _ ↔ _ ∧ 1 ≤ m ∧ m ≤ 16 ∧ _
      omega
    · show _ ↔ _ ∧ 1 ≤ m ∧ m ≤ 16 ∧ _
      omega
    · show _ ↔ _ ∧ 0 ≤ m ∧ m ≤ 0 ∧ _
      omega
    · show _ ↔ _ ∧ 0 ≤ m ∧ m ≤ 0 ∧ _
      omega
    · show _ ↔ _ ∧ 1 ≤ m ∧ m ≤ 50000 ∧ _
      omega
    · show _ ↔ _ ∧ 0 ≤ m ∧ m ≤ 0 ∧ _
      omega
  · unfold an_good
    omega
theorem tLo_lt (n : Nat) (h : n < 14) : tLo n < 2 ^ 31 ∧ tHi n < 2 ^ 31 := by
  have : ∀ n, n < 14 → tLo n < 2 ^ 31 ∧ tHi n < 2 ^ 31 := by decide
  exact this n h
/-- the parts of a task -/
def pld (p : Nat → Nat) (t : Nat) : Nat → Nat → List Nat
  | 0, _ => []
  | d + 1, k => if p k = t then k :: pld p t d (k + 1) else pld p t d (k + 1)
theorem pld_ch {p f : Nat → Nat} {n t : Nat} (hf : ∀ j, j < n → p j = t → f j = nx p n t (j + 1)) : ∀ d k, k + d = n → ch f (nxd p t d k) (pld p t d k) := by
  intro d
  induction d with
  | zero => exact fun k _ => rfl
  | succ d ih =>
    intro k hk
    unfold nxd pld
    by_cases z : p k = t
    · rw [if_pos z, if_pos z]
      refine ⟨rfl, ?_⟩
      rw [hf k (by omega) z]
      unfold nx
      rw [show n - (k + 1) = d by omega]
      exact ih (k + 1) (by omega)
    · rw [if_neg z, if_neg z]
      exact ih (k + 1) (by omega)
theorem pld_mem (p : Nat → Nat) (t : Nat) : ∀ d k j, j ∈ pld p t d k ↔ (k ≤ j ∧ j < k + d) ∧ p j = t := by
  intro d
  induction d with
  | zero =>
    intro k j
    exact ⟨fun h => (by cases h), fun h => by omega⟩
  | succ d ih =>
    intro k j
    unfold pld
    by_cases z : p k = t
    · rw [if_pos z, List.mem_cons, ih]
      constructor
      · rintro (h | h)
        · rw [h]
          exact ⟨by omega, z⟩
        · exact ⟨by omega, h.2⟩
      · intro h
        by_cases y : j = k
        · exact Or.inl y
        · exact Or.inr ⟨by omega, h.2⟩
    · rw [if_neg z, ih]
      constructor
      · intro h
        exact ⟨by omega, h.2⟩
      · intro h
        have : j ≠ k := fun y => by
          rw [y] at h
          exact z h.2
        exact ⟨by omega, h.2⟩
theorem pld_sorted (p : Nat → Nat) (t : Nat) : ∀ d k, (pld p t d k).Pairwise (fun a b => a < b) := by
  intro d
  induction d with
  | zero => exact fun k => List.Pairwise.nil
  | succ d ih =>
    intro k
    unfold pld
    split
    · refine List.pairwise_cons.mpr ⟨fun j hj => ?_, ih _⟩
      have := ((pld_mem p t d (k + 1) j).mp hj).1
      omega
    · exact ih _
theorem pld_len (p : Nat → Nat) (t : Nat) : ∀ d k, (pld p t (d + 1) k).length = (pld p t d k).length + if p (k + d) = t then 1 else 0 := by
  intro d
  induction d with
  | zero =>
    intro k
    show (if p k = t then k :: pld p t 0 (k + 1) else pld p t 0 (k + 1)).length = 0 + if p k = t then 1 else 0
    by_cases z : p k = t
    · rw [if_pos z, if_pos z]
      rfl
    · rw [if_neg z, if_neg z]
      rfl
  | succ d ih =>
    intro k
    have := ih (k + 1)
    rw [show k + 1 + d = k + (d + 1) by omega] at this
    show (if p k = t then k :: pld p t (d + 1) (k + 1) else pld p t (d + 1) (k + 1)).length = (if p k = t then k :: pld p t d (k + 1) else pld p t d (k + 1)).length + _
    by_cases z : p k = t
    · rw [if_pos z, if_pos z, List.length_cons, List.length_cons, this]
      omega
    · rw [if_neg z, if_neg z, this]
theorem cnt_len (σ : ss_S) (t : Nat) : ∀ n, sp_cnt σ t n = (pld (σ 8) t n 0).length := by
  intro n
  induction n with
  | zero => rfl
  | succ n ih =>
    rw [pld_len, Nat.zero_add, ← ih]
    show (if σ 8 n = t then sp_cnt σ t n + 1 else sp_cnt σ t n) = _
    by_cases z : σ 8 n = t
    · rw [if_pos z, if_pos z]
    · rw [if_neg z, if_neg z]
      rfl
theorem pld_cg {p p' : Nat → Nat} (t : Nat) : ∀ d k, (∀ j, k ≤ j → j < k + d → p' j = p j) → pld p' t d k = pld p t d k := by
  intro d
  induction d with
  | zero => exact fun k _ => rfl
  | succ d ih =>
    intro k h
    unfold pld
    rw [h k (Nat.le_refl _) (by omega), ih (k + 1) (fun j h1 h2 => h j (by omega) (by omega))]
theorem nxd_add {p p' : Nat → Nat} {n t t' : Nat} (hp : ∀ j, j < n → p' j = p j) (hn : p' n = t) : ∀ d k, k + d = n → nxd p' t' (d + 1) k = if nxd p t' d k ≠ 0 then nxd p t' d k else if t' = t then n + 1 else 0 := by
  intro d
  induction d with
  | zero =>
    intro k hk
    have : k = n := by omega
    subst this
    show (if p' k = t' then k + 1 else nxd p' t' 0 (k + 1)) = if (0 : Nat) ≠ 0 then 0 else if t' = t then k + 1 else 0
    rw [hn]
    by_cases z : t' = t
    · rw [if_pos z.symm, if_neg (fun z => z rfl), if_pos z]
    · rw [if_neg (fun y => z y.symm), if_neg (fun z => z rfl), if_neg z]
      rfl
  | succ d ih =>
    intro k hk
    show (if p' k = t' then k + 1 else nxd p' t' (d + 1) (k + 1)) = _
    rw [hp k (by omega)]
    show _ = if (if p k = t' then k + 1 else nxd p t' d (k + 1)) ≠ 0 then (if p k = t' then k + 1 else nxd p t' d (k + 1)) else if t' = t then n + 1 else 0
    by_cases z : p k = t'
    · rw [if_pos z, if_pos z, if_pos (by omega)]
    · rw [if_neg z, if_neg z]
      exact ih (k + 1) (by omega)
theorem nx_add {p p' : Nat → Nat} {n t : Nat} (t' k : Nat) (hp : ∀ j, j < n → p' j = p j) (hn : p' n = t) (hk : k ≤ n) : nx p' (n + 1) t' k = if nx p n t' k ≠ 0 then nx p n t' k else if t' = t then n + 1 else 0 := by
  unfold nx
  rw [show n + 1 - k = n - k + 1 by omega]
  exact nxd_add hp hn (n - k) k (by omega)
theorem ch_last {f : Nat → Nat} : ∀ (L : List Nat) (v w j : Nat), ch f v L → L.Nodup → j ∈ L → (f j = 0 ↔ lastw L w = j + 1) := by
  intro L
  induction L with
  | nil => exact fun v w j _ _ h => (by cases h)
  | cons x L ih =>
    intro v w j hc hn hj
    obtain ⟨hv, hc⟩ := hc
    obtain ⟨n1, n2⟩ := List.nodup_cons.mp hn
    cases L with
    | nil =>
      have : j = x := by
        rcases List.mem_cons.mp hj with z | z
        · exact z
        · cases z
      subst this
      exact ⟨fun _ => rfl, fun _ => hc⟩
    | cons y L =>
      rcases List.mem_cons.mp hj with z | z
      · subst z
        constructor
        · intro h
          rw [h] at hc
          exact absurd hc.1 (by omega)
        · intro h
          exfalso
          have h' : lastw (y :: L) (j + 1) = j + 1 := h
          have key : ∀ (M : List Nat) (w : Nat), M ≠ [] → ∃ s, s ∈ M ∧ lastw M w = s + 1 := by
            intro M
            induction M with
            | nil => exact fun w h => absurd rfl h
            | cons a M ihM =>
              intro w _
              cases M with
              | nil => exact ⟨a, List.mem_cons_self .., rfl⟩
              | cons b M =>
                obtain ⟨s, h1, h2⟩ := ihM (a + 1) (by simp)
                exact ⟨s, List.mem_cons_of_mem _ h1, h2⟩
          obtain ⟨s, h1, h2⟩ := key (y :: L) (j + 1) (by simp)
          rw [h2] at h'
          have : s = j := by omega
          exact n1 (by rw [← this]; exact h1)
      · exact ih (f x) (x + 1) j hc n2 z
theorem cfc_cg {a a' p p' q q' u u' : Nat → Nat} (r : Nat) : ∀ n, (∀ k, k < n → p' k = p k ∧ q' k = q k ∧ u' k = u k ∧ a' (p k) = a (p k)) → cfc a' p' q' u' r n = cfc a p q u r n := by
  intro n
  induction n with
  | zero => exact fun _ => rfl
  | succ n ih =>
    intro h
    obtain ⟨h1, h2, h3, h4⟩ := h n (by omega)
    unfold cfc
    rw [ih (fun k hk => h k (by omega)), h1, h2, h3, h4]
section TC
variable {G : mj_G} {B : cl_B} {e t0 t1 : Nat} {σ τ : ss_S} {c : cc_S} {μ μ0 : mj_MM} {Ex : Option Value → mj_MM → Prop} {N S : Nat}
theorem lc_mayBePart (hG : gS G) (v : Int32) (w : Int64) : mj_M G my_T_mayBePart mY_T_mayBePart [.int v, .long w] (mj_nc μ) (mj_ns μ) μ (mj_XI (fun x μ' => x = (if an_good v.toInt w.toInt then 1 else 0) ∧ μ' = μ)) := by
  obtain ⟨g1, g2, g3, g4⟩ := hG
  refine mj_of (by decide) rfl (by decide) (Nat.le_of_ble_eq_true rfl) rfl ⟨Nat.le_refl _, Nat.le_refl _⟩ ?_
  refine bk_T_mayBePart_0 ?_
  rw [g1, g2, mj_iLT, show (0 : Int32).toInt = 0 from by decide]
  refine ⟨fun z => ?_, fun z => ?_⟩
  · rw [if_neg (by unfold an_good; omega)]
    exact ⟨⟨_, rfl, rfl, rfl⟩, rfl, rfl⟩
  · obtain ⟨n, n1, rfl, n3⟩ := mj_nn (v := v) (by omega)
    rw [n3, mj_le (by decide) n1, mj_lt n1 (by decide)]
    refine ⟨fun y => ?_, fun y => ⟨fun _ => ⟨vp_in_nI (by omega) (by decide), ?_⟩, fun y2 => absurd (by omega) y2⟩⟩
    · rw [if_neg (by unfold an_good; omega)]
      exact ⟨⟨_, rfl, rfl, rfl⟩, rfl, rfl⟩
    · obtain ⟨b1, b2⟩ := tLo_lt n (by omega)
      rw [nI_clamp n1, g3 n (by omega), g4 n (by omega), nI_l b1, nI_l b2, mj_jLT, mj_jLE, pk_lT (by omega), pk_lT (by omega)]
      by_cases hw : 0 ≤ w.toInt
      · obtain ⟨m, m1, rfl, m3⟩ := mj_LL hw
        rw [m3]
        have hg := tb_good n m
        refine ⟨fun q => ?_, fun q => ⟨vp_in_nI (by omega) (by decide), fun q2 => ?_, fun q2 => ?_⟩⟩
        · rw [if_neg (fun z => by have := hg.mp z; omega)]
          exact ⟨⟨_, rfl, rfl, rfl⟩, rfl, rfl⟩
        · have e4 : (nI n = 4) = (n = 4) := by rw [mj_c4, mj_zz n1 (by decide)]
          have er : (lN m - lN m / 65536 * 65536 = 0) = (m % 65536 = 0) := by
            rw [show (65536 : Int64) = lN 65536 from rfl, pk_lRem m1 (by decide) (by decide)]
            apply propext
            rw [show (0 : Int64) = lN 0 from rfl]
            exact pk_lEQ (by omega) (by decide)
          rw [e4, er]
          refine ⟨fun q3 => ?_, fun q3 => ⟨fun q4 => ?_, fun q4 => ?_⟩⟩
          · rw [if_pos (hg.mpr ⟨by omega, by omega, by omega, fun q4 => absurd q4 q3⟩)]
            exact ⟨⟨_, rfl, rfl, rfl⟩, rfl, rfl⟩
          · rw [if_neg (fun z => (hg.mp z).2.2.2 q3 q4)]
            exact ⟨⟨_, rfl, rfl, rfl⟩, rfl, rfl⟩
          · rw [if_pos (hg.mpr ⟨by omega, by omega, by omega, fun _ => q4⟩)]
            exact ⟨⟨_, rfl, rfl, rfl⟩, rfl, rfl⟩
        · rw [if_neg (fun z => by have := hg.mp z; omega)]
          exact ⟨⟨_, rfl, rfl, rfl⟩, rfl, rfl⟩
      · have hb : ¬ an_good (n : Int) w.toInt := by
          unfold an_good
          omega
        rw [if_neg hb]
        refine ⟨fun q => ⟨⟨_, rfl, rfl, rfl⟩, rfl, rfl⟩, fun q => absurd (by omega) q⟩
theorem rl_addP (hQ : cl_Q B c μ0 μ) (k : Nat) (hk : cL B 6 k) (hkb : k + 1 < 2 ^ 31) : ∀ (L : List Nat) (v s n : Nat), ch (c 6 2) v L → (∀ j ∈ L, cL B 6 j) → cL B 6 s → (∀ l, lastw L (s + 1) = l + 1 → cL B 6 l → cl_Q B (cc_u c 6 2 l (k + 1)) μ0 (mj_pR μ (cD B 6 l) 2 (some (cD B 6 k))) → Ex (some (.int (nI (n + L.length)))) (mj_pR μ (cD B 6 l) 2 (some (cD B 6 k)))) →
    mj_J G mY_K_addPart Ex N S 16 [(1, va_rf (some (cD B 6 k))), (2, .int (nI n)), (3, va_rf (some (cD B 6 s))), (4, va_rf (cl_ref B 6 v))] [] μ := by
  intro L
  induction L with
  | nil =>
    intro v s n hc hl hs he
    have hv : v = 0 := hc
    subst hv
    exact bk_K_addPart_16 ⟨fun _ => ⟨_, rfl, hQ.t6 hs, he s rfl hs (hQ.pR 6 2 s (k + 1) hs (by decide) hkb (Or.inr hk))⟩, fun b z => (by cases z)⟩
  | cons x L ih =>
    intro v s n hc hl hs he
    obtain ⟨hv, hc⟩ := hc
    subst hv
    have hx := hl x (List.mem_cons_self ..)
    refine bk_K_addPart_16 ⟨fun z => (by cases z), fun b z => ?_⟩
    cases z
    refine ⟨hQ.t6 hx, ?_⟩
    rw [nI_1, hQ.r6_2 hx]
    refine ih (c 6 2 x) x (n + 1) hc (fun j hj => hl j (List.mem_cons_of_mem _ hj)) hx (fun l h1 h2 h3 => ?_)
    have := he l h1 h2 h3
    rw [List.length_cons, show n + (L.length + 1) = n + 1 + L.length by omega] at this
    exact this
end TC
