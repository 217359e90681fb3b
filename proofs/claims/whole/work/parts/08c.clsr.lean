/-- one interrupt served: form 0 it stays, 1 it was the first, 2 it stood behind s -/
def cs_sv (f s : Nat) (c : cc_S) (j q : Nat) : cc_S :=
  if f = 0 then cc_u c 2 2 j (c 2 2 j - q) else if f = 1 then cc_u (cc_u c 2 2 j (c 2 2 j - q)) 3 0 0 (c 2 3 j) else cc_u (cc_u c 2 2 j (c 2 2 j - q)) 2 3 s (c 2 3 j)
def vf (f s : Nat) (c : cc_S) (j q : Nat) (L : List Nat) : Prop :=
  (f = 0 ∧ 0 < c 2 2 j - q) ∨ (f = 1 ∧ c 2 2 j - q = 0 ∧ c 3 0 0 = j + 1) ∨ (f = 2 ∧ c 2 2 j - q = 0 ∧ s ∈ L ∧ c 2 3 s = j + 1)
theorem ch_del {f : Nat → Nat} {j : Nat} : ∀ (L : List Nat) (v s : Nat), ch f v L → L.Nodup → s ∈ L → f s = j + 1 → j ∈ L ∧ ch (fun x => if x = s then f j else f x) v (L.filter (fun x => decide (x ≠ j))) := by
  intro L
  induction L with
  | nil => exact fun v s _ _ h => (by cases h)
  | cons x L ih =>
    intro v s hc hn hs hf
    obtain ⟨hv, hc⟩ := hc
    obtain ⟨n1, n2⟩ := List.nodup_cons.mp hn
    by_cases q : x = s
    · subst q
      cases L with
      | nil =>
        have : f x = 0 := hc
        omega
      | cons y L =>
        have hy : y = j := by
          have := hc.1
          omega
        subst hy
        obtain ⟨n3, n4⟩ := List.nodup_cons.mp n2
        have hxy : x ≠ y := fun z => n1 (by rw [z]; exact List.mem_cons_self ..)
        have hxL : x ∉ L := fun z => n1 (List.mem_cons_of_mem _ z)
        refine ⟨List.mem_cons_of_mem _ (List.mem_cons_self ..), ?_⟩
        have e1 : (x :: y :: L).filter (fun z => decide (z ≠ y)) = x :: L := by
          rw [List.filter_cons_of_pos (by simpa using hxy), List.filter_cons_of_neg (by simp)]
          congr 1
          rw [List.filter_eq_self]
          intro z hz
          have : z ≠ y := fun w => n3 (by rw [← w]; exact hz)
          simpa using this
        rw [e1]
        refine ⟨hv, ?_⟩
        show ch _ (if x = x then f y else f x) L
        rw [if_pos rfl]
        refine ch_congr L _ (fun z hz => ?_) hc.2
        rw [if_neg (fun w => hxL (by rw [← w]; exact hz))]
    · have hsL : s ∈ L := (List.mem_cons.mp hs).resolve_left (fun z => q z.symm)
      obtain ⟨i1, i2⟩ := ih (f x) s hc n2 hsL hf
      have hxj : x ≠ j := fun z => n1 (by rw [z]; exact i1)
      refine ⟨List.mem_cons_of_mem _ i1, ?_⟩
      rw [List.filter_cons_of_pos (by simpa using hxj)]
      refine ⟨hv, ?_⟩
      show ch _ (if x = s then f j else f x) _
      rw [if_neg q]
      exact i2
theorem ch_tl {f : Nat → Nat} {j v : Nat} {L : List Nat} (hc : ch f v L) (hn : L.Nodup) (hv : v = j + 1) : ch f (f j) (L.filter (fun x => decide (x ≠ j))) := by
  cases L with
  | nil =>
    have : v = 0 := hc
    omega
  | cons x L =>
    have hx : x = j := by
      have := hc.1
      omega
    subst hx
    obtain ⟨n1, n2⟩ := List.nodup_cons.mp hn
    rw [List.filter_cons_of_neg (by simp)]
    have e1 : L.filter (fun z => decide (z ≠ x)) = L := by
      rw [List.filter_eq_self]
      intro z hz
      have : z ≠ x := fun w => n1 (by rw [← w]; exact hz)
      simpa using this
    rw [e1]
    exact hc.2
section CRR
variable {G : mj_G} {B : cl_B} {e t0 t1 b : Nat} {σ : ss_S} {c : cc_S} {μ μ0 : mj_MM} {Ex : Option Value → mj_MM → Prop} {N S : Nat}
theorem REP.serve (hP : REP B e t0 t1 σ c) (f s j q : Nat) (hj : j < σ 35 0) (h0 : 0 < σ 38 j) (L : List Nat) (w1 : ch (c 2 3) (c 3 0 0) L) (w2 : ∀ k, k ∈ L ↔ k < σ 35 0 ∧ 0 < σ 38 k) (w3 : L.Pairwise (fun a b => σ 36 b < σ 36 a ∨ (σ 36 a = σ 36 b ∧ a < b))) (hv : vf f s c j q L) : REP B e t0 t1 (ss_u σ 38 j (σ 38 j - q)) (cs_sv f s c j q) := by
  have hij := hP.i hj
  have hu := hP.u
  have e2 := (hP.h10.1 j hj).2.2
  have hni : ∀ k ∈ L, cL B 2 k := fun k hk => hP.i ((w2 k).mp hk).1
  obtain ⟨hb, h1, h2, h3, h4, h5, h6, h7, h8, h9, ⟨h10a, h10b, h10c, h10d, h10e⟩, h11, h12, h13, h14, h15, h16⟩ := hP
  have hnd : L.Nodup := w3.imp (fun {a b} h z => by rw [z] at h; omega)
  have hjL : j ∈ L := (w2 j).mpr ⟨hj, h0⟩
  have n10 : ∀ k, k < σ 35 0 → cc_u c 2 2 j (c 2 2 j - q) 2 2 k = ss_u σ 38 j (σ 38 j - q) 38 k := fun k hk => by
    rw [cc_ue, ss_ue]
    by_cases z : k = j
    · rw [if_pos z, if_pos z, e2]
    · rw [if_neg z, if_neg z]
      exact (h10a k hk).2.2
  have mem : σ 38 j - q = 0 → ∀ k, k ∈ L.filter (fun x => decide (x ≠ j)) ↔ k < σ 35 0 ∧ 0 < ss_u σ 38 j (σ 38 j - q) 38 k := fun hz k => by
    rw [List.mem_filter, w2 k, ss_ue]
    by_cases z : k = j
    · rw [if_pos z, hz]
      simp [z]
    · rw [if_neg z]
      simp [z]
  unfold cs_sv
  rcases hv with ⟨rfl, hv⟩ | ⟨rfl, hv, hv2⟩ | ⟨rfl, hv, hv2, hv3⟩
  · rw [if_pos rfl]
    refine ⟨hb, h1, h2, h3, h4, h5, h6, h7, h8, h9, ⟨fun k hk => ⟨(h10a k hk).1, (h10a k hk).2.1, n10 k hk⟩, h10b, h10c, h10d, L, w1, fun k => ?_, w3⟩, h11, h12, h13, h14, h15, h16.u 2 2 j _ (Or.inl hij)⟩
    rw [w2 k]
    show _ ↔ k < σ 35 0 ∧ 0 < ss_u σ 38 j (σ 38 j - q) 38 k
    rw [ss_ue]
    by_cases z : k = j
    · rw [if_pos z, z]
      exact ⟨fun y => ⟨y.1, by omega⟩, fun y => ⟨y.1, h0⟩⟩
    · rw [if_neg z]
  · rw [if_neg (by decide), if_pos rfl]
    exact ⟨hb, h1, h2, h3, h4, h5, h6, h7, h8, h9, ⟨fun k hk => ⟨(h10a k hk).1, (h10a k hk).2.1, n10 k hk⟩, h10b, h10c, h10d, _, ch_tl w1 hnd hv2, mem (by omega), w3.filter _⟩, h11, h12, h13, h14, h15, (h16.u 2 2 j _ (Or.inl hij)).u 3 0 0 _ (Or.inl hu)⟩
  · rw [if_neg (by decide), if_neg (by decide)]
    refine ⟨hb, h1, h2, h3, h4, h5, h6, h7, h8, h9, ⟨fun k hk => ⟨(h10a k hk).1, (h10a k hk).2.1, n10 k hk⟩, h10b, h10c, h10d, L.filter (fun x => decide (x ≠ j)), ?_, mem (by omega), w3.filter _⟩, h11, h12, h13, h14, h15, (h16.u 2 2 j _ (Or.inl hij)).u 2 3 s _ (Or.inl (hni s hv2))⟩
    exact ch_congr _ _ (fun x _ => cc_ue _ 2 3 s (c 2 3 j) x) (ch_del L _ s w1 hnd hv2 hv3).2
theorem rl_serveC (hQ : cl_Q B c μ0 μ) (j : Nat) (hj : cL B 2 j) (h22 : Nat) (hb : h22 < 2 ^ 31) : ∀ (L : List Nat) (v : Nat), ch (c 2 3) v L → (∀ k ∈ L, cL B 2 k) → v ≠ j + 1 → j ∈ L → (∀ s μ', s ∈ L → c 2 3 s = j + 1 → cl_Q B (cc_u (cc_u c 2 2 j h22) 2 3 s (c 2 3 j)) μ0 μ' → mj_nc μ' = mj_nc μ → mj_ns μ' = mj_ns μ → Ex none μ') →
    mj_J G mY_U_serve Ex N S 40 [(1, va_rf (some (cD B 2 j))), (3, va_rf (cl_ref B 2 v))] [] (mj_pI μ (cD B 2 j) 2 (nI h22)) := by
  have hQ1 := hQ.pI 2 2 j h22 hj (by decide) hb
  intro L
  induction L with
  | nil => exact fun v _ _ _ h => (by cases h)
  | cons x L ih =>
    intro v hc hl hv hm he
    obtain ⟨hv', hc⟩ := hc
    subst hv'
    have hx := hl x (List.mem_cons_self ..)
    have hxj : x ≠ j := fun z => hv (by rw [z])
    have hmL : j ∈ L := (List.mem_cons.mp hm).resolve_left (fun z => hxj z.symm)
    refine bk_U_serve_40 ⟨fun z => (by cases z), fun b z => ?_⟩
    cases z
    rw [show mj_r (mj_pI μ (cD B 2 j) 2 (nI h22)) (cD B 2 x) 3 = cl_ref B 2 (c 2 3 x) from hQ.r2_3 hx]
    have ei : (cl_ref B 2 (c 2 3 x) = some (cD B 2 j)) = (c 2 3 x = j + 1) := by
      rw [show some (cD B 2 j) = cl_ref B 2 (j + 1) from rfl]
      exact cl_ref_inj hQ.1 (hQ.l2_3 hx) (Or.inr hj)
    rw [ei]
    refine ⟨hQ.t2 hx, fun z => ih (c 2 3 x) hc (fun y hy => hl y (List.mem_cons_of_mem _ hy)) z hmL (fun s μ' h1 => he s μ' (List.mem_cons_of_mem _ h1)), fun z => ⟨_, rfl, hQ.t2 hj, ?_⟩⟩
    rw [show mj_r (mj_pI μ (cD B 2 j) 2 (nI h22)) (cD B 2 j) 3 = cl_ref B 2 (c 2 3 j) from hQ.r2_3 hj]
    exact he x _ (List.mem_cons_self ..) z (hQ1.pR 2 3 x (c 2 3 j) hx (by decide) (hQ.b 2 3 j (by decide)) (hQ.l2_3 hj)) rfl rfl
theorem lc_serve (hQ : cl_Q B c μ0 μ) (hu : cL B 3 0) (j q : Nat) (L : List Nat) (w1 : ch (c 2 3) (c 3 0 0) L) (hL : ∀ k ∈ L, cL B 2 k) (hj : j ∈ L) (hq : q ≤ c 2 2 j) : mj_M G my_U_serve mY_U_serve [va_rf (some (cD B 3 0)), va_rf (some (cD B 2 j)), .int (nI q)] (mj_nc μ) (mj_ns μ) μ (mj_XV (fun μ' => ∃ f s, vf f s c j q L ∧ cl_Q B (cs_sv f s c j q) μ0 μ')) := by
  have hij := hL j hj
  have b22 := hQ.b 2 2 j (by decide)
  have hQ1 := hQ.pI 2 2 j (c 2 2 j - q) hij (by decide) (by omega)
  refine mj_of (by decide) rfl (by decide) (Nat.le_of_ble_eq_true rfl) rfl ⟨Nat.le_refl _, Nat.le_refl _⟩ ?_
  refine bk_U_serve_0 ⟨_, rfl, hQ.t2 hij, ?_⟩
  rw [hQ.i2_2 hij, nI_subN hq, mj_le0 (by omega), hQ.r3_0 hu, hQ.r2_3 hij]
  have ei : (cl_ref B 2 (c 3 0 0) = some (cD B 2 j)) = (c 3 0 0 = j + 1) := by
    rw [show some (cD B 2 j) = cl_ref B 2 (j + 1) from rfl]
    exact cl_ref_inj hQ.1 (hQ.l3_0 hu) (Or.inr hij)
  rw [ei]
  refine ⟨fun z => ⟨hQ.t3 hu, fun y => ?_, fun y => ?_⟩, fun z => ?_⟩
  · refine rl_serveC hQ j hij (c 2 2 j - q) (by omega) L (c 3 0 0) w1 hL y hj (fun s μ' h1 h2 h3 r1 r2 => ⟨⟨rfl, 2, s, Or.inr (Or.inr ⟨rfl, z, h1, h2⟩), ?_⟩, r1, r2⟩)
    unfold cs_sv
    rw [if_neg (by decide), if_neg (by decide)]
    exact h3
  · refine ⟨⟨rfl, 1, 0, Or.inr (Or.inl ⟨rfl, z, y⟩), ?_⟩, rfl, rfl⟩
    unfold cs_sv
    rw [if_neg (by decide), if_pos rfl]
    exact hQ1.pR 3 0 0 (c 2 3 j) hu (by decide) (hQ.b 2 3 j (by decide)) (hQ.l2_3 hij)
  · refine ⟨⟨rfl, 0, 0, Or.inl ⟨rfl, by omega⟩, ?_⟩, rfl, rfl⟩
    unfold cs_sv
    rw [if_pos rfl]
    exact hQ1
end CRR
