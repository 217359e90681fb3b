theorem onl_cg {s s' : Nat → Nat} (k : Nat) : ∀ n, (∀ t, 1 ≤ t → t ≤ n → s' t = s t) → onl s' k n = onl s k n := by
  intro n
  induction n with
  | zero => exact fun _ => rfl
  | succ n ih =>
    intro h
    unfold onl
    rw [h (n + 1) (by omega) (by omega), ih (fun t h1 h2 => h t h1 (by omega))]
theorem lastw_getLast : ∀ (L : List Nat) (w : Nat), lastw L w = match L.getLast? with | none => w | some t => t + 1 := by
  intro L
  induction L with
  | nil => exact fun w => rfl
  | cons x L ih =>
    intro w
    show lastw L (x + 1) = _
    rw [ih]
    cases L with
    | nil => rfl
    | cons y L =>
      rw [List.getLast?_cons_cons]
      cases h : (y :: L).getLast? with
      | none => simp at h
      | some t => rfl
theorem ch_snoc {f : Nat → Nat} {k : Nat} : ∀ (L : List Nat) (v : Nat), ch f v L → L.Nodup → k ∉ L → f k = 0 → (L = [] → ch f (k + 1) [k]) ∧ ∀ s, lastw L 0 = s + 1 → L ≠ [] → s ∈ L ∧ ch (fun x => if x = s then k + 1 else f x) v (L ++ [k]) := by
  intro L v hc hn hk hz
  refine ⟨fun _ => ⟨rfl, hz⟩, fun s hs hne => ?_⟩
  have := ch_app hz L v s 0 hc hn hk hne hs
  exact this
section TE
variable {G : mj_G} {B : cl_B} {e t0 t1 : Nat} {σ τ : ss_S} {c : cc_S} {μ μ0 : mj_MM} {Ex : Option Value → mj_MM → Prop} {N S : Nat}
/-- the state of the class with a new task -/
def cs_task (c : cc_S) (T r k a e : Nat) : cc_S :=
  cc_u (cc_u (cc_u (cc_u (cc_u (cc_u (cc_u (cc_u (cc_u (cc_u (cc_u (cc_u c 0 9 0 T) 8 5 T 1) 6 0 (1000 + T) 0) 6 1 (1000 + T) 1) 8 6 T (1000 + T + 1)) 8 9 T 0) 8 0 T T) 8 1 T r) 8 2 T (k + 1)) 8 3 T a) 8 4 T e) 10 0 T (T + 1)
def cs_core (c : cc_S) (T k : Nat) : cc_S := if c 1 3 k = 0 then cc_u (cc_u c 1 2 k (T + 1)) 1 3 k (T + 1) else cc_u (cc_u c 8 17 (c 1 3 k - 1) (T + 1)) 1 3 k (T + 1)
theorem REP.newT (hP : REP B 0 0 0 σ c) (a1 a2 r k a e : Nat) (hr : r ≤ 255) (hk : k < σ 0 0) (ha : 1 ≤ a ∧ a ≤ 100) (h1 : σ 1 0 < 100) : REP (cl_ext (cl_ext B 8 (σ 1 0 + 1) a1) 6 (1000 + (σ 1 0 + 1)) a2) 0 0 0 (an_new σ r k a e) (cs_core (cs_task c (σ 1 0 + 1) r k a e) (σ 1 0 + 1) k) := by
  have hx := hP.x
  have hck := hP.co hk
  have hh2 := hP.h2
  have hd8 : ¬ cL B 8 (σ 1 0 + 1) := fun z => by
    have := (hP.b.2.2.2.2.2.2.2.1 _).mp z
    omega
  have hd6 : ¬ cL B 6 (1000 + (σ 1 0 + 1)) := fun z => by
    have := (hP.b.2.2.2.2.2.2.2.2.1 _).mp z
    have := hP.v.2.2.1
    omega
  have z8 : ∀ p, c 8 p (σ 1 0 + 1) = 0 := fun p => hP.h16 8 p _ (by decide) hd8
  have z6 : ∀ p, c 6 p (1000 + (σ 1 0 + 1)) = 0 := fun p => hP.h16 6 p _ (by decide) hd6
  have h7 := hP.v.2.2.1
  have hkk := fun t ht => hP.k (t := t) ht
  have hm17 := fun t => onl_mem (σ 3) k (σ 1 0) t
  obtain ⟨hb, p1, p2, ⟨p3a, p3b, p3c, p3d, p3e, p3f⟩, p4, ⟨p5a, p5b, p5c, p5d, p5e⟩, p6, ⟨p7a, p7b, p7c⟩, ⟨p8a, p8b, p8c⟩, ⟨p9a, p9b, p9c, p9d⟩, p10, ⟨p11a, p11b⟩, p12, p13, ⟨p14a, p14b, p14c⟩, p15, p16⟩ := hP
  obtain ⟨d11, d12, d13, d14, d16, d17, d18, d19, d20, d26, d27⟩ := p14c (σ 1 0 + 1) (by omega)
  generalize hT : σ 1 0 + 1 = T at *
  have vT : ∀ t, 1 ≤ t ∧ t ≤ T → t ≠ T → 1 ≤ t ∧ t ≤ σ 1 0 := fun t ht hne => by omega
  have st : ∀ f t, f ≠ 1 → t ≠ T → an_new σ r k a e f t = σ f t := fun f t hf hne => by
    unfold an_new
    rw [hT, ss_ui _ _ _ _ hne, ss_ui _ _ _ _ hne, ss_ui _ _ _ _ hne, ss_ui _ _ _ _ hne, ss_ui _ _ _ _ hne, ss_uf _ _ _ _ hf]
  have so : ∀ f t, f ≠ 1 → f ≠ 2 → f ≠ 3 → f ≠ 4 → f ≠ 5 → f ≠ 6 → an_new σ r k a e f t = σ f t := fun f t h1 h2 h3 h4 h5 h6 => by
    unfold an_new
    rw [ss_uf _ _ _ _ h6, ss_uf _ _ _ _ h5, ss_uf _ _ _ _ h4, ss_uf _ _ _ _ h3, ss_uf _ _ _ _ h2, ss_uf _ _ _ _ h1]
  have s1 : an_new σ r k a e 1 0 = T := by
    unfold an_new
    rw [hT]
    rfl
  have s3 : ∀ t, an_new σ r k a e 3 t = if t = T then k else σ 3 t := fun t => by
    unfold an_new
    rw [hT, ss_uf _ _ _ _ (by decide), ss_uf _ _ _ _ (by decide), ss_uf _ _ _ _ (by decide), ss_ue]
    rfl
  have sT : an_new σ r k a e 2 T = r ∧ an_new σ r k a e 4 T = a ∧ an_new σ r k a e 5 T = e ∧ an_new σ r k a e 6 T = 1 := by
    unfold an_new
    rw [hT]
    simp [ss_u]
  -- the class's numbers
  have ct : ∀ p t, t ≠ T → cs_task c T r k a e 8 p t = c 8 p t := fun p t hne => by
    unfold cs_task cc_u
    simp [hne]
  have cT : ∀ p, p ≠ 0 → p ≠ 1 → p ≠ 2 → p ≠ 3 → p ≠ 4 → p ≠ 5 → p ≠ 6 → cs_task c T r k a e 8 p T = 0 := fun p h0 h1 h2 h3 h4 h5 h6 => by
    unfold cs_task cc_u
    simp [h0, h1, h2, h3, h4, h5, h6, z8]
  have cTs : cs_task c T r k a e 8 0 T = T ∧ cs_task c T r k a e 8 1 T = r ∧ cs_task c T r k a e 8 2 T = k + 1 ∧ cs_task c T r k a e 8 3 T = a ∧ cs_task c T r k a e 8 4 T = e ∧ cs_task c T r k a e 8 5 T = 1 ∧ cs_task c T r k a e 8 6 T = 1000 + T + 1 := by
    unfold cs_task cc_u
    simp
  have c6 : ∀ p j, cs_task c T r k a e 6 p j = if j = 1000 + T ∧ p = 1 then 1 else c 6 p j := fun p j => by
    unfold cs_task cc_u
    by_cases y : j = 1000 + T
    · by_cases y1 : p = 1
      · simp [y, y1]
      · by_cases y0 : p = 0
        · have := z6 0
          simp [y, y0, this]
        · simp [y, y1, y0]
    · simp [y]
  have co : ∀ K p i, K ≠ 0 → K ≠ 6 → K ≠ 8 → K ≠ 10 → cs_task c T r k a e K p i = c K p i := fun K p i h0 h6 h8 h10 => by
    unfold cs_task cc_u
    simp [h0, h6, h8, h10]
  have c13 : cs_task c T r k a e 1 3 k = c 1 3 k := co 1 3 k (by decide) (by decide) (by decide) (by decide)
  have fo : ∀ K p i, ¬ (K = 1 ∧ (p = 2 ∨ p = 3) ∧ i = k) → ¬ (K = 8 ∧ p = 17) → cs_core (cs_task c T r k a e) T k K p i = cs_task c T r k a e K p i := fun K p i h1 h2 => by
    unfold cs_core
    split
    · unfold cc_u
      by_cases y : K = 1
      · by_cases y2 : i = k
        · have : p ≠ 2 ∧ p ≠ 3 := by omega
          simp [y, y2, this.1, this.2]
        · simp [y, y2]
      · simp [y]
    · unfold cc_u
      by_cases y : K = 1
      · by_cases y2 : i = k
        · have : p ≠ 3 := by omega
          simp [y, y2, this]
        · simp [y, y2]
      · by_cases y8 : K = 8
        · have : p ≠ 17 := by omega
          simp [y8, this]
        · simp [y, y8]
  have f8 : ∀ p t, p ≠ 17 → cs_core (cs_task c T r k a e) T k 8 p t = cs_task c T r k a e 8 p t := fun p t hp => fo 8 p t (by omega) (by omega)
  have f8o : ∀ p t, p ≠ 17 → t ≠ T → cs_core (cs_task c T r k a e) T k 8 p t = c 8 p t := fun p t hp hne => (f8 p t hp).trans (ct p t hne)
  have fK : ∀ K p i, K ≠ 0 → K ≠ 1 → K ≠ 6 → K ≠ 8 → K ≠ 10 → cs_core (cs_task c T r k a e) T k K p i = c K p i := fun K p i h0 h1 h6 h8 h10 => (fo K p i (by omega) (by omega)).trans (co K p i h0 h6 h8 h10)
  have f1 : ∀ p i, p ≠ 2 → p ≠ 3 → cs_core (cs_task c T r k a e) T k 1 p i = c 1 p i := fun p i h2 h3 => (fo 1 p i (by omega) (by omega)).trans (co 1 p i (by decide) (by decide) (by decide) (by decide))
  have f6 : ∀ p j, cs_core (cs_task c T r k a e) T k 6 p j = if j = 1000 + T ∧ p = 1 then 1 else c 6 p j := fun p j => (fo 6 p j (by omega) (by omega)).trans (c6 p j)
  have f0 : ∀ p i, cs_core (cs_task c T r k a e) T k 0 p i = cc_u c 0 9 0 T 0 p i := fun p i => (fo 0 p i (by omega) (by omega)).trans (by
    unfold cs_task cc_u
    simp)
  have f10 : ∀ j i, cs_core (cs_task c T r k a e) T k 10 j i = cc_u c 10 0 T (T + 1) 10 j i := fun j i => (fo 10 j i (by omega) (by omega)).trans (by
    unfold cs_task cc_u
    simp)
  have hl8 : cL (cl_ext (cl_ext B 8 T a1) 6 (1000 + T) a2) 8 T := Or.inl (Or.inr ⟨rfl, rfl⟩)
  have hl6 : cL (cl_ext (cl_ext B 8 T a1) 6 (1000 + T) a2) 6 (1000 + T) := Or.inr ⟨rfl, rfl⟩
  have rb' : rb (cl_ext (cl_ext B 8 T a1) 6 (1000 + T) a2) (an_new σ r k a e) := by
    obtain ⟨b1, b2, b3, b4, b5, b6, b7, b8, b9, b10, b11, b12⟩ := hb
    have xo : ∀ K i, K ≠ 6 → K ≠ 8 → (cL (cl_ext (cl_ext B 8 T a1) 6 (1000 + T) a2) K i ↔ cL B K i) := fun K i h6 h8 => ⟨fun q => (q.resolve_right (fun r => h6 r.1)).resolve_right (fun r => h8 r.1), fun q => Or.inl (Or.inl q)⟩
    refine ⟨Or.inl (Or.inl b1), Or.inl (Or.inl b2), ⟨Or.inl (Or.inl b3.1), Or.inl (Or.inl b3.2.1), Or.inl (Or.inl b3.2.2.1), Or.inl (Or.inl b3.2.2.2)⟩, ?_, fun i => ?_, fun i => (xo 4 i (by decide) (by decide)).trans (b6 i), fun i => (xo 7 i (by decide) (by decide)).trans (b7 i), fun i => ?_, fun i => ?_, fun i => ?_, fun i => ?_, fun i => ?_⟩
    · rw [so 0 0 (by decide) (by decide) (by decide) (by decide) (by decide) (by decide)]
      exact b4
    · rw [so 0 0 (by decide) (by decide) (by decide) (by decide) (by decide) (by decide)]
      exact (xo 1 i (by decide) (by decide)).trans (b5 i)
    · rw [s1, xL, xL, b8 i]
      omega
    · rw [s1, so 7 0 (by decide) (by decide) (by decide) (by decide) (by decide) (by decide), xL, xL, b9 i]
      omega
    · rw [so 32 0 (by decide) (by decide) (by decide) (by decide) (by decide) (by decide)]
      exact (xo 9 i (by decide) (by decide)).trans (b10 i)
    · rw [so 35 0 (by decide) (by decide) (by decide) (by decide) (by decide) (by decide)]
      exact (xo 2 i (by decide) (by decide)).trans (b11 i)
    · rw [so 0 0 (by decide) (by decide) (by decide) (by decide) (by decide) (by decide)]
      exact (xo 5 i (by decide) (by decide)).trans (b12 i)
  have q0 : an_new σ r k a e 0 0 = σ 0 0 := so 0 0 (by decide) (by decide) (by decide) (by decide) (by decide) (by decide)
  have e44 : an_new σ r k a e 44 = σ 44 := funext fun i => so 44 i (by decide) (by decide) (by decide) (by decide) (by decide) (by decide)
  have e8f : an_new σ r k a e 8 = σ 8 := funext fun i => so 8 i (by decide) (by decide) (by decide) (by decide) (by decide) (by decide)
  have e25f : an_new σ r k a e 25 = σ 25 := funext fun i => so 25 i (by decide) (by decide) (by decide) (by decide) (by decide) (by decide)
  have sf : ∀ f t, 6 < f → an_new σ r k a e f t = σ f t := fun f t hf => so f t (by omega) (by omega) (by omega) (by omega) (by omega) (by omega)
  -- the core's row of tasks
  have ho4 := p4 k hk
  have hnd : (onl (σ 3) k (σ 1 0)).Nodup := by
    have key : ∀ n, (onl (σ 3) k n).Pairwise (fun x y => x < y) := by
      intro n
      induction n with
      | zero => exact List.Pairwise.nil
      | succ n ih =>
        unfold onl
        split
        · refine List.pairwise_append.mpr ⟨ih, List.pairwise_singleton _ _, fun x hx y hy => ?_⟩
          rw [List.mem_singleton.mp hy]
          have := ((onl_mem (σ 3) k n x).mp hx).1
          omega
        · exact ih
    exact (key (σ 1 0)).imp (fun {x y} h z => by omega)
  have hTn : ∀ k', T ∉ onl (σ 3) k' (σ 1 0) := fun k' z => by
    have := ((onl_mem (σ 3) k' (σ 1 0) T).mp z).1
    omega
  have honl : ∀ k', onl (an_new σ r k a e 3) k' T = if k' = k then onl (σ 3) k (σ 1 0) ++ [T] else onl (σ 3) k' (σ 1 0) := fun k' => by
    have e1 : onl (an_new σ r k a e 3) k' (σ 1 0 + 1) = if an_new σ r k a e 3 (σ 1 0 + 1) = k' then onl (an_new σ r k a e 3) k' (σ 1 0) ++ [σ 1 0 + 1] else onl (an_new σ r k a e 3) k' (σ 1 0) := rfl
    rw [hT] at e1
    rw [e1, s3 T, if_pos rfl, onl_cg (s := σ 3) k' (σ 1 0) (fun t h1 h2 => by rw [s3, if_neg (by omega)])]
    by_cases y : k' = k
    · rw [if_pos y.symm, if_pos y, y]
    · rw [if_neg (fun z => y z.symm), if_neg y]
  have hlast : c 1 3 k = lastw (onl (σ 3) k (σ 1 0)) 0 := by
    rw [ho4.2.2.2, lastw_getLast]
    cases (onl (σ 3) k (σ 1 0)).getLast? with
    | none => rfl
    | some t => rfl
  have h17T : cs_task c T r k a e 8 17 T = 0 := cT 17 (by decide) (by decide) (by decide) (by decide) (by decide) (by decide) (by decide)
  have h17o : ∀ t, t ≠ T → cs_task c T r k a e 8 17 t = c 8 17 t := fun t hne => ct 17 t hne
  have hcore : ∀ k', k' < σ 0 0 → ch (cs_core (cs_task c T r k a e) T k 8 17) (cs_core (cs_task c T r k a e) T k 1 2 k') (onl (an_new σ r k a e 3) k' T) ∧ cs_core (cs_task c T r k a e) T k 1 3 k' = (match (onl (an_new σ r k a e 3) k' T).getLast? with | none => 0 | some t => t + 1) := fun k' hk' => by
    have ho := p4 k' hk'
    have c12 : ∀ i, cs_task c T r k a e 1 2 i = c 1 2 i := fun i => co 1 2 i (by decide) (by decide) (by decide) (by decide)
    have c13' : ∀ i, cs_task c T r k a e 1 3 i = c 1 3 i := fun i => co 1 3 i (by decide) (by decide) (by decide) (by decide)
    rw [honl]
    unfold cs_core
    rw [c13]
    by_cases z : c 1 3 k = 0
    · rw [if_pos z]
      have hnil : onl (σ 3) k (σ 1 0) = [] := by
        rw [hlast] at z
        cases hL : onl (σ 3) k (σ 1 0) with
        | nil => rfl
        | cons x L =>
          rw [hL] at z
          have key : ∀ (M : List Nat) (w : Nat), M ≠ [] → lastw M w ≠ 0 := by
            intro M
            induction M with
            | nil => exact fun w h => absurd rfl h
            | cons y M ihM =>
              intro w _
              cases M with
              | nil => exact Nat.succ_ne_zero y
              | cons u M => exact ihM (y + 1) (by simp)
          exact absurd z (key (x :: L) 0 (by simp))
      show ch (cs_task c T r k a e 8 17) (cc_u (cs_task c T r k a e) 1 2 k (T + 1) 1 2 k') _ ∧ cc_u _ 1 3 k (T + 1) 1 3 k' = _
      rw [cc_ue, cc_ue]
      by_cases y : k' = k
      · rw [if_pos y, if_pos y, if_pos y, hnil]
        exact ⟨⟨rfl, h17T⟩, rfl⟩
      · rw [if_neg y, if_neg y, if_neg y, c12]
        refine ⟨ch_congr _ _ (fun t ht => h17o t (fun w => hTn k' (by rw [← w]; exact ht))) ho.2.2.1, ?_⟩
        show cs_task c T r k a e 1 3 k' = _
        rw [c13', ho.2.2.2]
        cases (onl (σ 3) k' (σ 1 0)).getLast? with
        | none => rfl
        | some t => rfl
    · rw [if_neg z]
      obtain ⟨s, hs⟩ : ∃ s, c 1 3 k = s + 1 := ⟨c 1 3 k - 1, by omega⟩
      rw [hs, Nat.add_sub_cancel]
      have hne : onl (σ 3) k (σ 1 0) ≠ [] := fun w => by
        rw [w] at hlast
        have : c 1 3 k = 0 := hlast
        omega
      have ca := ch_app (f := c 8 17) (t := T) (z8 17) (onl (σ 3) k (σ 1 0)) (c 1 2 k) s 0 ho4.2.2.1 hnd (hTn k) hne (by rw [← hlast]; exact hs)
      have hsv := (hm17 s).mp ca.1
      show ch (cc_u (cs_task c T r k a e) 8 17 s (T + 1) 8 17) (cs_task c T r k a e 1 2 k') _ ∧ cc_u _ 1 3 k (T + 1) 1 3 k' = _
      rw [cc_ue _ 1 3]
      by_cases y : k' = k
      · rw [if_pos y, if_pos y, y, c12]
        refine ⟨ch_congr _ _ (fun t _ => ?_) ca.2, ?_⟩
        · rw [cc_ue]
          by_cases w : t = s
          · rw [if_pos w, if_pos w]
          · rw [if_neg w, if_neg w]
            by_cases u : t = T
            · rw [u, h17T, z8]
            · exact h17o t u
        · rw [List.getLast?_append]
          rfl
      · rw [if_neg y, if_neg y, c12]
        refine ⟨ch_congr _ _ (fun t ht => ?_) ho.2.2.1, ?_⟩
        · have hts : t ≠ s := fun w => by
            rw [w] at ht
            have h1 := ((onl_mem (σ 3) k' (σ 1 0) s).mp ht).2
            omega
          rw [cc_ui _ _ _ _ hts]
          exact h17o t (fun w => hTn k' (by rw [← w]; exact ht))
        · show cs_task c T r k a e 1 3 k' = _
          rw [c13', ho.2.2.2]
          cases (onl (σ 3) k' (σ 1 0)).getLast? with
          | none => rfl
          | some t => rfl
  refine ⟨rb', ?_, ?_, ⟨?_, ?_, ?_, ?_, ?_, ?_⟩, ?_, ?_, ?_, ⟨?_, ?_, ?_⟩, ?_, ⟨?_, ?_, ?_, ?_⟩, ?_, ?_, ?_, ?_, ?_, ?_, ?_⟩
  · unfold r1
    rw [s1, sf 32 0 (by decide), sf 7 0 (by decide), sf 21 0 (by decide), sf 43 0 (by decide), q0]
    simp only [f0, f10]
    refine ⟨p1.1, ⟨p1.2.1.1, rfl, p1.2.1.2.2⟩, fun t => ?_, fun i hi => p1.2.2.2.1 i hi, fun i hi => p1.2.2.2.2.1 i hi, fun i hi => p1.2.2.2.2.2 i hi⟩
    show cc_u c 10 0 T (T + 1) 10 0 t = _
    rw [cc_ue, p1.2.2.1 t]
    by_cases y : t = T
    · rw [if_pos y, if_pos (by omega), y]
    · rw [if_neg y]
      by_cases w : 1 ≤ t ∧ t ≤ σ 1 0
      · rw [if_pos w, if_pos (by omega)]
      · rw [if_neg w, if_neg (by omega)]
  · intro t ht
    rw [s1] at ht
    rw [f8 0 t (by decide), f8 1 t (by decide), f8 2 t (by decide), f8 3 t (by decide), f8 4 t (by decide), f8 5 t (by decide), f8 6 t (by decide), q0]
    by_cases y : t = T
    · subst y
      obtain ⟨x1, x2, x3, x4, x5, x6, x7⟩ := cTs
      rw [x1, x2, x3, x4, x5, x6, x7, sT.1, sT.2.1, sT.2.2.1, sT.2.2.2, s3, if_pos rfl]
      exact ⟨rfl, rfl, rfl, rfl, rfl, rfl, rfl, hk⟩
    · rw [ct _ t y, ct _ t y, ct _ t y, ct _ t y, ct _ t y, ct _ t y, ct _ t y, st 2 t (by decide) y, st 3 t (by decide) y, st 4 t (by decide) y, st 5 t (by decide) y, st 6 t (by decide) y]
      exact p2 t (vT t ht y)
  · intro t ht
    rw [s1] at ht
    rw [sf 11 t (by decide), f8 9 t (by decide)]
    by_cases y : t = T
    · rw [y, cT 9 (by decide) (by decide) (by decide) (by decide) (by decide) (by decide) (by decide), d11]
    · rw [ct _ t y]
      exact p3a t (vT t ht y)
  · intro t ht
    rw [s1] at ht
    rw [sf 12 t (by decide), f8 10 t (by decide)]
    by_cases y : t = T
    · rw [y, cT 10 (by decide) (by decide) (by decide) (by decide) (by decide) (by decide) (by decide), d12]
    · rw [ct _ t y]
      exact p3b t (vT t ht y)
  · intro t ht
    rw [s1] at ht
    rw [sf 13 t (by decide), f8 11 t (by decide)]
    by_cases y : t = T
    · rw [y, cT 11 (by decide) (by decide) (by decide) (by decide) (by decide) (by decide) (by decide), d13]
    · rw [ct _ t y]
      exact p3c t (vT t ht y)
  · intro t ht
    rw [s1] at ht
    rw [sf 17 t (by decide), f8 12 t (by decide)]
    by_cases y : t = T
    · rw [y, cT 12 (by decide) (by decide) (by decide) (by decide) (by decide) (by decide) (by decide), d17]
    · rw [ct _ t y]
      exact p3d t (vT t ht y)
  · intro t ht
    rw [s1] at ht
    rw [sf 18 t (by decide), f8 13 t (by decide)]
    by_cases y : t = T
    · rw [y, cT 13 (by decide) (by decide) (by decide) (by decide) (by decide) (by decide) (by decide), d18]
    · rw [ct _ t y]
      exact p3e t (vT t ht y)
  · intro t ht
    rw [s1] at ht
    rw [sf 20 t (by decide), f8 14 t (by decide)]
    by_cases y : t = T
    · rw [y, cT 14 (by decide) (by decide) (by decide) (by decide) (by decide) (by decide) (by decide), d20]
    · rw [ct _ t y]
      exact p3f t (vT t ht y)
  · intro k' hk'
    rw [q0] at hk'
    rw [s1, f1 0 k' (by decide) (by decide), f1 1 k' (by decide) (by decide)]
    exact ⟨(p4 k' hk').1, (p4 k' hk').2.1, hcore k' hk'⟩
  · unfold r5
    rw [s1, q0]
    refine ⟨fun t ht => ?_, fun k' hk' => ?_, fun k' hk' => ?_, fun t ht => ?_, fun t ht => ?_⟩
    · rw [sf 11 t (by decide), f1 4 _ (by decide) (by decide), s3]
      by_cases y : t = T
      · rw [if_pos y, y, d11]
        refine ⟨fun z => by omega, fun z => ?_⟩
        rcases p5b k hk with w | ⟨u, w1, w2, w3⟩
        · omega
        · omega
      · rw [if_neg y]
        exact p5a t (vT t ht y)
    · rw [f1 4 _ (by decide) (by decide)]
      rcases p5b k' hk' with w | ⟨u, w1, w2, w3⟩
      · exact Or.inl w
      · exact Or.inr ⟨u, by omega, w2, by rw [s3, if_neg (by omega)]; exact w3⟩
    · rw [f1 4 _ (by decide) (by decide), f1 6 _ (by decide) (by decide)]
      exact p5c k' hk'
    · rw [sf 11 t (by decide), sf 19 t (by decide), f1 6 _ (by decide) (by decide), s3]
      intro hs
      by_cases y : t = T
      · rw [y, d11] at hs
        omega
      · rw [if_neg y]
        exact p5d t (vT t ht y) hs
    · rw [sf 11 t (by decide), sf 19 t (by decide)]
      intro hs
      by_cases y : t = T
      · rw [y]
        exact d19
      · exact p5e t (vT t ht y) hs
  · unfold r6
    rw [s1, sf 7 0 (by decide), e8f]
    refine ⟨fun j hj => ?_, fun t ht => ?_⟩
    · rw [sf 9 j (by decide), sf 10 j (by decide), f6, f6, f6, if_neg (by omega), if_neg (by omega), if_neg (by omega)]
      obtain ⟨g1, g2, g3, g4, g5, g6⟩ := p6.1 j hj
      exact ⟨g1, g2, g3, g4, by omega, g6⟩
    · rw [f6, f6, f6]
      by_cases y : t = T
      · rw [y, if_neg (by omega), if_pos ⟨rfl, rfl⟩, if_neg (by omega), z6, z6]
        refine ⟨rfl, rfl, ?_⟩
        have key : ∀ d k0, k0 + d = σ 7 0 → nxd (σ 8) T d k0 = 0 := by
          intro d
          induction d with
          | zero => exact fun _ _ => rfl
          | succ d ih =>
            intro k0 h0
            unfold nxd
            have := (p6.1 k0 (by omega)).2.2.2.2.1
            rw [if_neg (by omega)]
            exact ih (k0 + 1) (by omega)
        unfold nx
        exact (key _ 0 (by omega)).symm
      · rw [if_neg (by omega), if_neg (by omega), if_neg (by omega)]
        exact p6.2 t (vT t ht y)
  · intro t ht hn hs
    rw [s1] at ht
    rw [sf 11 t (by decide)] at hs
    have y : t ≠ T := fun y => hs (by rw [y]; exact d11)
    rw [f8o 7 t (by decide) y, sf 16 t (by decide), e8f, sf 7 0 (by decide), sf 14 t (by decide)]
    exact p7a t (vT t ht y) hn hs
  · intro t ht hs
    rw [s1] at ht
    rw [sf 11 t (by decide), sf 16 t (by decide), sf 15 t (by decide)] at hs
    rw [f8 8 t (by decide)]
    by_cases y : t = T
    · rw [y]
      exact cT 8 (by decide) (by decide) (by decide) (by decide) (by decide) (by decide) (by decide)
    · rw [ct _ t y]
      exact p7b t (vT t ht y) hs
  · intro t ht hs hs2 hs3
    rw [s1] at ht
    rw [sf 11 t (by decide)] at hs
    rw [sf 16 t (by decide)] at hs2
    rw [sf 15 t (by decide)] at hs3
    have y : t ≠ T := fun y => hs (by rw [y]; exact d11)
    obtain ⟨g1, j, g2, g3, g4⟩ := p7c t (vT t ht y) hs hs2 hs3
    rw [sf 15 t (by decide), e8f, sf 7 0 (by decide), sf 14 t (by decide), f8o 8 t (by decide) y]
    exact ⟨g1, j, g2, by rw [sf 9 j (by decide)]; exact g3, by rw [sf 10 j (by decide)]; exact g4⟩
  · unfold r8
    rw [s1, sf 28 0 (by decide)]
    refine ⟨fun i h1 h2 => ?_, fun i => ?_, fun t ht => ?_⟩
    · rw [fK 7 1 i (by decide) (by decide) (by decide) (by decide) (by decide), sf 22 i (by decide)]
      exact ⟨(p8a i h1 h2).1, fun z => by have := (p8a i h1 h2).2 z; omega⟩
    · rw [sf 23 i (by decide)]
      exact p8b i
    · have e72 : cs_core (cs_task c T r k a e) T k 7 2 = c 7 2 := funext fun i => fK 7 2 i (by decide) (by decide) (by decide) (by decide) (by decide)
      rw [e72, f8 15 t (by decide)]
      by_cases y : t = T
      · rw [y, cT 15 (by decide) (by decide) (by decide) (by decide) (by decide) (by decide) (by decide)]
        refine ⟨[], rfl, fun i => ⟨fun z => (by cases z), fun z => ?_⟩, List.Pairwise.nil⟩
        rw [sf 22 i (by decide)] at z
        have := (p8a i z.1.1 z.1.2).2 (by omega)
        omega
      · rw [ct _ t y]
        obtain ⟨L, w1, w2, w3⟩ := p8c t (vT t ht y)
        refine ⟨L, w1, fun i => ?_, w3.imp (fun {x y} h => ?_)⟩
        · rw [sf 22 i (by decide)]
          exact w2 i
        · rw [sf 23 _ (by decide), sf 23 _ (by decide)]
          exact h
  · intro t ht hn
    rw [s1] at ht
    rw [f8 16 t (by decide), e25f]
    by_cases y : t = T
    · rw [y, cT 16 (by decide) (by decide) (by decide) (by decide) (by decide) (by decide) (by decide)]
      refine ((lcn_0 (σ 25) T 16).mpr (fun l h1 h2 z => ?_)).symm
      have := (p9b.2 l h1 h2).2 (by omega)
      omega
    · rw [ct _ t y]
      exact p9a t (vT t ht y) hn
  · unfold r9b
    rw [fK 4 0 0 (by decide) (by decide) (by decide) (by decide) (by decide), s1]
    refine ⟨p9b.1, fun l h1 h2 => ?_⟩
    rw [fK 4 0 l (by decide) (by decide) (by decide) (by decide) (by decide), sf 25 l (by decide)]
    exact ⟨(p9b.2 l h1 h2).1, fun z => by have := (p9b.2 l h1 h2).2 z; omega⟩
  · unfold r9c
    rw [s1, sf 28 0 (by decide)]
    refine ⟨fun t => ?_, fun l h1 h2 => ?_, fun t ht hs => ?_⟩
    · rw [sf 27 t (by decide)]
      exact p9c.1 t
    · obtain ⟨L, w1, w2, w3⟩ := p9c.2.1 l h1 h2
      rw [fK 4 1 l (by decide) (by decide) (by decide) (by decide) (by decide)]
      refine ⟨L, ch_congr L _ (fun t ht => ?_) w1, fun t => ?_, w3.imp (fun {x y} h => ?_)⟩
      · have := ((w2 t).mp ht).1
        exact f8o 18 t (by decide) (by omega)
      · rw [sf 26 t (by decide), w2 t]
        constructor
        · intro z
          exact ⟨by omega, z.2⟩
        · intro z
          have : t ≠ T := fun y => by
            rw [y, d26] at z
            omega
          exact ⟨by omega, z.2⟩
      · rw [sf 27 _ (by decide), sf 27 _ (by decide)]
        exact h
    · rw [sf 26 t (by decide)] at hs
      rw [f8 18 t (by decide)]
      by_cases y : t = T
      · rw [y]
        exact cT 18 (by decide) (by decide) (by decide) (by decide) (by decide) (by decide) (by decide)
      · rw [ct _ t y]
        exact p9c.2.2 t (vT t ht y) hs
  · intro t ht hs
    rw [s1] at ht
    rw [sf 26 t (by decide)] at hs
    have y : t ≠ T := fun y => hs (by rw [y]; exact d26)
    obtain ⟨g1, g2, g3, g4, g5, g6, j, g7, g8, g9⟩ := p9d t (vT t ht y) hs
    rw [sf 26 t (by decide), sf 11 t (by decide), sf 16 t (by decide), sf 15 t (by decide), sf 25 _ (by decide), e8f, sf 7 0 (by decide), sf 14 t (by decide)]
    exact ⟨g1, g2, g3, g4, g5, g6, j, g7, by rw [sf 9 j (by decide)]; exact g8, by rw [sf 10 j (by decide)]; exact g9⟩
  · unfold r10
    rw [sf 35 0 (by decide), sf 29 0 (by decide), sf 30 0 (by decide), s1, s3]
    have e23 : cs_core (cs_task c T r k a e) T k 2 3 = c 2 3 := funext fun i => fK 2 3 i (by decide) (by decide) (by decide) (by decide) (by decide)
    rw [fK 3 1 0 (by decide) (by decide) (by decide) (by decide) (by decide), fK 3 2 0 (by decide) (by decide) (by decide) (by decide) (by decide), fK 3 3 0 (by decide) (by decide) (by decide) (by decide) (by decide), fK 3 0 0 (by decide) (by decide) (by decide) (by decide) (by decide), e23]
    obtain ⟨g1, g2, g3, g4, L, w1, w2, w3⟩ := p10
    refine ⟨fun j hj => ?_, g2, g3, fun z => ?_, L, w1, fun j => ?_, w3.imp (fun {x y} h => ?_)⟩
    · rw [fK 2 0 j (by decide) (by decide) (by decide) (by decide) (by decide), fK 2 1 j (by decide) (by decide) (by decide) (by decide) (by decide), fK 2 2 j (by decide) (by decide) (by decide) (by decide) (by decide), sf 36 j (by decide), sf 37 j (by decide), sf 38 j (by decide)]
      exact g1 j hj
    · obtain ⟨y1, y2, y3⟩ := g4 z
      rw [if_neg (by omega)]
      exact ⟨y1, by omega, y3⟩
    · rw [sf 38 j (by decide)]
      exact w2 j
    · rw [sf 36 _ (by decide), sf 36 _ (by decide)]
      exact h
  · unfold r11
    rw [sf 32 0 (by decide), sf 43 0 (by decide), s1]
    have e92 : cs_core (cs_task c T r k a e) T k 9 2 = c 9 2 := funext fun i => fK 9 2 i (by decide) (by decide) (by decide) (by decide) (by decide)
    rw [e92, f0]
    obtain ⟨L, w1, w2, w3⟩ := p11b
    refine ⟨fun j hj => ?_, L, w1, fun j => ?_, w3.imp (fun {x y} h => ?_)⟩
    · rw [fK 9 0 j (by decide) (by decide) (by decide) (by decide) (by decide), fK 9 1 j (by decide) (by decide) (by decide) (by decide) (by decide), sf 33 j (by decide), sf 34 j (by decide)]
      obtain ⟨y1, y2, y3⟩ := p11a j hj
      exact ⟨y1, y2, by omega⟩
    · rw [sf 34 j (by decide)]
      exact w2 j
    · rw [sf 34 _ (by decide), sf 34 _ (by decide)]
      exact h
  · unfold r12
    rw [sf 39 0 (by decide), fK 5 1 0 (by decide) (by decide) (by decide) (by decide) (by decide), fK 5 2 0 (by decide) (by decide) (by decide) (by decide) (by decide)]
    refine ⟨p12.1, p12.2.1, fun i h1 h2 => ?_⟩
    rw [fK 20 0 i (by decide) (by decide) (by decide) (by decide) (by decide), sf 40 i (by decide), sf 41 i (by decide), sf 42 i (by decide)]
    exact p12.2.2 i h1 h2
  · unfold r13
    rw [q0, e44, sf 43 0 (by decide), fK 5 1 1 (by decide) (by decide) (by decide) (by decide) (by decide), fK 5 2 1 (by decide) (by decide) (by decide) (by decide) (by decide)]
    refine ⟨p13.1, fun j hj => ?_, fun j t hj ht => ?_⟩
    · rw [fK 5 1 _ (by decide) (by decide) (by decide) (by decide) (by decide), fK 5 2 _ (by decide) (by decide) (by decide) (by decide) (by decide), f1 5 j (by decide) (by decide)]
      exact p13.2.1 j hj
    · rw [fK 20 1 _ (by decide) (by decide) (by decide) (by decide) (by decide), fK 20 _ _ (by decide) (by decide) (by decide) (by decide) (by decide)]
      exact p13.2.2 j t hj ht
  · refine ⟨?_, fun t ht => ?_, fun t ht => ?_⟩
    · obtain ⟨v1, v2, v3, v4, v5, v6, v7, v8, v9, v10⟩ := p14a
      unfold sp_V
      rw [s1, q0, sf 7 0 (by decide), sf 32 0 (by decide), sf 35 0 (by decide), sf 43 0 (by decide)]
      refine ⟨by omega, v2, v3, v4, v5, fun j hj => ?_, fun j hj => ?_, fun j hj => ?_, fun j => ?_, v10⟩
      · rw [sf 8 j (by decide), sf 9 j (by decide), sf 10 j (by decide)]
        exact v6 j hj
      · rw [sf 33 j (by decide)]
        exact v7 j hj
      · rw [sf 36 j (by decide)]
        exact v8 j hj
      · rw [sf 17 j (by decide)]
        exact v9 j
    · rw [s1] at ht
      rw [sf 13 t (by decide)]
      by_cases y : t = T
      · rw [y, d13, sT.2.1]
        omega
      · rw [st 4 t (by decide) y]
        exact p14b t (vT t ht y)
    · rw [s1] at ht
      rw [sf 11 t (by decide), sf 12 t (by decide), sf 13 t (by decide), sf 14 t (by decide), sf 16 t (by decide), sf 17 t (by decide), sf 18 t (by decide), sf 19 t (by decide), sf 20 t (by decide), sf 26 t (by decide), sf 27 t (by decide)]
      exact p14c t (by omega)
  · intro i h1 h2
    rw [fK 7 0 i (by decide) (by decide) (by decide) (by decide) (by decide), p15 i h1 h2, sf 7 0 (by decide)]
    refine (cfc_cg i (σ 7 0) (fun j hj => ⟨sf 8 j (by decide), sf 9 j (by decide), sf 10 j (by decide), ?_⟩)).symm
    have := (p6.1 j hj).2.2.2.2.1
    exact st 2 _ (by decide) (by omega)
  · have h16t : r16 (cl_ext (cl_ext B 8 T a1) 6 (1000 + T) a2) (cs_task c T r k a e) := by
      unfold cs_task
      exact ((((((((((((((p16.ext 8 T a1).ext 6 (1000 + T) a2).u 0 9 0 _ (Or.inl (Or.inl (Or.inl hx)))).u 8 5 T _ (Or.inl hl8)).u 6 0 _ _ (Or.inl hl6)).u 6 1 _ _ (Or.inl hl6)).u 8 6 T _ (Or.inl hl8)).u 8 9 T _ (Or.inl hl8)).u 8 0 T _ (Or.inl hl8)).u 8 1 T _ (Or.inl hl8)).u 8 2 T _ (Or.inl hl8)).u 8 3 T _ (Or.inl hl8)).u 8 4 T _ (Or.inl hl8)).u 10 0 T _ (Or.inr (by decide)))
    unfold cs_core
    split
    · exact (h16t.u 1 2 k _ (Or.inl (Or.inl (Or.inl hck)))).u 1 3 k _ (Or.inl (Or.inl (Or.inl hck)))
    · rename_i z
      rw [c13] at z
      obtain ⟨s, hs⟩ : ∃ s, c 1 3 k = s + 1 := ⟨c 1 3 k - 1, by omega⟩
      rw [c13, hs, Nat.add_sub_cancel]
      have hne : onl (σ 3) k (σ 1 0) ≠ [] := fun w => by
        rw [w] at hlast
        have : c 1 3 k = 0 := hlast
        omega
      have ca := ch_app (f := c 8 17) (t := T) (z8 17) (onl (σ 3) k (σ 1 0)) (c 1 2 k) s 0 ho4.2.2.1 hnd (hTn k) hne (by rw [← hlast]; exact hs)
      have hsv := (hm17 s).mp ca.1
      exact (h16t.u 8 17 s _ (Or.inl (Or.inl (Or.inl (hkk s hsv.1))))).u 1 3 k _ (Or.inl (Or.inl (Or.inl hck)))
end TE
