theorem mj_nn {v : Int32} (h : 0 ≤ v.toInt) : ∃ n : Nat, n < 2 ^ 31 ∧ v = nI n ∧ v.toInt = n := by
  obtain ⟨n, h1, h2⟩ := nI_of (x := v) (fun q => by rw [Int32.lt_iff_toInt_lt] at q; exact absurd q (by simpa using h))
  exact ⟨n, h1, h2, by rw [h2, nI_toInt h1]⟩
theorem mj_LL {v : Int64} (h : 0 ≤ v.toInt) : ∃ n : Nat, n < 2 ^ 63 ∧ v = lN n ∧ v.toInt = n := by
  have h1 := Int64.toInt_lt v
  have e : v.toInt.toNat < 2 ^ 63 := by omega
  refine ⟨v.toInt.toNat, e, ?_, by omega⟩
  apply Int64.toInt_inj.mp
  rw [pk_lT e]
  omega
theorem mj_iLT (x y : Int32) : (x < y) = (x.toInt < y.toInt) := propext Int32.lt_iff_toInt_lt
theorem mj_iLE (x y : Int32) : (x ≤ y) = (x.toInt ≤ y.toInt) := propext Int32.le_iff_toInt_le
theorem mj_iEQ (x y : Int32) : (x = y) = (x.toInt = y.toInt) := propext Int32.toInt_inj.symm
theorem mj_jLT (x y : Int64) : (x < y) = (x.toInt < y.toInt) := propext Int64.lt_iff_toInt_lt
theorem mj_jLE (x y : Int64) : (x ≤ y) = (x.toInt ≤ y.toInt) := propext Int64.le_iff_toInt_le
theorem mj_jEQ (x y : Int64) : (x = y) = (x.toInt = y.toInt) := propext Int64.toInt_inj.symm
/-- the answers, over the numbers -/
def an_used (σ : ss_S) (t : Int) : Int64 := if 1 ≤ t ∧ t ≤ σ 1 0 then lN (σ 20 t.toNat) else -1
def an_state (σ : ss_S) (t : Int) : Int32 := if 1 ≤ t ∧ t ≤ σ 1 0 then nI (σ 11 t.toNat) else -1
def an_events (σ : ss_S) (t : Int) : Int32 := if 1 ≤ t ∧ t ≤ σ 1 0 then nI (σ 17 t.toNat) else -1
def an_event (σ : ss_S) (t e : Int) : Int32 × ss_S :=
  if 1 ≤ t ∧ t ≤ σ 1 0 then (if 1 ≤ e ∧ e ≤ 65535 then (if σ 5 t.toNat ≠ 0 ∧ σ 11 t.toNat ≠ 0 then (1, sp_set σ t.toNat e.toNat) else (-3, σ)) else (-2, σ)) else (-1, σ)
def an_running (σ : ss_S) (c t : Int) : Int32 := if 0 ≤ c ∧ c < σ 0 0 then (if 0 ≤ t ∧ t < σ 43 0 then nI (σ 44 (50000 * c.toNat + t.toNat)) else -2) else -1
def an_holder (σ : ss_S) (r : Int) : Int32 := if 1 ≤ r ∧ r ≤ 32 then nI (σ 22 r.toNat) else -2
def an_code (σ : ss_S) (i w : Int) : Int32 :=
  if i = -1 ∧ w = 0 then nI (σ 39 0) else if 0 ≤ i ∧ i < σ 39 0 ∧ i ≤ 999 then (if w = 0 then nI (σ 40 i.toNat) else if w = 1 then nI (σ 41 i.toNat) else if w = 2 then nI (σ 42 i.toNat) else -2) else -1
def an_manner (σ : ss_S) (t : Int) (f : Nat) : Int32 × ss_S := if 1 ≤ t ∧ t ≤ σ 1 0 then (if σ 43 0 = 0 then (1, ss_u σ 6 t.toNat f) else (-3, σ)) else (-1, σ)
def an_activate (σ : ss_S) (t v : Int) : Int32 × ss_S :=
  if 1 ≤ t ∧ t ≤ σ 1 0 then (if σ 43 0 ≤ v ∧ v ≤ 50000 then (if σ 32 0 = 500 then (-4, σ) else (1, ss_u (ss_u (ss_u σ 33 (σ 32 0) t.toNat) 34 (σ 32 0) v.toNat) 32 0 (σ 32 0 + 1))) else (-2, σ)) else (-1, σ)
def an_interrupt (σ : ss_S) (l v w : Int) : Int32 × ss_S :=
  if (1 ≤ l ∧ l ≤ 15) ∧ (σ 43 0 ≤ v ∧ v ≤ 50000) ∧ 1 ≤ w ∧ w ≤ 10000 then (if σ 35 0 = 500 then (-4, σ) else (nI (σ 35 0 + 1), ss_u (ss_u (ss_u (ss_u σ 36 (σ 35 0) l.toNat) 37 (σ 35 0) v.toNat) 38 (σ 35 0) w.toNat) 35 0 (σ 35 0 + 1))) else (-2, σ)
def an_new (σ : ss_S) (r c a e : Nat) : ss_S :=
  ss_u (ss_u (ss_u (ss_u (ss_u (ss_u σ 1 0 (σ 1 0 + 1)) 2 (σ 1 0 + 1) r) 3 (σ 1 0 + 1) c) 4 (σ 1 0 + 1) a) 5 (σ 1 0 + 1) e) 6 (σ 1 0 + 1) 1
def an_task (σ : ss_S) (r c a : Int) (e : Nat) : Int32 × ss_S :=
  if 0 ≤ c ∧ c < σ 0 0 then (if (0 ≤ r ∧ r ≤ 255) ∧ 1 ≤ a ∧ a ≤ 100 ∧ (e = 0 ∨ a ≤ 1) then (if σ 43 0 = 0 then (if σ 1 0 = 100 then (-4, σ) else (nI (σ 1 0 + 1), an_new σ r.toNat c.toNat a.toNat e)) else (-3, σ)) else (-2, σ)) else (-1, σ)
abbrev an_good (k v : Int) : Prop :=
  ((k = 0 ∨ k = 12) ∧ 1 ≤ v ∧ v ≤ 50000) ∨ ((k = 1 ∨ k = 2) ∧ 1 ≤ v ∧ v ≤ 100) ∨ ((k = 3 ∨ k = 5) ∧ 1 ≤ v ∧ v ≤ 65535) ∨ (k = 4 ∧ 65537 ≤ v ∧ v ≤ 6619135 ∧ v.toNat % 65536 ≠ 0) ∨
  ((k = 6 ∨ k = 7) ∧ 1 ≤ v ∧ v ≤ 32) ∨ ((k = 8 ∨ k = 9) ∧ 1 ≤ v ∧ v ≤ 16) ∨ ((k = 10 ∨ k = 11 ∨ k = 13) ∧ v = 0)
def sp_cnt (σ : ss_S) (t : Nat) : Nat → Nat
  | 0 => 0
  | n + 1 => if σ 8 n = t then sp_cnt σ t n + 1 else sp_cnt σ t n
def an_add (σ : ss_S) (t k v : Nat) : ss_S := ss_u (ss_u (ss_u (ss_u σ 8 (σ 7 0) t) 9 (σ 7 0) k) 10 (σ 7 0) v) 7 0 (σ 7 0 + 1)
def an_part (σ : ss_S) (t k v : Int) : Int32 × ss_S :=
  if 1 ≤ t ∧ t ≤ σ 1 0 then (if an_good k v then (if σ 43 0 = 0 then (if σ 7 0 = 500 then (-4, σ) else (nI (sp_cnt (an_add σ t.toNat k.toNat v.toNat) t.toNat (σ 7 0 + 1)), an_add σ t.toNat k.toNat v.toNat)) else (-3, σ)) else (-2, σ)) else (-1, σ)
/-- the first of a core's spinners for a lock, of the tasks up to n -/
def sp_fstc (σ : ss_S) (c l : Nat) : Nat → Nat
  | 0 => 0
  | n + 1 => if σ 3 (n + 1) = c ∧ σ 26 (n + 1) = l ∧ (sp_fstc σ c l n = 0 ∨ σ 27 (n + 1) < σ 27 (sp_fstc σ c l n)) then n + 1 else sp_fstc σ c l n
def an_spin (σ : ss_S) (c l : Int) : Int32 :=
  if 0 ≤ c ∧ c < σ 0 0 then (if 1 ≤ l ∧ l ≤ 16 then (if σ 25 l.toNat ≠ 0 ∧ σ 3 (σ 25 l.toNat) = c.toNat then nI (σ 25 l.toNat) else -nI (sp_fstc σ c.toNat l.toNat (σ 1 0))) else -2000) else -1000
def sp_bef (σ : ss_S) (c t : Nat) : Nat := if t = 0 then 0 else σ 44 (50000 * c + t - 1)
def sp_isw (σ : ss_S) (c t : Nat) : Nat := if σ 44 (50000 * c + t) = sp_bef σ c t then 0 else 1
/-- switches counted, and where the i-th one was found (8 t + c, and one) -/
def sp_ordc (σ : ss_S) (i : Int) (t : Nat) (p : Nat × Nat) : Nat → Nat × Nat
  | 0 => p
  | c + 1 => if sp_isw σ c t = 0 then sp_ordc σ i t p c else ((sp_ordc σ i t p c).1 + 1, if ((sp_ordc σ i t p c).1 : Int) = i then 8 * t + c + 1 else (sp_ordc σ i t p c).2)
def sp_ord (σ : ss_S) (i : Int) : Nat → Nat × Nat
  | 0 => (0, 0)
  | t + 1 => sp_ordc σ i t (sp_ord σ i t) (σ 0 0)
def an_order (σ : ss_S) (i w : Int) : Int32 :=
  if i = -1 ∧ w = 0 then nI (sp_ord σ i (σ 43 0)).1 else if (sp_ord σ i (σ 43 0)).2 = 0 then -1 else
  if w = 0 then nI (((sp_ord σ i (σ 43 0)).2 - 1) / 8) else if w = 1 then nI (((sp_ord σ i (σ 43 0)).2 - 1) % 8) else if w = 2 then nI (σ 44 (50000 * (((sp_ord σ i (σ 43 0)).2 - 1) % 8) + ((sp_ord σ i (σ 43 0)).2 - 1) / 8)) else -2
def sp_runN (σ : ss_S) : Nat → ss_S × Nat
  | 0 => (σ, 0)
  | n + 1 => ((sp_micro (sp_runN σ n).1).1, (sp_runN σ n).2 + (sp_micro (sp_runN σ n).1).2)
def an_run (σ : ss_S) (v : Int) : Int32 × ss_S := if 0 ≤ v ∧ v + σ 43 0 ≤ 50000 then (nI (sp_runN (sp_ceil σ) v.toNat).2, (sp_runN (sp_ceil σ) v.toNat).1) else (-2, σ)
/-- what one microsecond of the reference asks for -/
def sp_mok (σ : ss_S) : Prop := ∃ (b : Nat) (P : Nat → ss_S → Prop), sp_Bd b σ ∧ 2 ^ 24 ≤ b ∧ b + 600 ≤ 2 ^ 31 ∧ sp_V σ ∧ sp_Fam (σ 0 0) P ∧ (∃ n, n < 2000 ∧ P n (sp_al σ (σ 32 0))) ∧ σ 43 0 < 50000 ∧ sp_mid σ 43 0 = σ 43 0 ∧
  (∃ b', sp_Bd b' (sp_mid σ) ∧ 2 ^ 24 ≤ b' ∧ b' + 200 ≤ 2 ^ 31 ∧ sp_V (sp_mid σ) ∧ sp_mid σ 0 0 = σ 0 0) ∧
  ∀ c, c < σ 0 0 → sp_ci (sp_choose (sp_pc (sp_mid σ) c).1 c) c = 0 → sp_chosen (sp_pc (sp_mid σ) c).1 c ≠ 0 → sp_pok (sp_put (sp_choose (sp_pc (sp_mid σ) c).1 c) c (sp_chosen (sp_pc (sp_mid σ) c).1 c)) (sp_chosen (sp_pc (sp_mid σ) c).1 c)
theorem mj_ite01 {c : Prop} [Decidable c] : ((if c then (0 : Int32) else 1) = 0) = c := by
  apply propext
  split
  · exact ⟨fun _ => ‹_›, fun _ => rfl⟩
  · exact ⟨fun e => absurd e (by decide), fun e => absurd e ‹_›⟩
section RL
variable {G : mj_G} {m : Nat} {A : Nat → Nat} {σ : ss_S} {μ μ0 : mj_MM} {Ex : Option Value → mj_MM → Prop} {N S : Nat}
theorem rc_no (hR : rf_R m A σ μ) (hB : sp_B σ) (v : Int32) : rc_I G my_M_no mY_M_no m A μ [.int v] (if 1 ≤ v.toInt ∧ v.toInt ≤ σ 1 0 then 0 else 1) σ := by
  have hQ := hR.self
  by_cases hv : 0 ≤ v.toInt
  · obtain ⟨n, h1, rfl, h3⟩ := mj_nn hv
    have := rc_no_ok (G := G) hR hB n h1
    rw [h3]
    have e : (1 ≤ (n : Int) ∧ (n : Int) ≤ σ 1 0) = (1 ≤ n ∧ n ≤ σ 1 0) := by
      apply propext
      omega
    simp only [e]
    exact this
  · refine mj_of (by decide) rfl (by decide) (Nat.le_of_ble_eq_true rfl) rfl ⟨Nat.le_refl _, Nat.le_refl _⟩ ?_
    refine bk_M_no_0 ⟨fun h => ?_, fun h => ?_⟩
    · exact ⟨⟨1, rfl, by rw [if_neg (by omega)], hQ⟩, rfl, rfl⟩
    · rw [mj_iLT] at h
      have : (1 : Int32).toInt = 1 := by decide
      omega
theorem rc_now (hR : rf_R m A σ μ) : rc_L G my_M_now mY_M_now m A μ [] (lN (σ 43 0)) σ := by
  have hQ := hR.self
  refine mj_of (by decide) rfl (by decide) (Nat.le_of_ble_eq_true rfl) rfl ⟨Nat.le_refl _, Nat.le_refl _⟩ ?_
  exact bk_M_now_0 ⟨hQ.t, ⟨_, rfl, hQ.sl 43 rfl, hQ⟩, rfl, rfl⟩
theorem rc_used (hR : rf_R m A σ μ) (hB : sp_B σ) (hT : σ 1 0 ≤ 100) (v : Int32) : rc_L G my_M_used mY_M_used m A μ [.int v] (an_used σ v.toInt) σ := by
  have hQ := hR.self
  refine mj_of (by decide) rfl (by decide) (Nat.le_of_ble_eq_true rfl) rfl ⟨Nat.le_refl _, Nat.le_refl _⟩ ?_
  refine bk_M_used_0 ⟨hQ.t, _, rc_no hR hB v, fun x μ' hP e1 e2 => ?_⟩
  obtain ⟨hx, hP⟩ := hP
  subst hx
  unfold an_used
  refine bk_M_used_5 ?_
  rw [mj_ite01]
  refine ⟨fun h => ?_, fun h => ?_⟩
  · obtain ⟨n, h1, rfl, h3⟩ := mj_nn (v := v) (by omega)
    have hn : n < 101 := by omega
    rw [if_pos h, h3, Int.toNat_natCast]
    simp (disch := first | decide | assumption | omega) only [hP.t, hP.r, hP.a0, hP.a1, hP.a2, hP.a3, hP.si, hP.sl, hP.l15, hP.i1, hP.v1, hP.l1, hP.i5, hP.v5, hP.l5, hP.i3, hP.v3, hP.l3, hP.i2, hP.v2, hP.l2, hP.i4, hP.v4, hP.l4, Option.some.injEq, exists_eq_left', nI_clamp, nI_1, mj_vin, true_and, eq_self]
    exact ⟨⟨_, rfl, rfl, hP⟩, e1, e2⟩
  · rw [if_neg h]
    exact ⟨⟨_, rfl, rfl, hP⟩, e1, e2⟩
theorem rc_state (hR : rf_R m A σ μ) (hB : sp_B σ) (hT : σ 1 0 ≤ 100) (v : Int32) : rc_I G my_M_state mY_M_state m A μ [.int v] (an_state σ v.toInt) σ := by
  have hQ := hR.self
  refine mj_of (by decide) rfl (by decide) (Nat.le_of_ble_eq_true rfl) rfl ⟨Nat.le_refl _, Nat.le_refl _⟩ ?_
  refine bk_M_state_0 ⟨hQ.t, _, rc_no hR hB v, fun x μ' hP e1 e2 => ?_⟩
  obtain ⟨hx, hP⟩ := hP
  subst hx
  unfold an_state
  refine bk_M_state_5 ?_
  rw [mj_ite01]
  refine ⟨fun h => ?_, fun h => ?_⟩
  · obtain ⟨n, h1, rfl, h3⟩ := mj_nn (v := v) (by omega)
    have hn : n < 101 := by omega
    rw [if_pos h, h3, Int.toNat_natCast]
    simp (disch := first | decide | assumption | omega) only [hP.t, hP.r, hP.a0, hP.a1, hP.a2, hP.a3, hP.si, hP.sl, hP.l15, hP.i1, hP.v1, hP.l1, hP.i5, hP.v5, hP.l5, hP.i3, hP.v3, hP.l3, hP.i2, hP.v2, hP.l2, hP.i4, hP.v4, hP.l4, Option.some.injEq, exists_eq_left', nI_clamp, nI_1, mj_vin, true_and, eq_self]
    exact ⟨⟨_, rfl, rfl, hP⟩, e1, e2⟩
  · rw [if_neg h]
    exact ⟨⟨_, rfl, rfl, hP⟩, e1, e2⟩
theorem rc_events (hR : rf_R m A σ μ) (hB : sp_B σ) (hT : σ 1 0 ≤ 100) (v : Int32) : rc_I G my_M_events mY_M_events m A μ [.int v] (an_events σ v.toInt) σ := by
  have hQ := hR.self
  refine mj_of (by decide) rfl (by decide) (Nat.le_of_ble_eq_true rfl) rfl ⟨Nat.le_refl _, Nat.le_refl _⟩ ?_
  refine bk_M_events_0 ⟨hQ.t, _, rc_no hR hB v, fun x μ' hP e1 e2 => ?_⟩
  obtain ⟨hx, hP⟩ := hP
  subst hx
  unfold an_events
  refine bk_M_events_5 ?_
  rw [mj_ite01]
  refine ⟨fun h => ?_, fun h => ?_⟩
  · obtain ⟨n, h1, rfl, h3⟩ := mj_nn (v := v) (by omega)
    have hn : n < 101 := by omega
    rw [if_pos h, h3, Int.toNat_natCast]
    simp (disch := first | decide | assumption | omega) only [hP.t, hP.r, hP.a0, hP.a1, hP.a2, hP.a3, hP.si, hP.sl, hP.l15, hP.i1, hP.v1, hP.l1, hP.i5, hP.v5, hP.l5, hP.i3, hP.v3, hP.l3, hP.i2, hP.v2, hP.l2, hP.i4, hP.v4, hP.l4, Option.some.injEq, exists_eq_left', nI_clamp, nI_1, mj_vin, true_and, eq_self]
    exact ⟨⟨_, rfl, rfl, hP⟩, e1, e2⟩
  · rw [if_neg h]
    exact ⟨⟨_, rfl, rfl, hP⟩, e1, e2⟩
theorem rc_event (hR : rf_R m A σ μ) (hB : sp_B σ) (hT : σ 1 0 ≤ 100) (v w : Int32) : rc_I G my_M_event mY_M_event m A μ [.int v, .int w] (an_event σ v.toInt w.toInt).1 (an_event σ v.toInt w.toInt).2 := by
  have hQ := hR.self
  refine mj_of (by decide) rfl (by decide) (Nat.le_of_ble_eq_true rfl) rfl ⟨Nat.le_refl _, Nat.le_refl _⟩ ?_
  refine bk_M_event_0 ⟨hQ.t, _, rc_no hR hB v, fun x μ' hP e1 e2 => ?_⟩
  obtain ⟨hx, hP⟩ := hP
  subst hx
  unfold an_event
  refine bk_M_event_5 ?_
  rw [mj_ite01, mj_iLT, mj_iLE, show (1 : Int32).toInt = 1 from by decide, show (65535 : Int32).toInt = 65535 from by decide]
  refine ⟨fun h => ⟨fun h2 => ?_, fun h2 => ⟨fun h3 => ?_, fun h3 => ?_⟩⟩, fun h => ?_⟩
  · rw [if_pos h, if_neg (by omega)]
    exact ⟨⟨_, rfl, rfl, hP⟩, e1, e2⟩
  · obtain ⟨n, h1, rfl, h4⟩ := mj_nn (v := v) (by omega)
    obtain ⟨e, h5, rfl, h6⟩ := mj_nn (v := w) (by omega)
    have hn : n < 101 := by omega
    rw [if_pos h, if_pos (by omega), h4, h6, Int.toNat_natCast, Int.toNat_natCast]
    refine ⟨hP.t, _, rc_set hP.1 hB n e hn, fun x μ2 hP2 r1 r2 => ?_⟩
    obtain ⟨hx, hP2⟩ := hP2
    subst hx
    refine bk_M_event_30 ?_
    by_cases q : σ 5 n ≠ 0 ∧ σ 11 n ≠ 0
    · rw [if_pos q, if_pos q]
      rw [if_pos q] at hP2
      exact ⟨fun z => absurd z (by decide), fun _ => ⟨⟨_, rfl, rfl, hP.trans hP2⟩, r1.trans e1, r2.trans e2⟩⟩
    · rw [if_neg q, if_neg q]
      rw [if_neg q] at hP2
      exact ⟨fun _ => ⟨⟨_, rfl, rfl, hP.trans hP2⟩, r1.trans e1, r2.trans e2⟩, fun z => absurd rfl z⟩
  · rw [if_pos h, if_neg (by omega)]
    exact ⟨⟨_, rfl, rfl, hP⟩, e1, e2⟩
  · rw [if_neg h]
    exact ⟨⟨_, rfl, rfl, hP⟩, e1, e2⟩
theorem rc_running (hR : rf_R m A σ μ) (hB : sp_B σ) (hC : σ 0 0 ≤ 8) (hn : σ 43 0 ≤ 50000) (v : Int32) (w : Int64) : rc_I G my_M_running mY_M_running m A μ [.int v, .long w] (an_running σ v.toInt w.toInt) σ := by
  have hQ := hR.self
  refine mj_of (by decide) rfl (by decide) (Nat.le_of_ble_eq_true rfl) rfl ⟨Nat.le_refl _, Nat.le_refl _⟩ ?_
  unfold an_running
  refine bk_M_running_0 ?_
  rw [hQ.si 0 rfl, hQ.sl 43 rfl, mj_iLT, mj_iLT, mj_jLT, mj_jLT, show (0 : Int32).toInt = 0 from by decide, show (0 : Int64).toInt = 0 from by decide, nI_toInt (hB 0 0), pk_lT (by omega)]
  refine ⟨fun h => ?_, fun h => ⟨hQ.t, fun h2 => ⟨fun h3 => ?_, fun h3 => ⟨fun h4 => ?_, fun h4 => ?_⟩⟩, fun h2 => ?_⟩⟩
  · rw [if_neg (by omega)]
    exact ⟨⟨_, rfl, rfl, hQ⟩, rfl, rfl⟩
  · rw [if_pos (by omega), if_neg (by omega)]
    exact ⟨⟨_, rfl, rfl, hQ⟩, rfl, rfl⟩
  · rw [if_pos (by omega), if_pos (by omega)]
    obtain ⟨c, h1, rfl, h5⟩ := mj_nn (v := v) (by omega)
    obtain ⟨t, h6, rfl, h7⟩ := mj_LL (v := w) (by omega)
    rw [h5, h7, Int.toNat_natCast, Int.toNat_natCast]
    have hi : 50000 * c + t < 400000 := by omega
    have ei : (50000 : Int32) * nI c + (lN t).toInt32 = nI (50000 * c + t) := by
      rw [show (50000 : Int32) = nI 50000 from rfl, pk_mul, lN_i, nI_add]
    rw [ei]
    refine ⟨_, hQ.r 44 (by decide), hQ.a3 44 (by decide), hQ.v 44 (by decide) hi, ?_⟩
    rw [nI_clamp (by omega), hQ.i 44 (by decide) hi]
    exact ⟨⟨_, rfl, rfl, hQ⟩, rfl, rfl⟩
  · rw [if_pos (by omega), if_neg (by omega)]
    exact ⟨⟨_, rfl, rfl, hQ⟩, rfl, rfl⟩
  · rw [if_neg (by omega)]
    exact ⟨⟨_, rfl, rfl, hQ⟩, rfl, rfl⟩
theorem rc_holder (hR : rf_R m A σ μ) (v : Int32) : rc_I G my_M_holder mY_M_holder m A μ [.int v] (an_holder σ v.toInt) σ := by
  have hQ := hR.self
  refine mj_of (by decide) rfl (by decide) (Nat.le_of_ble_eq_true rfl) rfl ⟨Nat.le_refl _, Nat.le_refl _⟩ ?_
  unfold an_holder
  refine bk_M_holder_0 ?_
  rw [mj_iLT, mj_iLE, show (1 : Int32).toInt = 1 from by decide, show (32 : Int32).toInt = 32 from by decide]
  refine ⟨fun h => ?_, fun h => ⟨fun h2 => ?_, fun h2 => ?_⟩⟩
  · rw [if_neg (by omega)]
    exact ⟨⟨_, rfl, rfl, hQ⟩, rfl, rfl⟩
  · obtain ⟨n, h1, rfl, h4⟩ := mj_nn (v := v) (by omega)
    have hn : n < 33 := by omega
    rw [if_pos (by omega), h4, Int.toNat_natCast]
    simp (disch := first | decide | assumption | omega) only [hQ.t, hQ.r, hQ.a0, hQ.a1, hQ.a2, hQ.a3, hQ.si, hQ.sl, hQ.l15, hQ.i1, hQ.v1, hQ.l1, hQ.i5, hQ.v5, hQ.l5, hQ.i3, hQ.v3, hQ.l3, hQ.i2, hQ.v2, hQ.l2, hQ.i4, hQ.v4, hQ.l4, Option.some.injEq, exists_eq_left', nI_clamp, nI_1, mj_vin, true_and, eq_self]
    exact ⟨⟨_, rfl, rfl, hQ⟩, (by first | exact ⟨rfl, rfl⟩ | trivial)⟩
  · rw [if_neg (by omega)]
    exact ⟨⟨_, rfl, rfl, hQ⟩, rfl, rfl⟩
theorem rl_code (hQ : rf_Q m A σ μ μ) (hB : sp_B σ) (v w : Int32) (fin : ∀ x : Int32, x = an_code σ v.toInt w.toInt → Ex (some (.int x)) μ) : mj_J G mY_M_code Ex N S 0 [(0, va_rf (some m)), (1, .int v), (2, .int w)] [] μ := by
  have e39 : (nI (σ 39 0)).toInt = σ 39 0 := nI_toInt (hB 39 0)
  refine bk_M_code_0 ?_
  simp only [hQ.si 39 rfl, mj_iLT, mj_iLE, mj_iEQ, e39, show (0 : Int32).toInt = 0 from by decide, show (1 : Int32).toInt = 1 from by decide, show (2 : Int32).toInt = 2 from by decide, show (-1 : Int32).toInt = -1 from by decide, show (999 : Int32).toInt = 999 from by decide]
  unfold an_code at fin
  refine ⟨fun h => ⟨fun h2 => fin _ ?_, fun h2 => ⟨hQ.t, fun h3 => fin _ ?_, fun h3 => ⟨fun h4 => ⟨fun h5 => fin _ ?_, fun h5 => ⟨fun h6 => ?_, fun h6 => fin _ ?_⟩⟩, fun h4 => fin _ ?_⟩⟩⟩, fun h => ⟨fun h2 => ⟨fun h3 => fin _ ?_, fun h3 => absurd (by omega) h3⟩, fun h2 => ⟨hQ.t, fin _ ?_⟩⟩⟩
  · rw [if_neg (by omega), if_neg (by omega)]
  · rw [if_neg (by omega), if_neg (by omega)]
  · rw [if_neg (by omega), if_pos (by omega), if_neg (by omega), if_neg (by omega), if_neg (by omega)]
  · obtain ⟨n, h1, rfl, h7⟩ := mj_nn (v := v) (by omega)
    have hn : n < 1000 := by omega
    simp (disch := first | decide | assumption | omega) only [hQ.t, hQ.r, hQ.a0, hQ.a1, hQ.a2, hQ.a3, hQ.si, hQ.sl, hQ.l15, hQ.i1, hQ.v1, hQ.l1, hQ.i5, hQ.v5, hQ.l5, hQ.i3, hQ.v3, hQ.l3, hQ.i2, hQ.v2, hQ.l2, hQ.i4, hQ.v4, hQ.l4, Option.some.injEq, exists_eq_left', nI_clamp, nI_1, mj_vin, true_and, eq_self, lN_i]
    refine ⟨fun q => ⟨fun q2 => fin _ ?_, fun q2 => fin _ ?_⟩, fun q => fin _ ?_⟩
    · rw [if_neg (by omega), if_pos (by omega), if_neg (by omega), if_neg (by omega), if_pos (by omega), h7, Int.toNat_natCast]
    · rw [if_neg (by omega), if_pos (by omega), if_neg (by omega), if_pos (by omega), h7, Int.toNat_natCast]
    · rw [if_neg (by omega), if_pos (by omega), if_pos (by omega), h7, Int.toNat_natCast]
  · rw [if_neg (by omega), if_pos (by omega), if_neg (by omega), if_neg (by omega), if_neg (by omega)]
  · rw [if_neg (by omega), if_neg (by omega)]
  · rw [if_neg (by omega), if_neg (by omega)]
  · rw [if_pos (by omega)]
theorem rc_code (hR : rf_R m A σ μ) (hB : sp_B σ) (v w : Int32) : rc_I G my_M_code mY_M_code m A μ [.int v, .int w] (an_code σ v.toInt w.toInt) σ := by
  have hQ := hR.self
  refine mj_of (by decide) rfl (by decide) (Nat.le_of_ble_eq_true rfl) rfl ⟨Nat.le_refl _, Nat.le_refl _⟩ ?_
  exact rl_code hQ hB v w fun x hx => ⟨⟨x, rfl, hx, hQ⟩, rfl, rfl⟩
end RL
