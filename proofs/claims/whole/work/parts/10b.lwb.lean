section LB2
variable {G : mj_G} {σ : ss_S} {μ : mj_MM} {i h m : Nat}
theorem an_task_s (a b c : Int) (e : Nat) : (an_task σ a b c e).2 43 0 = σ 43 0 ∧ BL (an_task σ a b c e).2 = BL σ := by
  unfold an_task
  repeat' split
  all_goals exact ⟨rfl, BL_cg rfl rfl rfl (fun _ => rfl)⟩
theorem an_part_s (a b c : Int) : (an_part σ a b c).2 43 0 = σ 43 0 ∧ BL (an_part σ a b c).2 = BL σ := by
  unfold an_part
  repeat' split
  all_goals exact ⟨rfl, BL_cg rfl rfl rfl (fun _ => rfl)⟩
theorem an_manner_s (a : Int) (e : Nat) : (an_manner σ a e).2 43 0 = σ 43 0 ∧ BL (an_manner σ a e).2 = BL σ := by
  unfold an_manner
  repeat' split
  all_goals exact ⟨rfl, BL_cg rfl rfl rfl (fun _ => rfl)⟩
theorem an_activate_s (a b : Int) : (an_activate σ a b).2 43 0 = σ 43 0 ∧ BL (an_activate σ a b).2 = BL σ := by
  unfold an_activate
  repeat' split
  all_goals exact ⟨rfl, BL_cg rfl rfl rfl (fun _ => rfl)⟩
theorem an_interrupt_s (a b c : Int) : (an_interrupt σ a b c).2 43 0 = σ 43 0 ∧ BL (an_interrupt σ a b c).2 = BL σ := by
  unfold an_interrupt
  repeat' split
  all_goals exact ⟨rfl, BL_cg rfl rfl rfl (fun _ => rfl)⟩
theorem an_event_s (a b : Int) : (an_event σ a b).2 43 0 = σ 43 0 ∧ BL (an_event σ a b).2 = BL σ := by
  unfold an_event
  split
  · split
    · split
      · exact ⟨sp_set_f _ _ _ _ _ (by decide), BL_cg (sp_set_f _ _ _ _ _ (by decide)) (sp_set_f _ _ _ _ _ (by decide)) (sp_set_f _ _ _ _ _ (by decide)) (fun _ => sp_set_f _ _ _ _ _ (by decide))⟩
      · exact ⟨rfl, rfl⟩
    · exact ⟨rfl, rfl⟩
  · exact ⟨rfl, rfl⟩
theorem LI.t (H : LI i h m σ μ) : mj_t μ h = 1 := by
  obtain ⟨B, A, h1, h2, ⟨c, hQ, hP⟩, -⟩ := H
  have := hQ.t0 hP.x
  rw [h1] at this
  exact this
theorem op_task (H : LI i h m σ μ) (hi : i ≤ 3073) (v w u : Int32) (e : Nat) (he : e < 2) : ∃ (N' S' : Nat) (P : Int32 → mj_MM → Prop), mj_M G my_T_task mY_T_task [va_rf (some h), .int v, .int w, .int u, .int (nI e)] N' S' μ (mj_XI P) ∧ (N' ≤ 600000 ∧ S' ≤ 7302250) ∧ ∀ x μ', P x μ' → mj_nc μ' = N' → mj_ns μ' = S' → x = (an_task σ v.toInt w.toInt u.toInt e).1 ∧ LM i h m σ (an_task σ v.toInt w.toInt u.toInt e).2 μ' := by
  obtain ⟨B, A, h1, h2, ⟨c, hQ, hP⟩, h4, h5, h6, h7⟩ := H
  have hb := BL_le h5.2.1
  have hs := (an_task_s (σ := σ) v.toInt w.toInt u.toInt e).2
  obtain ⟨n, hn, hM⟩ := lq_task (G := G) hQ hP v w u e he
  rw [h1] at hM
  refine ⟨_, _, _, hM, ⟨by omega, by omega⟩, fun x μ' q e1 e2 => ?_⟩
  obtain ⟨qx, B', q1, q2, q3⟩ := q
  exact ⟨qx, LM.of h2 h4 h5 q1 q2 q3 (by rw [hs]; omega) (by rw [hs]; omega)⟩
theorem op_part (H : LI i h m σ μ) (hi : i ≤ 3073) (hG : gS G) (v k : Int32) (w : Int64) : ∃ (N' S' : Nat) (P : Int32 → mj_MM → Prop), mj_M G my_T_part mY_T_part [va_rf (some h), .int v, .int k, .long w] N' S' μ (mj_XI P) ∧ (N' ≤ 600000 ∧ S' ≤ 7302250) ∧ ∀ x μ', P x μ' → mj_nc μ' = N' → mj_ns μ' = S' → x = (an_part σ v.toInt k.toInt w.toInt).1 ∧ LM i h m σ (an_part σ v.toInt k.toInt w.toInt).2 μ' := by
  obtain ⟨B, A, h1, h2, ⟨c, hQ, hP⟩, h4, h5, h6, h7⟩ := H
  have hb := BL_le h5.2.1
  have hs := (an_part_s (σ := σ) v.toInt k.toInt w.toInt).2
  obtain ⟨n, hn, hM⟩ := lq_part (G := G) hQ hP hG h5.2.2.2.2.2.2.2 v k w
  rw [h1] at hM
  refine ⟨_, _, _, hM, ⟨by omega, by omega⟩, fun x μ' q e1 e2 => ?_⟩
  obtain ⟨qx, B', q1, q2, q3⟩ := q
  exact ⟨qx, LM.of h2 h4 h5 q1 q2 q3 (by rw [hs]; omega) (by rw [hs]; omega)⟩
theorem op_activate (H : LI i h m σ μ) (hi : i ≤ 3073) (v : Int32) (w : Int64) : ∃ (N' S' : Nat) (P : Int32 → mj_MM → Prop), mj_M G my_T_activate mY_T_activate [va_rf (some h), .int v, .long w] N' S' μ (mj_XI P) ∧ (N' ≤ 600000 ∧ S' ≤ 7302250) ∧ ∀ x μ', P x μ' → mj_nc μ' = N' → mj_ns μ' = S' → x = (an_activate σ v.toInt w.toInt).1 ∧ LM i h m σ (an_activate σ v.toInt w.toInt).2 μ' := by
  obtain ⟨B, A, h1, h2, ⟨c, hQ, hP⟩, h4, h5, h6, h7⟩ := H
  have hb := BL_le h5.2.1
  have hs := (an_activate_s (σ := σ) v.toInt w.toInt).2
  obtain ⟨n, hn, hM⟩ := lq_activate (G := G) hQ hP v w
  rw [h1] at hM
  refine ⟨_, _, _, hM, ⟨by omega, by omega⟩, fun x μ' q e1 e2 => ?_⟩
  obtain ⟨qx, B', q1, q2, q3⟩ := q
  exact ⟨qx, LM.of h2 h4 h5 q1 q2 q3 (by rw [hs]; omega) (by rw [hs]; omega)⟩
theorem op_interrupt (H : LI i h m σ μ) (hi : i ≤ 3073) (l : Int32) (v w : Int64) : ∃ (N' S' : Nat) (P : Int32 → mj_MM → Prop), mj_M G my_T_interrupt mY_T_interrupt [va_rf (some h), .int l, .long v, .long w] N' S' μ (mj_XI P) ∧ (N' ≤ 600000 ∧ S' ≤ 7302250) ∧ ∀ x μ', P x μ' → mj_nc μ' = N' → mj_ns μ' = S' → x = (an_interrupt σ l.toInt v.toInt w.toInt).1 ∧ LM i h m σ (an_interrupt σ l.toInt v.toInt w.toInt).2 μ' := by
  obtain ⟨B, A, h1, h2, ⟨c, hQ, hP⟩, h4, h5, h6, h7⟩ := H
  have hb := BL_le h5.2.1
  have hs := (an_interrupt_s (σ := σ) l.toInt v.toInt w.toInt).2
  obtain ⟨n, hn, hM⟩ := lq_interrupt (G := G) hQ hP l v w
  rw [h1] at hM
  refine ⟨_, _, _, hM, ⟨by omega, by omega⟩, fun x μ' q e1 e2 => ?_⟩
  obtain ⟨qx, B', q1, q2, q3⟩ := q
  exact ⟨qx, LM.of h2 h4 h5 q1 q2 q3 (by rw [hs]; omega) (by rw [hs]; omega)⟩
theorem op_manner (H : LI i h m σ μ) (hi : i ≤ 3073) (v : Int32) (f : Nat) (hf : f < 2) : ∃ P : Int32 → mj_MM → Prop, mj_M G my_T_manner mY_T_manner [va_rf (some h), .int v, .int (nI f)] (mj_nc μ) (mj_ns μ) μ (mj_XI P) ∧ ∀ x μ', P x μ' → mj_nc μ' = mj_nc μ → mj_ns μ' = mj_ns μ → x = (an_manner σ v.toInt f).1 ∧ LM i h m σ (an_manner σ v.toInt f).2 μ' := by
  obtain ⟨B, A, h1, h2, ⟨c, hQ, hP⟩, h4, h5, h6, h7⟩ := H
  have hs := (an_manner_s (σ := σ) v.toInt f).2
  have hM := lq_manner (G := G) hQ hP v f hf
  rw [h1] at hM
  refine ⟨_, hM, fun x μ' q e1 e2 => ?_⟩
  exact ⟨q.1, LM.of h2 h4 h5 rfl h1 q.2 (by rw [hs]; omega) (by rw [hs]; omega)⟩
theorem op_event (H : LI i h m σ μ) (hi : i ≤ 3073) (v w : Int32) : ∃ P : Int32 → mj_MM → Prop, mj_M G my_T_event mY_T_event [va_rf (some h), .int v, .int w] (mj_nc μ) (mj_ns μ) μ (mj_XI P) ∧ ∀ x μ', P x μ' → mj_nc μ' = mj_nc μ → mj_ns μ' = mj_ns μ → x = (an_event σ v.toInt w.toInt).1 ∧ LM i h m σ (an_event σ v.toInt w.toInt).2 μ' := by
  obtain ⟨B, A, h1, h2, ⟨c, hQ, hP⟩, h4, h5, h6, h7⟩ := H
  have hs := (an_event_s (σ := σ) v.toInt w.toInt).2
  have h21 : σ 21 0 + 1 < 2 ^ 31 := by
    have := h5.1 21 0
    have : σ 43 0 ≤ 50000 := h5.2.1.2.2.2.2.2.2.2.2.2
    omega
  have hM := lq_event (G := G) hQ hP h21 v w
  rw [h1] at hM
  refine ⟨_, hM, fun x μ' q e1 e2 => ?_⟩
  exact ⟨q.1, LM.of h2 h4 h5 rfl h1 q.2 (by rw [hs]; omega) (by rw [hs]; omega)⟩
theorem op_run (H : LI i h m σ μ) (hi : i ≤ 3073) (v : Int64) : ∃ (N' S' : Nat) (P : Int32 → mj_MM → Prop), mj_M G my_T_run mY_T_run [va_rf (some h), .long v] N' S' μ (mj_XI P) ∧ (N' ≤ 600000 ∧ S' ≤ 7302250) ∧ ∀ x μ', P x μ' → mj_nc μ' = N' → mj_ns μ' = S' → x = (an_run σ v.toInt).1 ∧ LM i h m σ (an_run σ v.toInt).2 μ' := by
  obtain ⟨B, A, h1, h2, ⟨c, hQ, hP⟩, h4, h5, h6, h7⟩ := H
  have hnow : σ 43 0 ≤ 50000 := h5.2.1.2.2.2.2.2.2.2.2.2
  obtain ⟨r1, r2, r3, r4⟩ := h5.run (by omega) v.toInt (by omega)
  have hb := BL_le r1.2.1
  have hM := lq_run (G := G) hQ hP v r4 r3
  rw [h1] at hM
  refine ⟨_, _, _, hM, ⟨by omega, by omega⟩, fun x μ' q e1 e2 => ?_⟩
  exact ⟨q.1, LM.of h2 h4 h5 rfl h1 q.2 (by omega) (by omega)⟩
theorem op_now (H : LI i h m σ μ)  : ∃ P : Int64 → mj_MM → Prop, mj_M G my_T_now mY_T_now [va_rf (some h)] (mj_nc μ) (mj_ns μ) μ (mj_XL P) ∧ ∀ x μ', P x μ' → mj_nc μ' = mj_nc μ → mj_ns μ' = mj_ns μ → x = lN (σ 43 0) ∧ LM i h m σ σ μ' := by
  have H' := H
  obtain ⟨B, A, h1, h2, ⟨c, hQ, hP⟩, h4, h5, h6, h7⟩ := H
  have hM := lq_now (G := G) hQ hP 
  rw [h1] at hM
  refine ⟨_, hM, fun x μ' q e1 e2 => ?_⟩
  rw [q.2]
  exact ⟨q.1, LM.same H'⟩
theorem op_running (H : LI i h m σ μ) (v : Int32) (w : Int64) : ∃ P : Int32 → mj_MM → Prop, mj_M G my_T_running mY_T_running [va_rf (some h), .int v, .long w] (mj_nc μ) (mj_ns μ) μ (mj_XI P) ∧ ∀ x μ', P x μ' → mj_nc μ' = mj_nc μ → mj_ns μ' = mj_ns μ → x = an_running σ v.toInt w.toInt ∧ LM i h m σ σ μ' := by
  have H' := H
  obtain ⟨B, A, h1, h2, ⟨c, hQ, hP⟩, h4, h5, h6, h7⟩ := H
  have hM := lq_running (G := G) hQ hP v w
  rw [h1] at hM
  refine ⟨_, hM, fun x μ' q e1 e2 => ?_⟩
  rw [q.2]
  exact ⟨q.1, LM.same H'⟩
theorem op_used (H : LI i h m σ μ) (v : Int32) : ∃ P : Int64 → mj_MM → Prop, mj_M G my_T_used mY_T_used [va_rf (some h), .int v] (mj_nc μ) (mj_ns μ) μ (mj_XL P) ∧ ∀ x μ', P x μ' → mj_nc μ' = mj_nc μ → mj_ns μ' = mj_ns μ → x = an_used σ v.toInt ∧ LM i h m σ σ μ' := by
  have H' := H
  obtain ⟨B, A, h1, h2, ⟨c, hQ, hP⟩, h4, h5, h6, h7⟩ := H
  have hM := lq_used (G := G) hQ hP v
  rw [h1] at hM
  refine ⟨_, hM, fun x μ' q e1 e2 => ?_⟩
  rw [q.2]
  exact ⟨q.1, LM.same H'⟩
theorem op_state (H : LI i h m σ μ) (v : Int32) : ∃ P : Int32 → mj_MM → Prop, mj_M G my_T_state mY_T_state [va_rf (some h), .int v] (mj_nc μ) (mj_ns μ) μ (mj_XI P) ∧ ∀ x μ', P x μ' → mj_nc μ' = mj_nc μ → mj_ns μ' = mj_ns μ → x = an_state σ v.toInt ∧ LM i h m σ σ μ' := by
  have H' := H
  obtain ⟨B, A, h1, h2, ⟨c, hQ, hP⟩, h4, h5, h6, h7⟩ := H
  have hM := lq_state (G := G) hQ hP v
  rw [h1] at hM
  refine ⟨_, hM, fun x μ' q e1 e2 => ?_⟩
  rw [q.2]
  exact ⟨q.1, LM.same H'⟩
theorem op_events (H : LI i h m σ μ) (v : Int32) : ∃ P : Int32 → mj_MM → Prop, mj_M G my_T_events mY_T_events [va_rf (some h), .int v] (mj_nc μ) (mj_ns μ) μ (mj_XI P) ∧ ∀ x μ', P x μ' → mj_nc μ' = mj_nc μ → mj_ns μ' = mj_ns μ → x = an_events σ v.toInt ∧ LM i h m σ σ μ' := by
  have H' := H
  obtain ⟨B, A, h1, h2, ⟨c, hQ, hP⟩, h4, h5, h6, h7⟩ := H
  have hM := lq_events (G := G) hQ hP v
  rw [h1] at hM
  refine ⟨_, hM, fun x μ' q e1 e2 => ?_⟩
  rw [q.2]
  exact ⟨q.1, LM.same H'⟩
theorem op_code (H : LI i h m σ μ) (v w : Int32) : ∃ P : Int32 → mj_MM → Prop, mj_M G my_T_code mY_T_code [va_rf (some h), .int v, .int w] (mj_nc μ) (mj_ns μ) μ (mj_XI P) ∧ ∀ x μ', P x μ' → mj_nc μ' = mj_nc μ → mj_ns μ' = mj_ns μ → x = an_code σ v.toInt w.toInt ∧ LM i h m σ σ μ' := by
  have H' := H
  obtain ⟨B, A, h1, h2, ⟨c, hQ, hP⟩, h4, h5, h6, h7⟩ := H
  have hM := lq_code (G := G) hQ hP v w
  rw [h1] at hM
  refine ⟨_, hM, fun x μ' q e1 e2 => ?_⟩
  rw [q.2]
  exact ⟨q.1, LM.same H'⟩
theorem op_order (H : LI i h m σ μ) (v w : Int32) : ∃ P : Int32 → mj_MM → Prop, mj_M G my_T_order mY_T_order [va_rf (some h), .int v, .int w] (mj_nc μ) (mj_ns μ) μ (mj_XI P) ∧ ∀ x μ', P x μ' → mj_nc μ' = mj_nc μ → mj_ns μ' = mj_ns μ → x = an_order σ v.toInt w.toInt ∧ LM i h m σ σ μ' := by
  have H' := H
  obtain ⟨B, A, h1, h2, ⟨c, hQ, hP⟩, h4, h5, h6, h7⟩ := H
  have hM := lq_order (G := G) hQ hP v w
  rw [h1] at hM
  refine ⟨_, hM, fun x μ' q e1 e2 => ?_⟩
  rw [q.2]
  exact ⟨q.1, LM.same H'⟩
theorem op_spin (H : LI i h m σ μ) (v w : Int32) : ∃ P : Int32 → mj_MM → Prop, mj_M G my_T_spin mY_T_spin [va_rf (some h), .int v, .int w] (mj_nc μ) (mj_ns μ) μ (mj_XI P) ∧ ∀ x μ', P x μ' → mj_nc μ' = mj_nc μ → mj_ns μ' = mj_ns μ → x = an_spin σ v.toInt w.toInt ∧ LM i h m σ σ μ' := by
  have H' := H
  obtain ⟨B, A, h1, h2, ⟨c, hQ, hP⟩, h4, h5, h6, h7⟩ := H
  have hM := lq_spin (G := G) hQ hP v w
  rw [h1] at hM
  refine ⟨_, hM, fun x μ' q e1 e2 => ?_⟩
  rw [q.2]
  exact ⟨q.1, LM.same H'⟩
theorem op_holder (H : LI i h m σ μ) (v : Int32) : ∃ P : Int32 → mj_MM → Prop, mj_M G my_T_holder mY_T_holder [va_rf (some h), .int v] (mj_nc μ) (mj_ns μ) μ (mj_XI P) ∧ ∀ x μ', P x μ' → mj_nc μ' = mj_nc μ → mj_ns μ' = mj_ns μ → x = an_holder σ v.toInt ∧ LM i h m σ σ μ' := by
  have H' := H
  obtain ⟨B, A, h1, h2, ⟨c, hQ, hP⟩, h4, h5, h6, h7⟩ := H
  have hM := lq_holder (G := G) hQ hP v
  rw [h1] at hM
  refine ⟨_, hM, fun x μ' q e1 e2 => ?_⟩
  rw [q.2]
  exact ⟨q.1, LM.same H'⟩
theorem rp_task (v w u : Int32) (e : Nat) (he : e < 2) (H : LM i h m σ (an_task σ v.toInt w.toInt u.toInt e).2 μ) (hi : i ≤ 3073) : mj_t μ m = 11 ∧ ∃ P : Int32 → mj_MM → Prop, mj_M G my_M_task mY_M_task [va_rf (some m), .int v, .int w, .int u, .int (nI e)] (mj_nc μ) (mj_ns μ) μ (mj_XI P) ∧ ∀ x μ', P x μ' → mj_nc μ' = mj_nc μ → mj_ns μ' = mj_ns μ → x = (an_task σ v.toInt w.toInt u.toInt e).1 ∧ LI (i + 6) h m (an_task σ v.toInt w.toInt u.toInt e).2 μ' := by
  obtain ⟨tm, t, ⟨hV, hu⟩, A, hR, H2⟩ := H.ref
  have hnow : σ 43 0 ≤ 50000 := t.2.1.2.2.2.2.2.2.2.2.2
  have hs := (an_task_s (σ := σ) v.toInt w.toInt u.toInt e).1
  have hM := rc_task (G := G) hR (t.1.B (by omega)) t.2.1.1 v w u e he
  refine ⟨tm, _, hM, fun x μ' q e1 e2 => ⟨q.1, H2 μ' ?_ q.2 e1 e2⟩⟩
  rw [hs]
  exact TB.mono (t.task (by omega) _ _ _ _ he hV hu) (by omega)
theorem rp_part (v w : Int32) (u : Int64) (H : LM i h m σ (an_part σ v.toInt w.toInt u.toInt).2 μ) (hi : i ≤ 3073) : mj_t μ m = 11 ∧ ∃ P : Int32 → mj_MM → Prop, mj_M G my_M_part mY_M_part [va_rf (some m), .int v, .int w, .long u] (mj_nc μ) (mj_ns μ) μ (mj_XI P) ∧ ∀ x μ', P x μ' → mj_nc μ' = mj_nc μ → mj_ns μ' = mj_ns μ → x = (an_part σ v.toInt w.toInt u.toInt).1 ∧ LI (i + 6) h m (an_part σ v.toInt w.toInt u.toInt).2 μ' := by
  obtain ⟨tm, t, ⟨hV, hu⟩, A, hR, H2⟩ := H.ref
  have hnow : σ 43 0 ≤ 50000 := t.2.1.2.2.2.2.2.2.2.2.2
  have hs := (an_part_s (σ := σ) v.toInt w.toInt u.toInt).1
  have hM := rc_part (G := G) hR (t.1.B (by omega)) t.2.1.1 t.2.1.2.2.1 v w u
  refine ⟨tm, _, hM, fun x μ' q e1 e2 => ⟨q.1, H2 μ' ?_ q.2 e1 e2⟩⟩
  rw [hs]
  exact TB.mono (t.part (by omega) _ _ _ hV hu) (by omega)
theorem rp_manner (v : Int32) (f : Nat) (hf : f < 2) (H : LM i h m σ (an_manner σ v.toInt f).2 μ) (hi : i ≤ 3073) : mj_t μ m = 11 ∧ ∃ P : Int32 → mj_MM → Prop, mj_M G my_M_manner mY_M_manner [va_rf (some m), .int v, .int (nI f)] (mj_nc μ) (mj_ns μ) μ (mj_XI P) ∧ ∀ x μ', P x μ' → mj_nc μ' = mj_nc μ → mj_ns μ' = mj_ns μ → x = (an_manner σ v.toInt f).1 ∧ LI (i + 6) h m (an_manner σ v.toInt f).2 μ' := by
  obtain ⟨tm, t, ⟨hV, hu⟩, A, hR, H2⟩ := H.ref
  have hnow : σ 43 0 ≤ 50000 := t.2.1.2.2.2.2.2.2.2.2.2
  have hs := (an_manner_s (σ := σ) v.toInt f).1
  have hM := rc_manner (G := G) hR (t.1.B (by omega)) t.2.1.1 v f hf
  refine ⟨tm, _, hM, fun x μ' q e1 e2 => ⟨q.1, H2 μ' ?_ q.2 e1 e2⟩⟩
  rw [hs]
  exact TB.mono (t.manner (by omega) _ _ hf hV hu) (by omega)
theorem rp_activate (v : Int32) (w : Int64) (H : LM i h m σ (an_activate σ v.toInt w.toInt).2 μ) (hi : i ≤ 3073) : mj_t μ m = 11 ∧ ∃ P : Int32 → mj_MM → Prop, mj_M G my_M_activate mY_M_activate [va_rf (some m), .int v, .long w] (mj_nc μ) (mj_ns μ) μ (mj_XI P) ∧ ∀ x μ', P x μ' → mj_nc μ' = mj_nc μ → mj_ns μ' = mj_ns μ → x = (an_activate σ v.toInt w.toInt).1 ∧ LI (i + 6) h m (an_activate σ v.toInt w.toInt).2 μ' := by
  obtain ⟨tm, t, ⟨hV, hu⟩, A, hR, H2⟩ := H.ref
  have hnow : σ 43 0 ≤ 50000 := t.2.1.2.2.2.2.2.2.2.2.2
  have hs := (an_activate_s (σ := σ) v.toInt w.toInt).1
  have hM := rc_activate (G := G) hR (t.1.B (by omega)) t.2.1.1 t.2.1.2.2.2.1 v w
  refine ⟨tm, _, hM, fun x μ' q e1 e2 => ⟨q.1, H2 μ' ?_ q.2 e1 e2⟩⟩
  rw [hs]
  exact TB.mono (t.activate (by omega) _ _ hV hu) (by omega)
theorem rp_interrupt (l : Int32) (v w : Int64) (H : LM i h m σ (an_interrupt σ l.toInt v.toInt w.toInt).2 μ) (hi : i ≤ 3073) : mj_t μ m = 11 ∧ ∃ P : Int32 → mj_MM → Prop, mj_M G my_M_interrupt mY_M_interrupt [va_rf (some m), .int l, .long v, .long w] (mj_nc μ) (mj_ns μ) μ (mj_XI P) ∧ ∀ x μ', P x μ' → mj_nc μ' = mj_nc μ → mj_ns μ' = mj_ns μ → x = (an_interrupt σ l.toInt v.toInt w.toInt).1 ∧ LI (i + 6) h m (an_interrupt σ l.toInt v.toInt w.toInt).2 μ' := by
  obtain ⟨tm, t, ⟨hV, hu⟩, A, hR, H2⟩ := H.ref
  have hnow : σ 43 0 ≤ 50000 := t.2.1.2.2.2.2.2.2.2.2.2
  have hs := (an_interrupt_s (σ := σ) l.toInt v.toInt w.toInt).1
  have hM := rc_interrupt (G := G) hR (t.1.B (by omega)) t.2.1.2.2.2.2.1 l v w
  refine ⟨tm, _, hM, fun x μ' q e1 e2 => ⟨q.1, H2 μ' ?_ q.2 e1 e2⟩⟩
  rw [hs]
  exact TB.mono (t.interrupt (by omega) _ _ _ hV hu) (by omega)
theorem rp_event (v w : Int32) (H : LM i h m σ (an_event σ v.toInt w.toInt).2 μ) (hi : i ≤ 3073) : mj_t μ m = 11 ∧ ∃ P : Int32 → mj_MM → Prop, mj_M G my_M_event mY_M_event [va_rf (some m), .int v, .int w] (mj_nc μ) (mj_ns μ) μ (mj_XI P) ∧ ∀ x μ', P x μ' → mj_nc μ' = mj_nc μ → mj_ns μ' = mj_ns μ → x = (an_event σ v.toInt w.toInt).1 ∧ LI (i + 6) h m (an_event σ v.toInt w.toInt).2 μ' := by
  obtain ⟨tm, t, ⟨hV, hu⟩, A, hR, H2⟩ := H.ref
  have hnow : σ 43 0 ≤ 50000 := t.2.1.2.2.2.2.2.2.2.2.2
  have hs := (an_event_s (σ := σ) v.toInt w.toInt).1
  have hM := rc_event (G := G) hR (t.1.B (by omega)) t.2.1.1 v w
  refine ⟨tm, _, hM, fun x μ' q e1 e2 => ⟨q.1, H2 μ' ?_ q.2 e1 e2⟩⟩
  rw [hs]
  exact TB.mono (t.event (by omega) _ _) (by omega)
theorem rp_run (v : Int64) (H : LM i h m σ (an_run σ v.toInt).2 μ) (hi : i ≤ 3073) : mj_t μ m = 11 ∧ ∃ P : Int32 → mj_MM → Prop, mj_M G my_M_run mY_M_run [va_rf (some m), .long v] (mj_nc μ) (mj_ns μ) μ (mj_XI P) ∧ ∀ x μ', P x μ' → mj_nc μ' = mj_nc μ → mj_ns μ' = mj_ns μ → x = (an_run σ v.toInt).1 ∧ LI (i + 6) h m (an_run σ v.toInt).2 μ' := by
  obtain ⟨tm, t, ⟨hV, hu⟩, A, hR, H2⟩ := H.ref
  have hnow : σ 43 0 ≤ 50000 := t.2.1.2.2.2.2.2.2.2.2.2
  obtain ⟨r1, r2, r3, r4⟩ := t.run (by omega) v.toInt (by omega)
  have hM := rc_run (G := G) hR t.1 (by omega) (by omega) t.2.1 v (fun j z1 z2 z3 => (r4 v.toInt.toNat (by omega) (by omega) j z3).mok)
  refine ⟨tm, _, hM, fun x μ' q e1 e2 => ⟨q.1, H2 μ' ?_ q.2 e1 e2⟩⟩
  exact r1.mono (by omega)
theorem rp_now  (H : LM i h m σ σ μ) (hi : i ≤ 3073) : mj_t μ m = 11 ∧ ∃ P : Int64 → mj_MM → Prop, mj_M G my_M_now mY_M_now [va_rf (some m)] (mj_nc μ) (mj_ns μ) μ (mj_XL P) ∧ ∀ x μ', P x μ' → mj_nc μ' = mj_nc μ → mj_ns μ' = mj_ns μ → x = lN (σ 43 0) ∧ LI (i + 6) h m σ μ' := by
  obtain ⟨tm, t, -, A, hR, H2⟩ := H.ref
  have hnow : σ 43 0 ≤ 50000 := t.2.1.2.2.2.2.2.2.2.2.2
  have hM := rc_now (G := G) hR
  exact ⟨tm, _, hM, fun x μ' q e1 e2 => ⟨q.1, H2 μ' (t.mono (by omega)) q.2 e1 e2⟩⟩
theorem rp_running (v : Int32) (w : Int64) (H : LM i h m σ σ μ) (hi : i ≤ 3073) : mj_t μ m = 11 ∧ ∃ P : Int32 → mj_MM → Prop, mj_M G my_M_running mY_M_running [va_rf (some m), .int v, .long w] (mj_nc μ) (mj_ns μ) μ (mj_XI P) ∧ ∀ x μ', P x μ' → mj_nc μ' = mj_nc μ → mj_ns μ' = mj_ns μ → x = an_running σ v.toInt w.toInt ∧ LI (i + 6) h m σ μ' := by
  obtain ⟨tm, t, -, A, hR, H2⟩ := H.ref
  have hnow : σ 43 0 ≤ 50000 := t.2.1.2.2.2.2.2.2.2.2.2
  have hM := rc_running (G := G) hR (t.1.B (by omega)) t.2.1.2.1.2 hnow v w
  exact ⟨tm, _, hM, fun x μ' q e1 e2 => ⟨q.1, H2 μ' (t.mono (by omega)) q.2 e1 e2⟩⟩
theorem rp_used (v : Int32) (H : LM i h m σ σ μ) (hi : i ≤ 3073) : mj_t μ m = 11 ∧ ∃ P : Int64 → mj_MM → Prop, mj_M G my_M_used mY_M_used [va_rf (some m), .int v] (mj_nc μ) (mj_ns μ) μ (mj_XL P) ∧ ∀ x μ', P x μ' → mj_nc μ' = mj_nc μ → mj_ns μ' = mj_ns μ → x = an_used σ v.toInt ∧ LI (i + 6) h m σ μ' := by
  obtain ⟨tm, t, -, A, hR, H2⟩ := H.ref
  have hnow : σ 43 0 ≤ 50000 := t.2.1.2.2.2.2.2.2.2.2.2
  have hM := rc_used (G := G) hR (t.1.B (by omega)) t.2.1.1 v
  exact ⟨tm, _, hM, fun x μ' q e1 e2 => ⟨q.1, H2 μ' (t.mono (by omega)) q.2 e1 e2⟩⟩
theorem rp_state (v : Int32) (H : LM i h m σ σ μ) (hi : i ≤ 3073) : mj_t μ m = 11 ∧ ∃ P : Int32 → mj_MM → Prop, mj_M G my_M_state mY_M_state [va_rf (some m), .int v] (mj_nc μ) (mj_ns μ) μ (mj_XI P) ∧ ∀ x μ', P x μ' → mj_nc μ' = mj_nc μ → mj_ns μ' = mj_ns μ → x = an_state σ v.toInt ∧ LI (i + 6) h m σ μ' := by
  obtain ⟨tm, t, -, A, hR, H2⟩ := H.ref
  have hnow : σ 43 0 ≤ 50000 := t.2.1.2.2.2.2.2.2.2.2.2
  have hM := rc_state (G := G) hR (t.1.B (by omega)) t.2.1.1 v
  exact ⟨tm, _, hM, fun x μ' q e1 e2 => ⟨q.1, H2 μ' (t.mono (by omega)) q.2 e1 e2⟩⟩
theorem rp_events (v : Int32) (H : LM i h m σ σ μ) (hi : i ≤ 3073) : mj_t μ m = 11 ∧ ∃ P : Int32 → mj_MM → Prop, mj_M G my_M_events mY_M_events [va_rf (some m), .int v] (mj_nc μ) (mj_ns μ) μ (mj_XI P) ∧ ∀ x μ', P x μ' → mj_nc μ' = mj_nc μ → mj_ns μ' = mj_ns μ → x = an_events σ v.toInt ∧ LI (i + 6) h m σ μ' := by
  obtain ⟨tm, t, -, A, hR, H2⟩ := H.ref
  have hnow : σ 43 0 ≤ 50000 := t.2.1.2.2.2.2.2.2.2.2.2
  have hM := rc_events (G := G) hR (t.1.B (by omega)) t.2.1.1 v
  exact ⟨tm, _, hM, fun x μ' q e1 e2 => ⟨q.1, H2 μ' (t.mono (by omega)) q.2 e1 e2⟩⟩
theorem rp_code (v w : Int32) (H : LM i h m σ σ μ) (hi : i ≤ 3073) : mj_t μ m = 11 ∧ ∃ P : Int32 → mj_MM → Prop, mj_M G my_M_code mY_M_code [va_rf (some m), .int v, .int w] (mj_nc μ) (mj_ns μ) μ (mj_XI P) ∧ ∀ x μ', P x μ' → mj_nc μ' = mj_nc μ → mj_ns μ' = mj_ns μ → x = an_code σ v.toInt w.toInt ∧ LI (i + 6) h m σ μ' := by
  obtain ⟨tm, t, -, A, hR, H2⟩ := H.ref
  have hnow : σ 43 0 ≤ 50000 := t.2.1.2.2.2.2.2.2.2.2.2
  have hM := rc_code (G := G) hR (t.1.B (by omega)) v w
  exact ⟨tm, _, hM, fun x μ' q e1 e2 => ⟨q.1, H2 μ' (t.mono (by omega)) q.2 e1 e2⟩⟩
theorem rp_order (v w : Int32) (H : LM i h m σ σ μ) (hi : i ≤ 3073) : mj_t μ m = 11 ∧ ∃ P : Int32 → mj_MM → Prop, mj_M G my_M_order mY_M_order [va_rf (some m), .int v, .int w] (mj_nc μ) (mj_ns μ) μ (mj_XI P) ∧ ∀ x μ', P x μ' → mj_nc μ' = mj_nc μ → mj_ns μ' = mj_ns μ → x = an_order σ v.toInt w.toInt ∧ LI (i + 6) h m σ μ' := by
  obtain ⟨tm, t, -, A, hR, H2⟩ := H.ref
  have hnow : σ 43 0 ≤ 50000 := t.2.1.2.2.2.2.2.2.2.2.2
  have hM := rc_order (G := G) hR (t.1.B (by omega)) t.2.1.2.1.2 hnow v w
  exact ⟨tm, _, hM, fun x μ' q e1 e2 => ⟨q.1, H2 μ' (t.mono (by omega)) q.2 e1 e2⟩⟩
theorem rp_spin (v w : Int32) (H : LM i h m σ σ μ) (hi : i ≤ 3073) : mj_t μ m = 11 ∧ ∃ P : Int32 → mj_MM → Prop, mj_M G my_M_spin mY_M_spin [va_rf (some m), .int v, .int w] (mj_nc μ) (mj_ns μ) μ (mj_XI P) ∧ ∀ x μ', P x μ' → mj_nc μ' = mj_nc μ → mj_ns μ' = mj_ns μ → x = an_spin σ v.toInt w.toInt ∧ LI (i + 6) h m σ μ' := by
  obtain ⟨tm, t, -, A, hR, H2⟩ := H.ref
  have hnow : σ 43 0 ≤ 50000 := t.2.1.2.2.2.2.2.2.2.2.2
  have hO : ∀ l, 1 ≤ l → l ≤ 16 → σ 25 l ≤ 100 := fun l l1 l2 => by
    obtain ⟨B, A', -, -, ⟨c, -, hP⟩, -⟩ := H
    have := (hP.h9.2.1.2 l l1 l2).2
    have := t.2.1.1
    omega
  have hM := rc_spinB (G := G) hR (t.1.B (by omega)) t.2.1.1 t.2.1.2.1.2 hO v w
  exact ⟨tm, _, hM, fun x μ' q e1 e2 => ⟨q.1, H2 μ' (t.mono (by omega)) q.2 e1 e2⟩⟩
theorem rp_holder (v : Int32) (H : LM i h m σ σ μ) (hi : i ≤ 3073) : mj_t μ m = 11 ∧ ∃ P : Int32 → mj_MM → Prop, mj_M G my_M_holder mY_M_holder [va_rf (some m), .int v] (mj_nc μ) (mj_ns μ) μ (mj_XI P) ∧ ∀ x μ', P x μ' → mj_nc μ' = mj_nc μ → mj_ns μ' = mj_ns μ → x = an_holder σ v.toInt ∧ LI (i + 6) h m σ μ' := by
  obtain ⟨tm, t, -, A, hR, H2⟩ := H.ref
  have hnow : σ 43 0 ≤ 50000 := t.2.1.2.2.2.2.2.2.2.2.2
  have hM := rc_holder (G := G) hR v
  exact ⟨tm, _, hM, fun x μ' q e1 e2 => ⟨q.1, H2 μ' (t.mono (by omega)) q.2 e1 e2⟩⟩
end LB2
