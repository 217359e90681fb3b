set_option maxRecDepth 20000 in
theorem bk_W_cell_0 {G : mj_G} {Ex : Option Value → mj_MM → Prop} {N S : Nat} {μ : mj_MM} {v1 : Int32}
    (H : (((nI (G.2.2.1.2 2).2.1) ≤ v1 → Ex (some (.int 0)) μ) ∧ (¬ (nI (G.2.2.1.2 2).2.1) ≤ v1 → ((vp_in v1 (G.2.2.1.2 2).2.1) ∧ Ex (some (.int ((G.2.2.1.2 2).2.2 (Int32.toNatClampNeg v1)))) μ)))) :
    mj_J G mY_W_cell Ex N S 0 [(0, va_rf (some (G.2.2.1.2 2).1)), (1, .int v1)] [] μ := by
  refine mj_iload_n 1 md_W_cell_0 rfl ?_
  refine mj_aload_n 0 md_W_cell_1 rfl ?_
  refine mj_oldlen (j := 2) rfl (by decide) rfl md_W_cell_2 ?_
  obtain ⟨H1, H2⟩ := H
  refine mj_icmp_ge (tgt := 12) md_W_cell_3 (by decide) (fun hx => ?_) (fun hx => ?_)
  · replace H := H1 hx
    refine mj_iconst (v := 0) md_W_cell_12 (by decide) ?_
    exact mj_ireturn md_W_cell_13 rfl rfl H
  · replace H := H2 hx
    refine mj_aload_n 0 md_W_cell_6 rfl ?_
    refine mj_iload_n 1 md_W_cell_7 rfl ?_
    obtain ⟨hi1, H⟩ := H
    refine mj_oldld (j := 2) rfl (by decide) rfl hi1 md_W_cell_8 ?_
    refine mj_goto (tgt := 13) md_W_cell_9 (by decide) ?_
    exact mj_ireturn md_W_cell_13 rfl rfl H

set_option maxRecDepth 20000 in
theorem bk_W_law_0 {G : mj_G} {Ex : Option Value → mj_MM → Prop} {N S : Nat} {μ : mj_MM}
    (H : ((mj_nc μ + 1 ≤ N ∧ mj_ns μ + 13 ≤ S) ∧ ∀ a2 : Nat, mj_t μ a2 = 0 → (∃ P : Int32 → mj_MM → Prop, mj_M G my_W_cell mY_W_cell [va_rf (some (G.2.2.1.2 2).1), .int 0] (mj_nc μ + 1) (mj_ns μ + 13) (mj_new μ a2 1 0 13) (mj_XI P) ∧ ∀ (x : Int32) (μ' : mj_MM), P x μ' → mj_nc μ' = mj_nc μ + 1 → mj_ns μ' = mj_ns μ + 13 → mj_J G mY_W_law Ex N S 9 [(0, va_rf (some (G.2.2.1.2 2).1))] [.int x, va_rf (some a2), va_rf (some a2)] μ'))) :
    mj_J G mY_W_law Ex N S 0 [(0, va_rf (some (G.2.2.1.2 2).1))] [] μ := by
  obtain ⟨hn1, H⟩ := H
  refine mj_newO kc_T kdv_T tw_13 tw_14 tw_1 md_W_law_0 hn1.1 hn1.2 (fun a2 ha3 => ?_)
  replace H := H a2 ha3
  have ht4 : mj_t (mj_new μ a2 1 0 13) a2 = 1 := mj_tn
  refine mj_dup md_W_law_3 (mj_rfc _) ?_
  refine mj_aload_n 0 md_W_law_4 rfl ?_
  refine mj_iconst (v := 0) md_W_law_5 (by decide) ?_
  obtain ⟨P, hM, H⟩ := H
  exact mj_callS (n := 2) (As := [va_rf (some (G.2.2.1.2 2).1), .int 0]) hM ⟨tw_613, tw_0, tw_615, ⟨by decide, by decide, by decide +kernel⟩, by decide, by decide⟩ tw_614 rfl md_W_law_6 (by first | decide | (simp only [List.map_cons, List.map_nil, List.sum_cons, List.sum_nil, mj_rfc, mj_ci, mj_cl]; done) | (simp only [List.map_cons, List.map_nil, List.sum_cons, List.sum_nil, mj_rfc, mj_ci, mj_cl]; decide)) id (mj_kI (fun x μ' hP e1 e2 => mj_lvs [0] rfl (H x μ' hP e1 e2)))

set_option maxRecDepth 20000 in
theorem bk_W_law_9 {G : mj_G} {Ex : Option Value → mj_MM → Prop} {N S : Nat} {μ : mj_MM} {s0 : Int32} {s1 : Option Nat} {s2 : Option Nat}
    (H : (∃ b1 : Nat, (s1 = some b1) ∧ (∃ (N' S' : Nat) (P : mj_MM → Prop), mj_M G my_T_init mY_T_init [va_rf (some b1), .int s0] N' S' μ (mj_XV P) ∧ (N' ≤ N ∧ S' ≤ S) ∧ ∀ (μ' : mj_MM), P μ' → mj_nc μ' = N' → mj_ns μ' = S' → mj_J G mY_W_law Ex N S 12 [(0, va_rf (some (G.2.2.1.2 2).1))] [va_rf s2] μ'))) :
    mj_J G mY_W_law Ex N S 9 [(0, va_rf (some (G.2.2.1.2 2).1))] [.int s0, va_rf s1, va_rf s2] μ := by
  obtain ⟨b1, hb2, H⟩ := H
  obtain ⟨N', S', P, hM, hNS, H⟩ := H
  exact mj_callI (n := 1) (As := [.int s0]) hb2 hM ⟨tw_15, tw_1, tw_17, ⟨by decide, by decide, by decide +kernel⟩, by decide, by decide⟩ rfl rfl tw_16 rfl md_W_law_9 (by first | decide | (simp only [List.map_cons, List.map_nil, List.sum_cons, List.sum_nil, mj_rfc, mj_ci, mj_cl]; done) | (simp only [List.map_cons, List.map_nil, List.sum_cons, List.sum_nil, mj_rfc, mj_ci, mj_cl]; decide)) (fun _ => hNS) (mj_kV (fun μ' hP e1 e2 => mj_lvs [0] rfl (H μ' hP e1 e2)))

set_option maxRecDepth 20000 in
theorem bk_W_law_12 {G : mj_G} {Ex : Option Value → mj_MM → Prop} {N S : Nat} {μ : mj_MM} {s0 : Option Nat}
    (H : ((mj_nc μ + 1 ≤ N ∧ mj_ns μ + 45 ≤ S) ∧ ∀ a2 : Nat, mj_t μ a2 = 0 → (∃ P : Int32 → mj_MM → Prop, mj_M G my_W_cell mY_W_cell [va_rf (some (G.2.2.1.2 2).1), .int 0] (mj_nc μ + 1) (mj_ns μ + 45) (mj_new μ a2 11 0 45) (mj_XI P) ∧ ∀ (x : Int32) (μ' : mj_MM), P x μ' → mj_nc μ' = mj_nc μ + 1 → mj_ns μ' = mj_ns μ + 45 → mj_J G mY_W_law Ex N S 22 [(0, va_rf (some (G.2.2.1.2 2).1)), (1, va_rf s0)] [.int x, va_rf (some a2), va_rf (some a2)] μ'))) :
    mj_J G mY_W_law Ex N S 12 [(0, va_rf (some (G.2.2.1.2 2).1))] [va_rf s0] μ := by
  refine mj_astn (i := 1) (lv' := [(1, va_rf s0), (0, va_rf (some (G.2.2.1.2 2).1))]) md_W_law_12 rfl (by decide) (by first | rfl | (simp [mj_rfc]; done) | (simp [mj_rfc]; rfl)) ?_
  obtain ⟨hn1, H⟩ := H
  refine mj_newO kc_M kdv_M tw_616 tw_617 tw_8 md_W_law_13 hn1.1 hn1.2 (fun a2 ha3 => ?_)
  replace H := H a2 ha3
  have ht4 : mj_t (mj_new μ a2 11 0 45) a2 = 11 := mj_tn
  refine mj_dup md_W_law_16 (mj_rfc _) ?_
  refine mj_aload_n 1 md_W_law_17 rfl ?_
  refine mj_iconst (v := 0) md_W_law_18 (by decide) ?_
  obtain ⟨P, hM, H⟩ := H
  exact mj_callS (n := 2) (As := [va_rf (some (G.2.2.1.2 2).1), .int 0]) hM ⟨tw_613, tw_0, tw_615, ⟨by decide, by decide, by decide +kernel⟩, by decide, by decide⟩ tw_614 rfl md_W_law_19 (by first | decide | (simp only [List.map_cons, List.map_nil, List.sum_cons, List.sum_nil, mj_rfc, mj_ci, mj_cl]; done) | (simp only [List.map_cons, List.map_nil, List.sum_cons, List.sum_nil, mj_rfc, mj_ci, mj_cl]; decide)) id (mj_kI (fun x μ' hP e1 e2 => mj_lvs [1, 0] rfl (H x μ' hP e1 e2)))

set_option maxRecDepth 20000 in
theorem bk_W_law_22 {G : mj_G} {Ex : Option Value → mj_MM → Prop} {N S : Nat} {μ : mj_MM} {v1 : Option Nat} {s0 : Int32} {s1 : Option Nat} {s2 : Option Nat}
    (H : (∃ b1 : Nat, (s1 = some b1) ∧ (∃ (N' S' : Nat) (P : mj_MM → Prop), mj_M G my_M_init mY_M_init [va_rf (some b1), .int s0] N' S' μ (mj_XV P) ∧ (N' ≤ N ∧ S' ≤ S) ∧ ∀ (μ' : mj_MM), P μ' → mj_nc μ' = N' → mj_ns μ' = S' → mj_J G mY_W_law Ex N S 25 [(0, va_rf (some (G.2.2.1.2 2).1)), (1, va_rf v1)] [va_rf s2] μ'))) :
    mj_J G mY_W_law Ex N S 22 [(0, va_rf (some (G.2.2.1.2 2).1)), (1, va_rf v1)] [.int s0, va_rf s1, va_rf s2] μ := by
  obtain ⟨b1, hb2, H⟩ := H
  obtain ⟨N', S', P, hM, hNS, H⟩ := H
  exact mj_callI (n := 1) (As := [.int s0]) hb2 hM ⟨tw_618, tw_8, tw_620, ⟨by decide, by decide, by decide +kernel⟩, by decide, by decide⟩ rfl rfl tw_619 rfl md_W_law_22 (by first | decide | (simp only [List.map_cons, List.map_nil, List.sum_cons, List.sum_nil, mj_rfc, mj_ci, mj_cl]; done) | (simp only [List.map_cons, List.map_nil, List.sum_cons, List.sum_nil, mj_rfc, mj_ci, mj_cl]; decide)) (fun _ => hNS) (mj_kV (fun μ' hP e1 e2 => mj_lvs [0, 1] rfl (H μ' hP e1 e2)))

set_option maxRecDepth 20000 in
theorem bk_W_law_25 {G : mj_G} {Ex : Option Value → mj_MM → Prop} {N S : Nat} {μ : mj_MM} {v1 : Option Nat} {s0 : Option Nat}
    (H : mj_J G mY_W_law Ex N S 28 [(0, va_rf (some (G.2.2.1.2 2).1)), (1, va_rf v1), (2, va_rf s0), (3, .int 1)] [] μ) :
    mj_J G mY_W_law Ex N S 25 [(0, va_rf (some (G.2.2.1.2 2).1)), (1, va_rf v1)] [va_rf s0] μ := by
  refine mj_astn (i := 2) (lv' := [(2, va_rf s0), (0, va_rf (some (G.2.2.1.2 2).1)), (1, va_rf v1)]) md_W_law_25 rfl (by decide) (by first | rfl | (simp [mj_rfc]; done) | (simp [mj_rfc]; rfl)) ?_
  refine mj_iconst (v := 1) md_W_law_26 (by decide) ?_
  refine mj_istn (i := 3) (lv' := [(3, .int 1), (2, va_rf s0), (0, va_rf (some (G.2.2.1.2 2).1)), (1, va_rf v1)]) md_W_law_27 rfl (by decide) (by first | rfl | (simp [mj_rfc]; done) | (simp [mj_rfc]; rfl)) ?_
  exact mj_lvs [2, 3, 1, 0] rfl H

set_option maxRecDepth 20000 in
theorem bk_W_law_28 {G : mj_G} {Ex : Option Value → mj_MM → Prop} {N S : Nat} {μ : mj_MM} {v1 : Option Nat} {v2 : Option Nat} {v3 : Int32}
    (H : ((((nI (G.2.2.1.2 2).2.1) - 6) < v3 → Ex (some (.int 1)) μ) ∧ (¬ ((nI (G.2.2.1.2 2).2.1) - 6) < v3 → ((vp_in v3 (G.2.2.1.2 2).2.1) ∧ ((((G.2.2.1.2 2).2.2 (Int32.toNatClampNeg v3)) &&& 15 = 0 → ((vp_in (v3 + 1) (G.2.2.1.2 2).2.1) ∧ (vp_in (v3 + 2) (G.2.2.1.2 2).2.1) ∧ (vp_in (v3 + 3) (G.2.2.1.2 2).2.1) ∧ (vp_in (v3 + 4) (G.2.2.1.2 2).2.1) ∧ ((((G.2.2.1.2 2).2.2 (Int32.toNatClampNeg (v3 + 4))) = 0 → (∃ b6 : Nat, (v1 = some b6) ∧ (mj_t μ b6 = 1) ∧ (∃ (N' S' : Nat) (P : Int32 → mj_MM → Prop), mj_M G my_T_task mY_T_task [va_rf (some b6), .int ((G.2.2.1.2 2).2.2 (Int32.toNatClampNeg (v3 + 1))), .int ((G.2.2.1.2 2).2.2 (Int32.toNatClampNeg (v3 + 2))), .int ((G.2.2.1.2 2).2.2 (Int32.toNatClampNeg (v3 + 3))), .int 0] N' S' μ (mj_XI P) ∧ (N' ≤ N ∧ S' ≤ S) ∧ ∀ (x : Int32) (μ' : mj_MM), P x μ' → mj_nc μ' = N' → mj_ns μ' = S' → mj_J G mY_W_law Ex N S 152 [(0, va_rf (some (G.2.2.1.2 2).1)), (1, va_rf v1), (2, va_rf v2), (3, .int v3)] [.int x] μ'))) ∧ (¬ ((G.2.2.1.2 2).2.2 (Int32.toNatClampNeg (v3 + 4))) = 0 → (∃ b9 : Nat, (v1 = some b9) ∧ (mj_t μ b9 = 1) ∧ (∃ (N' S' : Nat) (P : Int32 → mj_MM → Prop), mj_M G my_T_task mY_T_task [va_rf (some b9), .int ((G.2.2.1.2 2).2.2 (Int32.toNatClampNeg (v3 + 1))), .int ((G.2.2.1.2 2).2.2 (Int32.toNatClampNeg (v3 + 2))), .int ((G.2.2.1.2 2).2.2 (Int32.toNatClampNeg (v3 + 3))), .int 1] N' S' μ (mj_XI P) ∧ (N' ≤ N ∧ S' ≤ S) ∧ ∀ (x : Int32) (μ' : mj_MM), P x μ' → mj_nc μ' = N' → mj_ns μ' = S' → mj_J G mY_W_law Ex N S 152 [(0, va_rf (some (G.2.2.1.2 2).1)), (1, va_rf v1), (2, va_rf v2), (3, .int v3)] [.int x] μ')))))) ∧ (((G.2.2.1.2 2).2.2 (Int32.toNatClampNeg v3)) &&& 15 = 1 → ((vp_in (v3 + 1) (G.2.2.1.2 2).2.1) ∧ (vp_in (v3 + 2) (G.2.2.1.2 2).2.1) ∧ (vp_in (v3 + 3) (G.2.2.1.2 2).2.1) ∧ (vp_in (v3 + 4) (G.2.2.1.2 2).2.1) ∧ ∃ b16 : Nat, (v1 = some b16) ∧ (mj_t μ b16 = 1) ∧ (∃ (N' S' : Nat) (P : Int32 → mj_MM → Prop), mj_M G my_T_part mY_T_part [va_rf (some b16), .int ((G.2.2.1.2 2).2.2 (Int32.toNatClampNeg (v3 + 1))), .int ((G.2.2.1.2 2).2.2 (Int32.toNatClampNeg (v3 + 2))), .long (((Int32.toInt64 ((G.2.2.1.2 2).2.2 (Int32.toNatClampNeg (v3 + 3)))) <<< (Int32.toInt64 32 &&& 63)) ||| ((Int32.toInt64 ((G.2.2.1.2 2).2.2 (Int32.toNatClampNeg (v3 + 4)))) &&& 4294967295))] N' S' μ (mj_XI P) ∧ (N' ≤ N ∧ S' ≤ S) ∧ ∀ (x : Int32) (μ' : mj_MM), P x μ' → mj_nc μ' = N' → mj_ns μ' = S' → mj_J G mY_W_law Ex N S 223 [(0, va_rf (some (G.2.2.1.2 2).1)), (1, va_rf v1), (2, va_rf v2), (3, .int v3)] [.int x] μ'))) ∧ (((G.2.2.1.2 2).2.2 (Int32.toNatClampNeg v3)) &&& 15 = 2 → ((vp_in (v3 + 1) (G.2.2.1.2 2).2.1) ∧ (vp_in (v3 + 2) (G.2.2.1.2 2).2.1) ∧ ((((G.2.2.1.2 2).2.2 (Int32.toNatClampNeg (v3 + 2))) = 0 → (∃ b21 : Nat, (v1 = some b21) ∧ (mj_t μ b21 = 1) ∧ (∃ P : Int32 → mj_MM → Prop, mj_M G my_T_manner mY_T_manner [va_rf (some b21), .int ((G.2.2.1.2 2).2.2 (Int32.toNatClampNeg (v3 + 1))), .int 0] (mj_nc μ) (mj_ns μ) μ (mj_XI P) ∧ ∀ (x : Int32) (μ' : mj_MM), P x μ' → mj_nc μ' = mj_nc μ → mj_ns μ' = mj_ns μ → mj_J G mY_W_law Ex N S 284 [(0, va_rf (some (G.2.2.1.2 2).1)), (1, va_rf v1), (2, va_rf v2), (3, .int v3)] [.int x] μ'))) ∧ (¬ ((G.2.2.1.2 2).2.2 (Int32.toNatClampNeg (v3 + 2))) = 0 → (∃ b24 : Nat, (v1 = some b24) ∧ (mj_t μ b24 = 1) ∧ (∃ P : Int32 → mj_MM → Prop, mj_M G my_T_manner mY_T_manner [va_rf (some b24), .int ((G.2.2.1.2 2).2.2 (Int32.toNatClampNeg (v3 + 1))), .int 1] (mj_nc μ) (mj_ns μ) μ (mj_XI P) ∧ ∀ (x : Int32) (μ' : mj_MM), P x μ' → mj_nc μ' = mj_nc μ → mj_ns μ' = mj_ns μ → mj_J G mY_W_law Ex N S 284 [(0, va_rf (some (G.2.2.1.2 2).1)), (1, va_rf v1), (2, va_rf v2), (3, .int v3)] [.int x] μ')))))) ∧ (((G.2.2.1.2 2).2.2 (Int32.toNatClampNeg v3)) &&& 15 = 3 → ((vp_in (v3 + 1) (G.2.2.1.2 2).2.1) ∧ (vp_in (v3 + 2) (G.2.2.1.2 2).2.1) ∧ (vp_in (v3 + 3) (G.2.2.1.2 2).2.1) ∧ ∃ b30 : Nat, (v1 = some b30) ∧ (mj_t μ b30 = 1) ∧ (∃ (N' S' : Nat) (P : Int32 → mj_MM → Prop), mj_M G my_T_activate mY_T_activate [va_rf (some b30), .int ((G.2.2.1.2 2).2.2 (Int32.toNatClampNeg (v3 + 1))), .long (((Int32.toInt64 ((G.2.2.1.2 2).2.2 (Int32.toNatClampNeg (v3 + 2)))) <<< (Int32.toInt64 32 &&& 63)) ||| ((Int32.toInt64 ((G.2.2.1.2 2).2.2 (Int32.toNatClampNeg (v3 + 3)))) &&& 4294967295))] N' S' μ (mj_XI P) ∧ (N' ≤ N ∧ S' ≤ S) ∧ ∀ (x : Int32) (μ' : mj_MM), P x μ' → mj_nc μ' = N' → mj_ns μ' = S' → mj_J G mY_W_law Ex N S 340 [(0, va_rf (some (G.2.2.1.2 2).1)), (1, va_rf v1), (2, va_rf v2), (3, .int v3)] [.int x] μ'))) ∧ (((G.2.2.1.2 2).2.2 (Int32.toNatClampNeg v3)) &&& 15 = 4 → ((vp_in (v3 + 1) (G.2.2.1.2 2).2.1) ∧ (vp_in (v3 + 2) (G.2.2.1.2 2).2.1) ∧ (vp_in (v3 + 3) (G.2.2.1.2 2).2.1) ∧ (vp_in (v3 + 4) (G.2.2.1.2 2).2.1) ∧ (vp_in (v3 + 5) (G.2.2.1.2 2).2.1) ∧ ∃ b38 : Nat, (v1 = some b38) ∧ (mj_t μ b38 = 1) ∧ (∃ (N' S' : Nat) (P : Int32 → mj_MM → Prop), mj_M G my_T_interrupt mY_T_interrupt [va_rf (some b38), .int ((G.2.2.1.2 2).2.2 (Int32.toNatClampNeg (v3 + 1))), .long (((Int32.toInt64 ((G.2.2.1.2 2).2.2 (Int32.toNatClampNeg (v3 + 2)))) <<< (Int32.toInt64 32 &&& 63)) ||| ((Int32.toInt64 ((G.2.2.1.2 2).2.2 (Int32.toNatClampNeg (v3 + 3)))) &&& 4294967295)), .long (((Int32.toInt64 ((G.2.2.1.2 2).2.2 (Int32.toNatClampNeg (v3 + 4)))) <<< (Int32.toInt64 32 &&& 63)) ||| ((Int32.toInt64 ((G.2.2.1.2 2).2.2 (Int32.toNatClampNeg (v3 + 5)))) &&& 4294967295))] N' S' μ (mj_XI P) ∧ (N' ≤ N ∧ S' ≤ S) ∧ ∀ (x : Int32) (μ' : mj_MM), P x μ' → mj_nc μ' = N' → mj_ns μ' = S' → mj_J G mY_W_law Ex N S 423 [(0, va_rf (some (G.2.2.1.2 2).1)), (1, va_rf v1), (2, va_rf v2), (3, .int v3)] [.int x] μ'))) ∧ (((G.2.2.1.2 2).2.2 (Int32.toNatClampNeg v3)) &&& 15 = 5 → ((vp_in (v3 + 1) (G.2.2.1.2 2).2.1) ∧ (vp_in (v3 + 2) (G.2.2.1.2 2).2.1) ∧ ∃ b43 : Nat, (v1 = some b43) ∧ (mj_t μ b43 = 1) ∧ (∃ (N' S' : Nat) (P : Int32 → mj_MM → Prop), mj_M G my_T_run mY_T_run [va_rf (some b43), .long (((Int32.toInt64 ((G.2.2.1.2 2).2.2 (Int32.toNatClampNeg (v3 + 1)))) <<< (Int32.toInt64 32 &&& 63)) ||| ((Int32.toInt64 ((G.2.2.1.2 2).2.2 (Int32.toNatClampNeg (v3 + 2)))) &&& 4294967295))] N' S' μ (mj_XI P) ∧ (N' ≤ N ∧ S' ≤ S) ∧ ∀ (x : Int32) (μ' : mj_MM), P x μ' → mj_nc μ' = N' → mj_ns μ' = S' → mj_J G mY_W_law Ex N S 501 [(0, va_rf (some (G.2.2.1.2 2).1)), (1, va_rf v1), (2, va_rf v2), (3, .int v3)] [.int x] μ'))) ∧ (((G.2.2.1.2 2).2.2 (Int32.toNatClampNeg v3)) &&& 15 = 6 → (∃ b46 : Nat, (v1 = some b46) ∧ (mj_t μ b46 = 1) ∧ (∃ P : Int64 → mj_MM → Prop, mj_M G my_T_now mY_T_now [va_rf (some b46)] (mj_nc μ) (mj_ns μ) μ (mj_XL P) ∧ ∀ (x : Int64) (μ' : mj_MM), P x μ' → mj_nc μ' = mj_nc μ → mj_ns μ' = mj_ns μ → mj_J G mY_W_law Ex N S 534 [(0, va_rf (some (G.2.2.1.2 2).1)), (1, va_rf v1), (2, va_rf v2), (3, .int v3)] [.long x] μ'))) ∧ (((G.2.2.1.2 2).2.2 (Int32.toNatClampNeg v3)) &&& 15 = 7 → ((vp_in (v3 + 1) (G.2.2.1.2 2).2.1) ∧ (vp_in (v3 + 2) (G.2.2.1.2 2).2.1) ∧ (vp_in (v3 + 3) (G.2.2.1.2 2).2.1) ∧ ∃ b52 : Nat, (v1 = some b52) ∧ (mj_t μ b52 = 1) ∧ (∃ P : Int32 → mj_MM → Prop, mj_M G my_T_running mY_T_running [va_rf (some b52), .int ((G.2.2.1.2 2).2.2 (Int32.toNatClampNeg (v3 + 1))), .long (((Int32.toInt64 ((G.2.2.1.2 2).2.2 (Int32.toNatClampNeg (v3 + 2)))) <<< (Int32.toInt64 32 &&& 63)) ||| ((Int32.toInt64 ((G.2.2.1.2 2).2.2 (Int32.toNatClampNeg (v3 + 3)))) &&& 4294967295))] (mj_nc μ) (mj_ns μ) μ (mj_XI P) ∧ ∀ (x : Int32) (μ' : mj_MM), P x μ' → mj_nc μ' = mj_nc μ → mj_ns μ' = mj_ns μ → mj_J G mY_W_law Ex N S 573 [(0, va_rf (some (G.2.2.1.2 2).1)), (1, va_rf v1), (2, va_rf v2), (3, .int v3)] [.int x] μ'))) ∧ (((G.2.2.1.2 2).2.2 (Int32.toNatClampNeg v3)) &&& 15 = 8 → ((vp_in (v3 + 1) (G.2.2.1.2 2).2.1) ∧ ∃ b56 : Nat, (v1 = some b56) ∧ (mj_t μ b56 = 1) ∧ (∃ P : Int64 → mj_MM → Prop, mj_M G my_T_used mY_T_used [va_rf (some b56), .int ((G.2.2.1.2 2).2.2 (Int32.toNatClampNeg (v3 + 1)))] (mj_nc μ) (mj_ns μ) μ (mj_XL P) ∧ ∀ (x : Int64) (μ' : mj_MM), P x μ' → mj_nc μ' = mj_nc μ → mj_ns μ' = mj_ns μ → mj_J G mY_W_law Ex N S 616 [(0, va_rf (some (G.2.2.1.2 2).1)), (1, va_rf v1), (2, va_rf v2), (3, .int v3)] [.long x] μ'))) ∧ (((G.2.2.1.2 2).2.2 (Int32.toNatClampNeg v3)) &&& 15 = 9 → ((vp_in (v3 + 1) (G.2.2.1.2 2).2.1) ∧ ∃ b60 : Nat, (v1 = some b60) ∧ (mj_t μ b60 = 1) ∧ (∃ P : Int32 → mj_MM → Prop, mj_M G my_T_state mY_T_state [va_rf (some b60), .int ((G.2.2.1.2 2).2.2 (Int32.toNatClampNeg (v3 + 1)))] (mj_nc μ) (mj_ns μ) μ (mj_XI P) ∧ ∀ (x : Int32) (μ' : mj_MM), P x μ' → mj_nc μ' = mj_nc μ → mj_ns μ' = mj_ns μ → mj_J G mY_W_law Ex N S 640 [(0, va_rf (some (G.2.2.1.2 2).1)), (1, va_rf v1), (2, va_rf v2), (3, .int v3)] [.int x] μ'))) ∧ (((G.2.2.1.2 2).2.2 (Int32.toNatClampNeg v3)) &&& 15 = 10 → ((vp_in (v3 + 1) (G.2.2.1.2 2).2.1) ∧ (vp_in (v3 + 2) (G.2.2.1.2 2).2.1) ∧ ∃ b65 : Nat, (v1 = some b65) ∧ (mj_t μ b65 = 1) ∧ (∃ P : Int32 → mj_MM → Prop, mj_M G my_T_event mY_T_event [va_rf (some b65), .int ((G.2.2.1.2 2).2.2 (Int32.toNatClampNeg (v3 + 1))), .int ((G.2.2.1.2 2).2.2 (Int32.toNatClampNeg (v3 + 2)))] (mj_nc μ) (mj_ns μ) μ (mj_XI P) ∧ ∀ (x : Int32) (μ' : mj_MM), P x μ' → mj_nc μ' = mj_nc μ → mj_ns μ' = mj_ns μ → mj_J G mY_W_law Ex N S 668 [(0, va_rf (some (G.2.2.1.2 2).1)), (1, va_rf v1), (2, va_rf v2), (3, .int v3)] [.int x] μ'))) ∧ (((G.2.2.1.2 2).2.2 (Int32.toNatClampNeg v3)) &&& 15 = 11 → ((vp_in (v3 + 1) (G.2.2.1.2 2).2.1) ∧ ∃ b69 : Nat, (v1 = some b69) ∧ (mj_t μ b69 = 1) ∧ (∃ P : Int32 → mj_MM → Prop, mj_M G my_T_events mY_T_events [va_rf (some b69), .int ((G.2.2.1.2 2).2.2 (Int32.toNatClampNeg (v3 + 1)))] (mj_nc μ) (mj_ns μ) μ (mj_XI P) ∧ ∀ (x : Int32) (μ' : mj_MM), P x μ' → mj_nc μ' = mj_nc μ → mj_ns μ' = mj_ns μ → mj_J G mY_W_law Ex N S 696 [(0, va_rf (some (G.2.2.1.2 2).1)), (1, va_rf v1), (2, va_rf v2), (3, .int v3)] [.int x] μ'))) ∧ (((G.2.2.1.2 2).2.2 (Int32.toNatClampNeg v3)) &&& 15 = 12 → ((vp_in (v3 + 1) (G.2.2.1.2 2).2.1) ∧ (vp_in (v3 + 2) (G.2.2.1.2 2).2.1) ∧ ∃ b74 : Nat, (v1 = some b74) ∧ (mj_t μ b74 = 1) ∧ (∃ P : Int32 → mj_MM → Prop, mj_M G my_T_code mY_T_code [va_rf (some b74), .int ((G.2.2.1.2 2).2.2 (Int32.toNatClampNeg (v3 + 1))), .int ((G.2.2.1.2 2).2.2 (Int32.toNatClampNeg (v3 + 2)))] (mj_nc μ) (mj_ns μ) μ (mj_XI P) ∧ ∀ (x : Int32) (μ' : mj_MM), P x μ' → mj_nc μ' = mj_nc μ → mj_ns μ' = mj_ns μ → mj_J G mY_W_law Ex N S 724 [(0, va_rf (some (G.2.2.1.2 2).1)), (1, va_rf v1), (2, va_rf v2), (3, .int v3)] [.int x] μ'))) ∧ (((G.2.2.1.2 2).2.2 (Int32.toNatClampNeg v3)) &&& 15 = 13 → ((vp_in (v3 + 1) (G.2.2.1.2 2).2.1) ∧ (vp_in (v3 + 2) (G.2.2.1.2 2).2.1) ∧ ∃ b79 : Nat, (v1 = some b79) ∧ (mj_t μ b79 = 1) ∧ (∃ P : Int32 → mj_MM → Prop, mj_M G my_T_order mY_T_order [va_rf (some b79), .int ((G.2.2.1.2 2).2.2 (Int32.toNatClampNeg (v3 + 1))), .int ((G.2.2.1.2 2).2.2 (Int32.toNatClampNeg (v3 + 2)))] (mj_nc μ) (mj_ns μ) μ (mj_XI P) ∧ ∀ (x : Int32) (μ' : mj_MM), P x μ' → mj_nc μ' = mj_nc μ → mj_ns μ' = mj_ns μ → mj_J G mY_W_law Ex N S 757 [(0, va_rf (some (G.2.2.1.2 2).1)), (1, va_rf v1), (2, va_rf v2), (3, .int v3)] [.int x] μ'))) ∧ (((G.2.2.1.2 2).2.2 (Int32.toNatClampNeg v3)) &&& 15 = 14 → ((vp_in (v3 + 1) (G.2.2.1.2 2).2.1) ∧ (vp_in (v3 + 2) (G.2.2.1.2 2).2.1) ∧ ∃ b84 : Nat, (v1 = some b84) ∧ (mj_t μ b84 = 1) ∧ (∃ P : Int32 → mj_MM → Prop, mj_M G my_T_spin mY_T_spin [va_rf (some b84), .int ((G.2.2.1.2 2).2.2 (Int32.toNatClampNeg (v3 + 1))), .int ((G.2.2.1.2 2).2.2 (Int32.toNatClampNeg (v3 + 2)))] (mj_nc μ) (mj_ns μ) μ (mj_XI P) ∧ ∀ (x : Int32) (μ' : mj_MM), P x μ' → mj_nc μ' = mj_nc μ → mj_ns μ' = mj_ns μ → mj_J G mY_W_law Ex N S 790 [(0, va_rf (some (G.2.2.1.2 2).1)), (1, va_rf v1), (2, va_rf v2), (3, .int v3)] [.int x] μ'))) ∧ (((G.2.2.1.2 2).2.2 (Int32.toNatClampNeg v3)) &&& 15 = 15 → ((vp_in (v3 + 1) (G.2.2.1.2 2).2.1) ∧ ∃ b88 : Nat, (v1 = some b88) ∧ (mj_t μ b88 = 1) ∧ (∃ P : Int32 → mj_MM → Prop, mj_M G my_T_holder mY_T_holder [va_rf (some b88), .int ((G.2.2.1.2 2).2.2 (Int32.toNatClampNeg (v3 + 1)))] (mj_nc μ) (mj_ns μ) μ (mj_XI P) ∧ ∀ (x : Int32) (μ' : mj_MM), P x μ' → mj_nc μ' = mj_nc μ → mj_ns μ' = mj_ns μ → mj_J G mY_W_law Ex N S 818 [(0, va_rf (some (G.2.2.1.2 2).1)), (1, va_rf v1), (2, va_rf v2), (3, .int v3)] [.int x] μ'))) ∧ ((((G.2.2.1.2 2).2.2 (Int32.toNatClampNeg v3)) &&& 15).toInt < 0 ∨ 15 < (((G.2.2.1.2 2).2.2 (Int32.toNatClampNeg v3)) &&& 15).toInt → mj_J G mY_W_law Ex N S 28 [(0, va_rf (some (G.2.2.1.2 2).1)), (1, va_rf v1), (2, va_rf v2), (3, .int (v3 + 6))] [] μ)))))) :
    mj_J G mY_W_law Ex N S 28 [(0, va_rf (some (G.2.2.1.2 2).1)), (1, va_rf v1), (2, va_rf v2), (3, .int v3)] [] μ := by
  refine mj_iload_n 3 md_W_law_28 rfl ?_
  refine mj_aload_n 0 md_W_law_29 rfl ?_
  refine mj_oldlen (j := 2) rfl (by decide) rfl md_W_law_30 ?_
  refine mj_bipush (v := 6) md_W_law_31 (by decide) ?_
  refine mj_isub md_W_law_33 ?_
  obtain ⟨H1, H2⟩ := H
  refine mj_icmp_gt (tgt := 838) md_W_law_34 (by decide) (fun hx => ?_) (fun hx => ?_)
  · replace H := H1 hx
    refine mj_iconst (v := 1) md_W_law_838 (by decide) ?_
    exact mj_ireturn md_W_law_839 rfl (by decide) H
  · replace H := H2 hx
    refine mj_aload_n 0 md_W_law_37 rfl ?_
    refine mj_iload_n 3 md_W_law_38 rfl ?_
    obtain ⟨hi1, H⟩ := H
    refine mj_oldld (j := 2) rfl (by decide) rfl hi1 md_W_law_39 ?_
    refine mj_bipush (v := 15) md_W_law_40 (by decide) ?_
    refine mj_iand md_W_law_42 ?_
    obtain ⟨H0, H1, H2, H3, H4, H5, H6, H7, H8, H9, H10, H11, H12, H13, H14, H15, H16⟩ := H
    by_cases hlo : (((G.2.2.1.2 2).2.2 (Int32.toNatClampNeg v3)) &&& 15).toInt < 0
    · refine mj_tableOut (tgt := 832) md_W_law_43 (Or.inl hlo) (by decide) ?_
      have H := H16 (Or.inl hlo)
      refine mj_iinc (j := 3) (v := v3 + 6) (lv' := [(3, .int (v3 + 6)), (0, va_rf (some (G.2.2.1.2 2).1)), (1, va_rf v1), (2, va_rf v2)]) md_W_law_832 rfl rfl (by decide) (by first | rfl | (simp [mj_rfc]; done) | (simp [mj_rfc]; rfl)) ?_
      refine mj_goto (tgt := 28) md_W_law_835 (by decide) ?_
      exact mj_lvs [1, 2, 3, 0] rfl H
    by_cases hhi : 15 < (((G.2.2.1.2 2).2.2 (Int32.toNatClampNeg v3)) &&& 15).toInt
    · refine mj_tableOut (tgt := 832) md_W_law_43 (Or.inr hhi) (by decide) ?_
      have H := H16 (Or.inr hhi)
      refine mj_iinc (j := 3) (v := v3 + 6) (lv' := [(3, .int (v3 + 6)), (0, va_rf (some (G.2.2.1.2 2).1)), (1, va_rf v1), (2, va_rf v2)]) md_W_law_832 rfl rfl (by decide) (by first | rfl | (simp [mj_rfc]; done) | (simp [mj_rfc]; rfl)) ?_
      refine mj_goto (tgt := 28) md_W_law_835 (by decide) ?_
      exact mj_lvs [1, 2, 3, 0] rfl H
    by_cases hq0 : ((G.2.2.1.2 2).2.2 (Int32.toNatClampNeg v3)) &&& 15 = 0
    · refine mj_tableIn (off := 77) (tgt := 120) md_W_law_43 hlo hhi (by rw [hq0]; decide) (by decide) ?_
      have H := H0 hq0
      refine mj_aload_n 1 md_W_law_120 rfl ?_
      refine mj_aload_n 0 md_W_law_121 rfl ?_
      refine mj_iload_n 3 md_W_law_122 rfl ?_
      refine mj_iconst (v := 1) md_W_law_123 (by decide) ?_
      refine mj_iadd md_W_law_124 ?_
      obtain ⟨hi2, H⟩ := H
      refine mj_oldld (j := 2) rfl (by decide) rfl hi2 md_W_law_125 ?_
      refine mj_aload_n 0 md_W_law_126 rfl ?_
      refine mj_iload_n 3 md_W_law_127 rfl ?_
      refine mj_iconst (v := 2) md_W_law_128 (by decide) ?_
      refine mj_iadd md_W_law_129 ?_
      obtain ⟨hi3, H⟩ := H
      refine mj_oldld (j := 2) rfl (by decide) rfl hi3 md_W_law_130 ?_
      refine mj_aload_n 0 md_W_law_131 rfl ?_
      refine mj_iload_n 3 md_W_law_132 rfl ?_
      refine mj_iconst (v := 3) md_W_law_133 (by decide) ?_
      refine mj_iadd md_W_law_134 ?_
      obtain ⟨hi4, H⟩ := H
      refine mj_oldld (j := 2) rfl (by decide) rfl hi4 md_W_law_135 ?_
      refine mj_aload_n 0 md_W_law_136 rfl ?_
      refine mj_iload_n 3 md_W_law_137 rfl ?_
      refine mj_iconst (v := 4) md_W_law_138 (by decide) ?_
      refine mj_iadd md_W_law_139 ?_
      obtain ⟨hi5, H⟩ := H
      refine mj_oldld (j := 2) rfl (by decide) rfl hi5 md_W_law_140 ?_
      obtain ⟨H1, H2⟩ := H
      refine mj_if_eq (tgt := 148) md_W_law_141 (by decide) (fun hx => ?_) (fun hx => ?_)
      · replace H := H1 hx
        refine mj_iconst (v := 0) md_W_law_148 (by decide) ?_
        obtain ⟨b6, hb7, H⟩ := H
        obtain ⟨ht8, H⟩ := H
        obtain ⟨N', S', P, hM, hNS, H⟩ := H
        exact mj_callV (n := 4) (As := [.int ((G.2.2.1.2 2).2.2 (Int32.toNatClampNeg (v3 + 1))), .int ((G.2.2.1.2 2).2.2 (Int32.toNatClampNeg (v3 + 2))), .int ((G.2.2.1.2 2).2.2 (Int32.toNatClampNeg (v3 + 3))), .int 0]) hb7 hM kc_T ht8 ⟨tw_177, tw_1, tw_180, ⟨by decide, by decide, by decide +kernel⟩, by decide, by decide⟩ tw_178 tw_179 rfl md_W_law_149 (by first | decide | (simp only [List.map_cons, List.map_nil, List.sum_cons, List.sum_nil, mj_rfc, mj_ci, mj_cl]; done) | (simp only [List.map_cons, List.map_nil, List.sum_cons, List.sum_nil, mj_rfc, mj_ci, mj_cl]; decide)) (fun _ => hNS) (mj_kI (fun x μ' hP e1 e2 => mj_lvs [0, 1, 2, 3] rfl (H x μ' hP e1 e2)))
      · replace H := H2 hx
        refine mj_iconst (v := 1) md_W_law_144 (by decide) ?_
        refine mj_goto (tgt := 149) md_W_law_145 (by decide) ?_
        obtain ⟨b9, hb10, H⟩ := H
        obtain ⟨ht11, H⟩ := H
        obtain ⟨N', S', P, hM, hNS, H⟩ := H
        exact mj_callV (n := 4) (As := [.int ((G.2.2.1.2 2).2.2 (Int32.toNatClampNeg (v3 + 1))), .int ((G.2.2.1.2 2).2.2 (Int32.toNatClampNeg (v3 + 2))), .int ((G.2.2.1.2 2).2.2 (Int32.toNatClampNeg (v3 + 3))), .int 1]) hb10 hM kc_T ht11 ⟨tw_177, tw_1, tw_180, ⟨by decide, by decide, by decide +kernel⟩, by decide, by decide⟩ tw_178 tw_179 rfl md_W_law_149 (by first | decide | (simp only [List.map_cons, List.map_nil, List.sum_cons, List.sum_nil, mj_rfc, mj_ci, mj_cl]; done) | (simp only [List.map_cons, List.map_nil, List.sum_cons, List.sum_nil, mj_rfc, mj_ci, mj_cl]; decide)) (fun _ => hNS) (mj_kI (fun x μ' hP e1 e2 => mj_lvs [0, 1, 2, 3] rfl (H x μ' hP e1 e2)))
    by_cases hq1 : ((G.2.2.1.2 2).2.2 (Int32.toNatClampNeg v3)) &&& 15 = 1
    · refine mj_tableIn (off := 146) (tgt := 189) md_W_law_43 hlo hhi (by rw [hq1]; decide) (by decide) ?_
      have H := H1 hq1
      refine mj_aload_n 1 md_W_law_189 rfl ?_
      refine mj_aload_n 0 md_W_law_190 rfl ?_
      refine mj_iload_n 3 md_W_law_191 rfl ?_
      refine mj_iconst (v := 1) md_W_law_192 (by decide) ?_
      refine mj_iadd md_W_law_193 ?_
      obtain ⟨hi12, H⟩ := H
      refine mj_oldld (j := 2) rfl (by decide) rfl hi12 md_W_law_194 ?_
      refine mj_aload_n 0 md_W_law_195 rfl ?_
      refine mj_iload_n 3 md_W_law_196 rfl ?_
      refine mj_iconst (v := 2) md_W_law_197 (by decide) ?_
      refine mj_iadd md_W_law_198 ?_
      obtain ⟨hi13, H⟩ := H
      refine mj_oldld (j := 2) rfl (by decide) rfl hi13 md_W_law_199 ?_
      refine mj_aload_n 0 md_W_law_200 rfl ?_
      refine mj_iload_n 3 md_W_law_201 rfl ?_
      refine mj_iconst (v := 3) md_W_law_202 (by decide) ?_
      refine mj_iadd md_W_law_203 ?_
      obtain ⟨hi14, H⟩ := H
      refine mj_oldld (j := 2) rfl (by decide) rfl hi14 md_W_law_204 ?_
      refine mj_i2l md_W_law_205 ?_
      refine mj_bipush (v := 32) md_W_law_206 (by decide) ?_
      refine mj_lshl md_W_law_208 ?_
      refine mj_aload_n 0 md_W_law_209 rfl ?_
      refine mj_iload_n 3 md_W_law_210 rfl ?_
      refine mj_iconst (v := 4) md_W_law_211 (by decide) ?_
      refine mj_iadd md_W_law_212 ?_
      obtain ⟨hi15, H⟩ := H
      refine mj_oldld (j := 2) rfl (by decide) rfl hi15 md_W_law_213 ?_
      refine mj_i2l md_W_law_214 ?_
      refine mj_ldc2 (v := 4294967295) tw_926 md_W_law_215 ?_
      refine mj_land md_W_law_218 ?_
      refine mj_lor md_W_law_219 ?_
      obtain ⟨b16, hb17, H⟩ := H
      obtain ⟨ht18, H⟩ := H
      obtain ⟨N', S', P, hM, hNS, H⟩ := H
      exact mj_callV (n := 3) (As := [.int ((G.2.2.1.2 2).2.2 (Int32.toNatClampNeg (v3 + 1))), .int ((G.2.2.1.2 2).2.2 (Int32.toNatClampNeg (v3 + 2))), .long (((Int32.toInt64 ((G.2.2.1.2 2).2.2 (Int32.toNatClampNeg (v3 + 3)))) <<< (Int32.toInt64 32 &&& 63)) ||| ((Int32.toInt64 ((G.2.2.1.2 2).2.2 (Int32.toNatClampNeg (v3 + 4)))) &&& 4294967295))]) hb17 hM kc_T ht18 ⟨tw_290, tw_1, tw_293, ⟨by decide, by decide, by decide +kernel⟩, by decide, by decide⟩ tw_291 tw_292 rfl md_W_law_220 (by first | decide | (simp only [List.map_cons, List.map_nil, List.sum_cons, List.sum_nil, mj_rfc, mj_ci, mj_cl]; done) | (simp only [List.map_cons, List.map_nil, List.sum_cons, List.sum_nil, mj_rfc, mj_ci, mj_cl]; decide)) (fun _ => hNS) (mj_kI (fun x μ' hP e1 e2 => mj_lvs [0, 1, 2, 3] rfl (H x μ' hP e1 e2)))
    by_cases hq2 : ((G.2.2.1.2 2).2.2 (Int32.toNatClampNeg v3)) &&& 15 = 2
    · refine mj_tableIn (off := 219) (tgt := 262) md_W_law_43 hlo hhi (by rw [hq2]; decide) (by decide) ?_
      have H := H2 hq2
      refine mj_aload_n 1 md_W_law_262 rfl ?_
      refine mj_aload_n 0 md_W_law_263 rfl ?_
      refine mj_iload_n 3 md_W_law_264 rfl ?_
      refine mj_iconst (v := 1) md_W_law_265 (by decide) ?_
      refine mj_iadd md_W_law_266 ?_
      obtain ⟨hi19, H⟩ := H
      refine mj_oldld (j := 2) rfl (by decide) rfl hi19 md_W_law_267 ?_
      refine mj_aload_n 0 md_W_law_268 rfl ?_
      refine mj_iload_n 3 md_W_law_269 rfl ?_
      refine mj_iconst (v := 2) md_W_law_270 (by decide) ?_
      refine mj_iadd md_W_law_271 ?_
      obtain ⟨hi20, H⟩ := H
      refine mj_oldld (j := 2) rfl (by decide) rfl hi20 md_W_law_272 ?_
      obtain ⟨H1, H2⟩ := H
      refine mj_if_eq (tgt := 280) md_W_law_273 (by decide) (fun hx => ?_) (fun hx => ?_)
      · replace H := H1 hx
        refine mj_iconst (v := 0) md_W_law_280 (by decide) ?_
        obtain ⟨b21, hb22, H⟩ := H
        obtain ⟨ht23, H⟩ := H
        obtain ⟨P, hM, H⟩ := H
        exact mj_callV (n := 2) (As := [.int ((G.2.2.1.2 2).2.2 (Int32.toNatClampNeg (v3 + 1))), .int 0]) hb22 hM kc_T ht23 ⟨tw_317, tw_1, tw_320, ⟨by decide, by decide, by decide +kernel⟩, by decide, by decide⟩ tw_318 tw_319 rfl md_W_law_281 (by first | decide | (simp only [List.map_cons, List.map_nil, List.sum_cons, List.sum_nil, mj_rfc, mj_ci, mj_cl]; done) | (simp only [List.map_cons, List.map_nil, List.sum_cons, List.sum_nil, mj_rfc, mj_ci, mj_cl]; decide)) id (mj_kI (fun x μ' hP e1 e2 => mj_lvs [0, 1, 2, 3] rfl (H x μ' hP e1 e2)))
      · replace H := H2 hx
        refine mj_iconst (v := 1) md_W_law_276 (by decide) ?_
        refine mj_goto (tgt := 281) md_W_law_277 (by decide) ?_
        obtain ⟨b24, hb25, H⟩ := H
        obtain ⟨ht26, H⟩ := H
        obtain ⟨P, hM, H⟩ := H
        exact mj_callV (n := 2) (As := [.int ((G.2.2.1.2 2).2.2 (Int32.toNatClampNeg (v3 + 1))), .int 1]) hb25 hM kc_T ht26 ⟨tw_317, tw_1, tw_320, ⟨by decide, by decide, by decide +kernel⟩, by decide, by decide⟩ tw_318 tw_319 rfl md_W_law_281 (by first | decide | (simp only [List.map_cons, List.map_nil, List.sum_cons, List.sum_nil, mj_rfc, mj_ci, mj_cl]; done) | (simp only [List.map_cons, List.map_nil, List.sum_cons, List.sum_nil, mj_rfc, mj_ci, mj_cl]; decide)) id (mj_kI (fun x μ' hP e1 e2 => mj_lvs [0, 1, 2, 3] rfl (H x μ' hP e1 e2)))
    by_cases hq3 : ((G.2.2.1.2 2).2.2 (Int32.toNatClampNeg v3)) &&& 15 = 3
    · refine mj_tableIn (off := 268) (tgt := 311) md_W_law_43 hlo hhi (by rw [hq3]; decide) (by decide) ?_
      have H := H3 hq3
      refine mj_aload_n 1 md_W_law_311 rfl ?_
      refine mj_aload_n 0 md_W_law_312 rfl ?_
      refine mj_iload_n 3 md_W_law_313 rfl ?_
      refine mj_iconst (v := 1) md_W_law_314 (by decide) ?_
      refine mj_iadd md_W_law_315 ?_
      obtain ⟨hi27, H⟩ := H
      refine mj_oldld (j := 2) rfl (by decide) rfl hi27 md_W_law_316 ?_
      refine mj_aload_n 0 md_W_law_317 rfl ?_
      refine mj_iload_n 3 md_W_law_318 rfl ?_
      refine mj_iconst (v := 2) md_W_law_319 (by decide) ?_
      refine mj_iadd md_W_law_320 ?_
      obtain ⟨hi28, H⟩ := H
      refine mj_oldld (j := 2) rfl (by decide) rfl hi28 md_W_law_321 ?_
      refine mj_i2l md_W_law_322 ?_
      refine mj_bipush (v := 32) md_W_law_323 (by decide) ?_
      refine mj_lshl md_W_law_325 ?_
      refine mj_aload_n 0 md_W_law_326 rfl ?_
      refine mj_iload_n 3 md_W_law_327 rfl ?_
      refine mj_iconst (v := 3) md_W_law_328 (by decide) ?_
      refine mj_iadd md_W_law_329 ?_
      obtain ⟨hi29, H⟩ := H
      refine mj_oldld (j := 2) rfl (by decide) rfl hi29 md_W_law_330 ?_
      refine mj_i2l md_W_law_331 ?_
      refine mj_ldc2 (v := 4294967295) tw_926 md_W_law_332 ?_
      refine mj_land md_W_law_335 ?_
      refine mj_lor md_W_law_336 ?_
      obtain ⟨b30, hb31, H⟩ := H
      obtain ⟨ht32, H⟩ := H
      obtain ⟨N', S', P, hM, hNS, H⟩ := H
      exact mj_callV (n := 2) (As := [.int ((G.2.2.1.2 2).2.2 (Int32.toNatClampNeg (v3 + 1))), .long (((Int32.toInt64 ((G.2.2.1.2 2).2.2 (Int32.toNatClampNeg (v3 + 2)))) <<< (Int32.toInt64 32 &&& 63)) ||| ((Int32.toInt64 ((G.2.2.1.2 2).2.2 (Int32.toNatClampNeg (v3 + 3)))) &&& 4294967295))]) hb31 hM kc_T ht32 ⟨tw_321, tw_1, tw_324, ⟨by decide, by decide, by decide +kernel⟩, by decide, by decide⟩ tw_322 tw_323 rfl md_W_law_337 (by first | decide | (simp only [List.map_cons, List.map_nil, List.sum_cons, List.sum_nil, mj_rfc, mj_ci, mj_cl]; done) | (simp only [List.map_cons, List.map_nil, List.sum_cons, List.sum_nil, mj_rfc, mj_ci, mj_cl]; decide)) (fun _ => hNS) (mj_kI (fun x μ' hP e1 e2 => mj_lvs [0, 1, 2, 3] rfl (H x μ' hP e1 e2)))
    by_cases hq4 : ((G.2.2.1.2 2).2.2 (Int32.toNatClampNeg v3)) &&& 15 = 4
    · refine mj_tableIn (off := 331) (tgt := 374) md_W_law_43 hlo hhi (by rw [hq4]; decide) (by decide) ?_
      have H := H4 hq4
      refine mj_aload_n 1 md_W_law_374 rfl ?_
      refine mj_aload_n 0 md_W_law_375 rfl ?_
      refine mj_iload_n 3 md_W_law_376 rfl ?_
      refine mj_iconst (v := 1) md_W_law_377 (by decide) ?_
      refine mj_iadd md_W_law_378 ?_
      obtain ⟨hi33, H⟩ := H
      refine mj_oldld (j := 2) rfl (by decide) rfl hi33 md_W_law_379 ?_
      refine mj_aload_n 0 md_W_law_380 rfl ?_
      refine mj_iload_n 3 md_W_law_381 rfl ?_
      refine mj_iconst (v := 2) md_W_law_382 (by decide) ?_
      refine mj_iadd md_W_law_383 ?_
      obtain ⟨hi34, H⟩ := H
      refine mj_oldld (j := 2) rfl (by decide) rfl hi34 md_W_law_384 ?_
      refine mj_i2l md_W_law_385 ?_
      refine mj_bipush (v := 32) md_W_law_386 (by decide) ?_
      refine mj_lshl md_W_law_388 ?_
      refine mj_aload_n 0 md_W_law_389 rfl ?_
      refine mj_iload_n 3 md_W_law_390 rfl ?_
      refine mj_iconst (v := 3) md_W_law_391 (by decide) ?_
      refine mj_iadd md_W_law_392 ?_
      obtain ⟨hi35, H⟩ := H
      refine mj_oldld (j := 2) rfl (by decide) rfl hi35 md_W_law_393 ?_
      refine mj_i2l md_W_law_394 ?_
      refine mj_ldc2 (v := 4294967295) tw_926 md_W_law_395 ?_
      refine mj_land md_W_law_398 ?_
      refine mj_lor md_W_law_399 ?_
      refine mj_aload_n 0 md_W_law_400 rfl ?_
      refine mj_iload_n 3 md_W_law_401 rfl ?_
      refine mj_iconst (v := 4) md_W_law_402 (by decide) ?_
      refine mj_iadd md_W_law_403 ?_
      obtain ⟨hi36, H⟩ := H
      refine mj_oldld (j := 2) rfl (by decide) rfl hi36 md_W_law_404 ?_
      refine mj_i2l md_W_law_405 ?_
      refine mj_bipush (v := 32) md_W_law_406 (by decide) ?_
      refine mj_lshl md_W_law_408 ?_
      refine mj_aload_n 0 md_W_law_409 rfl ?_
      refine mj_iload_n 3 md_W_law_410 rfl ?_
      refine mj_iconst (v := 5) md_W_law_411 (by decide) ?_
      refine mj_iadd md_W_law_412 ?_
      obtain ⟨hi37, H⟩ := H
      refine mj_oldld (j := 2) rfl (by decide) rfl hi37 md_W_law_413 ?_
      refine mj_i2l md_W_law_414 ?_
      refine mj_ldc2 (v := 4294967295) tw_926 md_W_law_415 ?_
      refine mj_land md_W_law_418 ?_
      refine mj_lor md_W_law_419 ?_
      obtain ⟨b38, hb39, H⟩ := H
      obtain ⟨ht40, H⟩ := H
      obtain ⟨N', S', P, hM, hNS, H⟩ := H
      exact mj_callV (n := 3) (As := [.int ((G.2.2.1.2 2).2.2 (Int32.toNatClampNeg (v3 + 1))), .long (((Int32.toInt64 ((G.2.2.1.2 2).2.2 (Int32.toNatClampNeg (v3 + 2)))) <<< (Int32.toInt64 32 &&& 63)) ||| ((Int32.toInt64 ((G.2.2.1.2 2).2.2 (Int32.toNatClampNeg (v3 + 3)))) &&& 4294967295)), .long (((Int32.toInt64 ((G.2.2.1.2 2).2.2 (Int32.toNatClampNeg (v3 + 4)))) <<< (Int32.toInt64 32 &&& 63)) ||| ((Int32.toInt64 ((G.2.2.1.2 2).2.2 (Int32.toNatClampNeg (v3 + 5)))) &&& 4294967295))]) hb39 hM kc_T ht40 ⟨tw_352, tw_1, tw_355, ⟨by decide, by decide, by decide +kernel⟩, by decide, by decide⟩ tw_353 tw_354 rfl md_W_law_420 (by first | decide | (simp only [List.map_cons, List.map_nil, List.sum_cons, List.sum_nil, mj_rfc, mj_ci, mj_cl]; done) | (simp only [List.map_cons, List.map_nil, List.sum_cons, List.sum_nil, mj_rfc, mj_ci, mj_cl]; decide)) (fun _ => hNS) (mj_kI (fun x μ' hP e1 e2 => mj_lvs [0, 1, 2, 3] rfl (H x μ' hP e1 e2)))
    by_cases hq5 : ((G.2.2.1.2 2).2.2 (Int32.toNatClampNeg v3)) &&& 15 = 5
    · refine mj_tableIn (off := 434) (tgt := 477) md_W_law_43 hlo hhi (by rw [hq5]; decide) (by decide) ?_
      have H := H5 hq5
      refine mj_aload_n 1 md_W_law_477 rfl ?_
      refine mj_aload_n 0 md_W_law_478 rfl ?_
      refine mj_iload_n 3 md_W_law_479 rfl ?_
      refine mj_iconst (v := 1) md_W_law_480 (by decide) ?_
      refine mj_iadd md_W_law_481 ?_
      obtain ⟨hi41, H⟩ := H
      refine mj_oldld (j := 2) rfl (by decide) rfl hi41 md_W_law_482 ?_
      refine mj_i2l md_W_law_483 ?_
      refine mj_bipush (v := 32) md_W_law_484 (by decide) ?_
      refine mj_lshl md_W_law_486 ?_
      refine mj_aload_n 0 md_W_law_487 rfl ?_
      refine mj_iload_n 3 md_W_law_488 rfl ?_
      refine mj_iconst (v := 2) md_W_law_489 (by decide) ?_
      refine mj_iadd md_W_law_490 ?_
      obtain ⟨hi42, H⟩ := H
      refine mj_oldld (j := 2) rfl (by decide) rfl hi42 md_W_law_491 ?_
      refine mj_i2l md_W_law_492 ?_
      refine mj_ldc2 (v := 4294967295) tw_926 md_W_law_493 ?_
      refine mj_land md_W_law_496 ?_
      refine mj_lor md_W_law_497 ?_
      obtain ⟨b43, hb44, H⟩ := H
      obtain ⟨ht45, H⟩ := H
      obtain ⟨N', S', P, hM, hNS, H⟩ := H
      exact mj_callV (n := 1) (As := [.long (((Int32.toInt64 ((G.2.2.1.2 2).2.2 (Int32.toNatClampNeg (v3 + 1)))) <<< (Int32.toInt64 32 &&& 63)) ||| ((Int32.toInt64 ((G.2.2.1.2 2).2.2 (Int32.toNatClampNeg (v3 + 2)))) &&& 4294967295))]) hb44 hM kc_T ht45 ⟨tw_385, tw_1, tw_388, ⟨by decide, by decide, by decide +kernel⟩, by decide, by decide⟩ tw_386 tw_387 rfl md_W_law_498 (by first | decide | (simp only [List.map_cons, List.map_nil, List.sum_cons, List.sum_nil, mj_rfc, mj_ci, mj_cl]; done) | (simp only [List.map_cons, List.map_nil, List.sum_cons, List.sum_nil, mj_rfc, mj_ci, mj_cl]; decide)) (fun _ => hNS) (mj_kI (fun x μ' hP e1 e2 => mj_lvs [0, 1, 2, 3] rfl (H x μ' hP e1 e2)))
    by_cases hq6 : ((G.2.2.1.2 2).2.2 (Int32.toNatClampNeg v3)) &&& 15 = 6
    · refine mj_tableIn (off := 487) (tgt := 530) md_W_law_43 hlo hhi (by rw [hq6]; decide) (by decide) ?_
      have H := H6 hq6
      refine mj_aload_n 1 md_W_law_530 rfl ?_
      obtain ⟨b46, hb47, H⟩ := H
      obtain ⟨ht48, H⟩ := H
      obtain ⟨P, hM, H⟩ := H
      exact mj_callV (n := 0) (As := []) hb47 hM kc_T ht48 ⟨tw_558, tw_1, tw_561, ⟨by decide, by decide, by decide +kernel⟩, by decide, by decide⟩ tw_559 tw_560 rfl md_W_law_531 (by first | decide | (simp only [List.map_cons, List.map_nil, List.sum_cons, List.sum_nil, mj_rfc, mj_ci, mj_cl]; done) | (simp only [List.map_cons, List.map_nil, List.sum_cons, List.sum_nil, mj_rfc, mj_ci, mj_cl]; decide)) id (mj_kL (fun x μ' hP e1 e2 => mj_lvs [0, 1, 2, 3] rfl (H x μ' hP e1 e2)))
    by_cases hq7 : ((G.2.2.1.2 2).2.2 (Int32.toNatClampNeg v3)) &&& 15 = 7
    · refine mj_tableIn (off := 501) (tgt := 544) md_W_law_43 hlo hhi (by rw [hq7]; decide) (by decide) ?_
      have H := H7 hq7
      refine mj_aload_n 1 md_W_law_544 rfl ?_
      refine mj_aload_n 0 md_W_law_545 rfl ?_
      refine mj_iload_n 3 md_W_law_546 rfl ?_
      refine mj_iconst (v := 1) md_W_law_547 (by decide) ?_
      refine mj_iadd md_W_law_548 ?_
      obtain ⟨hi49, H⟩ := H
      refine mj_oldld (j := 2) rfl (by decide) rfl hi49 md_W_law_549 ?_
      refine mj_aload_n 0 md_W_law_550 rfl ?_
      refine mj_iload_n 3 md_W_law_551 rfl ?_
      refine mj_iconst (v := 2) md_W_law_552 (by decide) ?_
      refine mj_iadd md_W_law_553 ?_
      obtain ⟨hi50, H⟩ := H
      refine mj_oldld (j := 2) rfl (by decide) rfl hi50 md_W_law_554 ?_
      refine mj_i2l md_W_law_555 ?_
      refine mj_bipush (v := 32) md_W_law_556 (by decide) ?_
      refine mj_lshl md_W_law_558 ?_
      refine mj_aload_n 0 md_W_law_559 rfl ?_
      refine mj_iload_n 3 md_W_law_560 rfl ?_
      refine mj_iconst (v := 3) md_W_law_561 (by decide) ?_
      refine mj_iadd md_W_law_562 ?_
      obtain ⟨hi51, H⟩ := H
      refine mj_oldld (j := 2) rfl (by decide) rfl hi51 md_W_law_563 ?_
      refine mj_i2l md_W_law_564 ?_
      refine mj_ldc2 (v := 4294967295) tw_926 md_W_law_565 ?_
      refine mj_land md_W_law_568 ?_
      refine mj_lor md_W_law_569 ?_
      obtain ⟨b52, hb53, H⟩ := H
      obtain ⟨ht54, H⟩ := H
      obtain ⟨P, hM, H⟩ := H
      exact mj_callV (n := 2) (As := [.int ((G.2.2.1.2 2).2.2 (Int32.toNatClampNeg (v3 + 1))), .long (((Int32.toInt64 ((G.2.2.1.2 2).2.2 (Int32.toNatClampNeg (v3 + 2)))) <<< (Int32.toInt64 32 &&& 63)) ||| ((Int32.toInt64 ((G.2.2.1.2 2).2.2 (Int32.toNatClampNeg (v3 + 3)))) &&& 4294967295))]) hb53 hM kc_T ht54 ⟨tw_562, tw_1, tw_565, ⟨by decide, by decide, by decide +kernel⟩, by decide, by decide⟩ tw_563 tw_564 rfl md_W_law_570 (by first | decide | (simp only [List.map_cons, List.map_nil, List.sum_cons, List.sum_nil, mj_rfc, mj_ci, mj_cl]; done) | (simp only [List.map_cons, List.map_nil, List.sum_cons, List.sum_nil, mj_rfc, mj_ci, mj_cl]; decide)) id (mj_kI (fun x μ' hP e1 e2 => mj_lvs [0, 1, 2, 3] rfl (H x μ' hP e1 e2)))
    by_cases hq8 : ((G.2.2.1.2 2).2.2 (Int32.toNatClampNeg v3)) &&& 15 = 8
    · refine mj_tableIn (off := 564) (tgt := 607) md_W_law_43 hlo hhi (by rw [hq8]; decide) (by decide) ?_
      have H := H8 hq8
      refine mj_aload_n 1 md_W_law_607 rfl ?_
      refine mj_aload_n 0 md_W_law_608 rfl ?_
      refine mj_iload_n 3 md_W_law_609 rfl ?_
      refine mj_iconst (v := 1) md_W_law_610 (by decide) ?_
      refine mj_iadd md_W_law_611 ?_
      obtain ⟨hi55, H⟩ := H
      refine mj_oldld (j := 2) rfl (by decide) rfl hi55 md_W_law_612 ?_
      obtain ⟨b56, hb57, H⟩ := H
      obtain ⟨ht58, H⟩ := H
      obtain ⟨P, hM, H⟩ := H
      exact mj_callV (n := 1) (As := [.int ((G.2.2.1.2 2).2.2 (Int32.toNatClampNeg (v3 + 1)))]) hb57 hM kc_T ht58 ⟨tw_575, tw_1, tw_578, ⟨by decide, by decide, by decide +kernel⟩, by decide, by decide⟩ tw_576 tw_577 rfl md_W_law_613 (by first | decide | (simp only [List.map_cons, List.map_nil, List.sum_cons, List.sum_nil, mj_rfc, mj_ci, mj_cl]; done) | (simp only [List.map_cons, List.map_nil, List.sum_cons, List.sum_nil, mj_rfc, mj_ci, mj_cl]; decide)) id (mj_kL (fun x μ' hP e1 e2 => mj_lvs [0, 1, 2, 3] rfl (H x μ' hP e1 e2)))
    by_cases hq9 : ((G.2.2.1.2 2).2.2 (Int32.toNatClampNeg v3)) &&& 15 = 9
    · refine mj_tableIn (off := 588) (tgt := 631) md_W_law_43 hlo hhi (by rw [hq9]; decide) (by decide) ?_
      have H := H9 hq9
      refine mj_aload_n 1 md_W_law_631 rfl ?_
      refine mj_aload_n 0 md_W_law_632 rfl ?_
      refine mj_iload_n 3 md_W_law_633 rfl ?_
      refine mj_iconst (v := 1) md_W_law_634 (by decide) ?_
      refine mj_iadd md_W_law_635 ?_
      obtain ⟨hi59, H⟩ := H
      refine mj_oldld (j := 2) rfl (by decide) rfl hi59 md_W_law_636 ?_
      obtain ⟨b60, hb61, H⟩ := H
      obtain ⟨ht62, H⟩ := H
      obtain ⟨P, hM, H⟩ := H
      exact mj_callV (n := 1) (As := [.int ((G.2.2.1.2 2).2.2 (Int32.toNatClampNeg (v3 + 1)))]) hb61 hM kc_T ht62 ⟨tw_580, tw_1, tw_583, ⟨by decide, by decide, by decide +kernel⟩, by decide, by decide⟩ tw_581 tw_582 rfl md_W_law_637 (by first | decide | (simp only [List.map_cons, List.map_nil, List.sum_cons, List.sum_nil, mj_rfc, mj_ci, mj_cl]; done) | (simp only [List.map_cons, List.map_nil, List.sum_cons, List.sum_nil, mj_rfc, mj_ci, mj_cl]; decide)) id (mj_kI (fun x μ' hP e1 e2 => mj_lvs [0, 1, 2, 3] rfl (H x μ' hP e1 e2)))
    by_cases hq10 : ((G.2.2.1.2 2).2.2 (Int32.toNatClampNeg v3)) &&& 15 = 10
    · refine mj_tableIn (off := 611) (tgt := 654) md_W_law_43 hlo hhi (by rw [hq10]; decide) (by decide) ?_
      have H := H10 hq10
      refine mj_aload_n 1 md_W_law_654 rfl ?_
      refine mj_aload_n 0 md_W_law_655 rfl ?_
      refine mj_iload_n 3 md_W_law_656 rfl ?_
      refine mj_iconst (v := 1) md_W_law_657 (by decide) ?_
      refine mj_iadd md_W_law_658 ?_
      obtain ⟨hi63, H⟩ := H
      refine mj_oldld (j := 2) rfl (by decide) rfl hi63 md_W_law_659 ?_
      refine mj_aload_n 0 md_W_law_660 rfl ?_
      refine mj_iload_n 3 md_W_law_661 rfl ?_
      refine mj_iconst (v := 2) md_W_law_662 (by decide) ?_
      refine mj_iadd md_W_law_663 ?_
      obtain ⟨hi64, H⟩ := H
      refine mj_oldld (j := 2) rfl (by decide) rfl hi64 md_W_law_664 ?_
      obtain ⟨b65, hb66, H⟩ := H
      obtain ⟨ht67, H⟩ := H
      obtain ⟨P, hM, H⟩ := H
      exact mj_callV (n := 2) (As := [.int ((G.2.2.1.2 2).2.2 (Int32.toNatClampNeg (v3 + 1))), .int ((G.2.2.1.2 2).2.2 (Int32.toNatClampNeg (v3 + 2)))]) hb66 hM kc_T ht67 ⟨tw_584, tw_1, tw_587, ⟨by decide, by decide, by decide +kernel⟩, by decide, by decide⟩ tw_585 tw_586 rfl md_W_law_665 (by first | decide | (simp only [List.map_cons, List.map_nil, List.sum_cons, List.sum_nil, mj_rfc, mj_ci, mj_cl]; done) | (simp only [List.map_cons, List.map_nil, List.sum_cons, List.sum_nil, mj_rfc, mj_ci, mj_cl]; decide)) id (mj_kI (fun x μ' hP e1 e2 => mj_lvs [0, 1, 2, 3] rfl (H x μ' hP e1 e2)))
    by_cases hq11 : ((G.2.2.1.2 2).2.2 (Int32.toNatClampNeg v3)) &&& 15 = 11
    · refine mj_tableIn (off := 644) (tgt := 687) md_W_law_43 hlo hhi (by rw [hq11]; decide) (by decide) ?_
      have H := H11 hq11
      refine mj_aload_n 1 md_W_law_687 rfl ?_
      refine mj_aload_n 0 md_W_law_688 rfl ?_
      refine mj_iload_n 3 md_W_law_689 rfl ?_
      refine mj_iconst (v := 1) md_W_law_690 (by decide) ?_
      refine mj_iadd md_W_law_691 ?_
      obtain ⟨hi68, H⟩ := H
      refine mj_oldld (j := 2) rfl (by decide) rfl hi68 md_W_law_692 ?_
      obtain ⟨b69, hb70, H⟩ := H
      obtain ⟨ht71, H⟩ := H
      obtain ⟨P, hM, H⟩ := H
      exact mj_callV (n := 1) (As := [.int ((G.2.2.1.2 2).2.2 (Int32.toNatClampNeg (v3 + 1)))]) hb70 hM kc_T ht71 ⟨tw_588, tw_1, tw_591, ⟨by decide, by decide, by decide +kernel⟩, by decide, by decide⟩ tw_589 tw_590 rfl md_W_law_693 (by first | decide | (simp only [List.map_cons, List.map_nil, List.sum_cons, List.sum_nil, mj_rfc, mj_ci, mj_cl]; done) | (simp only [List.map_cons, List.map_nil, List.sum_cons, List.sum_nil, mj_rfc, mj_ci, mj_cl]; decide)) id (mj_kI (fun x μ' hP e1 e2 => mj_lvs [0, 1, 2, 3] rfl (H x μ' hP e1 e2)))
    by_cases hq12 : ((G.2.2.1.2 2).2.2 (Int32.toNatClampNeg v3)) &&& 15 = 12
    · refine mj_tableIn (off := 667) (tgt := 710) md_W_law_43 hlo hhi (by rw [hq12]; decide) (by decide) ?_
      have H := H12 hq12
      refine mj_aload_n 1 md_W_law_710 rfl ?_
      refine mj_aload_n 0 md_W_law_711 rfl ?_
      refine mj_iload_n 3 md_W_law_712 rfl ?_
      refine mj_iconst (v := 1) md_W_law_713 (by decide) ?_
      refine mj_iadd md_W_law_714 ?_
      obtain ⟨hi72, H⟩ := H
      refine mj_oldld (j := 2) rfl (by decide) rfl hi72 md_W_law_715 ?_
      refine mj_aload_n 0 md_W_law_716 rfl ?_
      refine mj_iload_n 3 md_W_law_717 rfl ?_
      refine mj_iconst (v := 2) md_W_law_718 (by decide) ?_
      refine mj_iadd md_W_law_719 ?_
      obtain ⟨hi73, H⟩ := H
      refine mj_oldld (j := 2) rfl (by decide) rfl hi73 md_W_law_720 ?_
      obtain ⟨b74, hb75, H⟩ := H
      obtain ⟨ht76, H⟩ := H
      obtain ⟨P, hM, H⟩ := H
      exact mj_callV (n := 2) (As := [.int ((G.2.2.1.2 2).2.2 (Int32.toNatClampNeg (v3 + 1))), .int ((G.2.2.1.2 2).2.2 (Int32.toNatClampNeg (v3 + 2)))]) hb75 hM kc_T ht76 ⟨tw_592, tw_1, tw_595, ⟨by decide, by decide, by decide +kernel⟩, by decide, by decide⟩ tw_593 tw_594 rfl md_W_law_721 (by first | decide | (simp only [List.map_cons, List.map_nil, List.sum_cons, List.sum_nil, mj_rfc, mj_ci, mj_cl]; done) | (simp only [List.map_cons, List.map_nil, List.sum_cons, List.sum_nil, mj_rfc, mj_ci, mj_cl]; decide)) id (mj_kI (fun x μ' hP e1 e2 => mj_lvs [0, 1, 2, 3] rfl (H x μ' hP e1 e2)))
    by_cases hq13 : ((G.2.2.1.2 2).2.2 (Int32.toNatClampNeg v3)) &&& 15 = 13
    · refine mj_tableIn (off := 700) (tgt := 743) md_W_law_43 hlo hhi (by rw [hq13]; decide) (by decide) ?_
      have H := H13 hq13
      refine mj_aload_n 1 md_W_law_743 rfl ?_
      refine mj_aload_n 0 md_W_law_744 rfl ?_
      refine mj_iload_n 3 md_W_law_745 rfl ?_
      refine mj_iconst (v := 1) md_W_law_746 (by decide) ?_
      refine mj_iadd md_W_law_747 ?_
      obtain ⟨hi77, H⟩ := H
      refine mj_oldld (j := 2) rfl (by decide) rfl hi77 md_W_law_748 ?_
      refine mj_aload_n 0 md_W_law_749 rfl ?_
      refine mj_iload_n 3 md_W_law_750 rfl ?_
      refine mj_iconst (v := 2) md_W_law_751 (by decide) ?_
      refine mj_iadd md_W_law_752 ?_
      obtain ⟨hi78, H⟩ := H
      refine mj_oldld (j := 2) rfl (by decide) rfl hi78 md_W_law_753 ?_
      obtain ⟨b79, hb80, H⟩ := H
      obtain ⟨ht81, H⟩ := H
      obtain ⟨P, hM, H⟩ := H
      exact mj_callV (n := 2) (As := [.int ((G.2.2.1.2 2).2.2 (Int32.toNatClampNeg (v3 + 1))), .int ((G.2.2.1.2 2).2.2 (Int32.toNatClampNeg (v3 + 2)))]) hb80 hM kc_T ht81 ⟨tw_597, tw_1, tw_600, ⟨by decide, by decide, by decide +kernel⟩, by decide, by decide⟩ tw_598 tw_599 rfl md_W_law_754 (by first | decide | (simp only [List.map_cons, List.map_nil, List.sum_cons, List.sum_nil, mj_rfc, mj_ci, mj_cl]; done) | (simp only [List.map_cons, List.map_nil, List.sum_cons, List.sum_nil, mj_rfc, mj_ci, mj_cl]; decide)) id (mj_kI (fun x μ' hP e1 e2 => mj_lvs [0, 1, 2, 3] rfl (H x μ' hP e1 e2)))
    by_cases hq14 : ((G.2.2.1.2 2).2.2 (Int32.toNatClampNeg v3)) &&& 15 = 14
    · refine mj_tableIn (off := 733) (tgt := 776) md_W_law_43 hlo hhi (by rw [hq14]; decide) (by decide) ?_
      have H := H14 hq14
      refine mj_aload_n 1 md_W_law_776 rfl ?_
      refine mj_aload_n 0 md_W_law_777 rfl ?_
      refine mj_iload_n 3 md_W_law_778 rfl ?_
      refine mj_iconst (v := 1) md_W_law_779 (by decide) ?_
      refine mj_iadd md_W_law_780 ?_
      obtain ⟨hi82, H⟩ := H
      refine mj_oldld (j := 2) rfl (by decide) rfl hi82 md_W_law_781 ?_
      refine mj_aload_n 0 md_W_law_782 rfl ?_
      refine mj_iload_n 3 md_W_law_783 rfl ?_
      refine mj_iconst (v := 2) md_W_law_784 (by decide) ?_
      refine mj_iadd md_W_law_785 ?_
      obtain ⟨hi83, H⟩ := H
      refine mj_oldld (j := 2) rfl (by decide) rfl hi83 md_W_law_786 ?_
      obtain ⟨b84, hb85, H⟩ := H
      obtain ⟨ht86, H⟩ := H
      obtain ⟨P, hM, H⟩ := H
      exact mj_callV (n := 2) (As := [.int ((G.2.2.1.2 2).2.2 (Int32.toNatClampNeg (v3 + 1))), .int ((G.2.2.1.2 2).2.2 (Int32.toNatClampNeg (v3 + 2)))]) hb85 hM kc_T ht86 ⟨tw_601, tw_1, tw_604, ⟨by decide, by decide, by decide +kernel⟩, by decide, by decide⟩ tw_602 tw_603 rfl md_W_law_787 (by first | decide | (simp only [List.map_cons, List.map_nil, List.sum_cons, List.sum_nil, mj_rfc, mj_ci, mj_cl]; done) | (simp only [List.map_cons, List.map_nil, List.sum_cons, List.sum_nil, mj_rfc, mj_ci, mj_cl]; decide)) id (mj_kI (fun x μ' hP e1 e2 => mj_lvs [0, 1, 2, 3] rfl (H x μ' hP e1 e2)))
    have hq15 : ((G.2.2.1.2 2).2.2 (Int32.toNatClampNeg v3)) &&& 15 = 15 := by
        apply Int32.toInt_inj.mp
        have z : ∀ k : Int32, ¬ ((G.2.2.1.2 2).2.2 (Int32.toNatClampNeg v3)) &&& 15 = k → ¬ (((G.2.2.1.2 2).2.2 (Int32.toNatClampNeg v3)) &&& 15).toInt = k.toInt := fun k h e => h (Int32.toInt_inj.mp e)
        have z0 := z 0 hq0
        rw [show (0 : Int32).toInt = 0 from by decide] at z0
        have z1 := z 1 hq1
        rw [show (1 : Int32).toInt = 1 from by decide] at z1
        have z2 := z 2 hq2
        rw [show (2 : Int32).toInt = 2 from by decide] at z2
        have z3 := z 3 hq3
        rw [show (3 : Int32).toInt = 3 from by decide] at z3
        have z4 := z 4 hq4
        rw [show (4 : Int32).toInt = 4 from by decide] at z4
        have z5 := z 5 hq5
        rw [show (5 : Int32).toInt = 5 from by decide] at z5
        have z6 := z 6 hq6
        rw [show (6 : Int32).toInt = 6 from by decide] at z6
        have z7 := z 7 hq7
        rw [show (7 : Int32).toInt = 7 from by decide] at z7
        have z8 := z 8 hq8
        rw [show (8 : Int32).toInt = 8 from by decide] at z8
        have z9 := z 9 hq9
        rw [show (9 : Int32).toInt = 9 from by decide] at z9
        have z10 := z 10 hq10
        rw [show (10 : Int32).toInt = 10 from by decide] at z10
        have z11 := z 11 hq11
        rw [show (11 : Int32).toInt = 11 from by decide] at z11
        have z12 := z 12 hq12
        rw [show (12 : Int32).toInt = 12 from by decide] at z12
        have z13 := z 13 hq13
        rw [show (13 : Int32).toInt = 13 from by decide] at z13
        have z14 := z 14 hq14
        rw [show (14 : Int32).toInt = 14 from by decide] at z14
        show (((G.2.2.1.2 2).2.2 (Int32.toNatClampNeg v3)) &&& 15).toInt = 15
        omega
    · refine mj_tableIn (off := 766) (tgt := 809) md_W_law_43 hlo hhi (by rw [hq15]; decide) (by decide) ?_
      have H := H15 hq15
      refine mj_aload_n 1 md_W_law_809 rfl ?_
      refine mj_aload_n 0 md_W_law_810 rfl ?_
      refine mj_iload_n 3 md_W_law_811 rfl ?_
      refine mj_iconst (v := 1) md_W_law_812 (by decide) ?_
      refine mj_iadd md_W_law_813 ?_
      obtain ⟨hi87, H⟩ := H
      refine mj_oldld (j := 2) rfl (by decide) rfl hi87 md_W_law_814 ?_
      obtain ⟨b88, hb89, H⟩ := H
      obtain ⟨ht90, H⟩ := H
      obtain ⟨P, hM, H⟩ := H
      exact mj_callV (n := 1) (As := [.int ((G.2.2.1.2 2).2.2 (Int32.toNatClampNeg (v3 + 1)))]) hb89 hM kc_T ht90 ⟨tw_609, tw_1, tw_612, ⟨by decide, by decide, by decide +kernel⟩, by decide, by decide⟩ tw_610 tw_611 rfl md_W_law_815 (by first | decide | (simp only [List.map_cons, List.map_nil, List.sum_cons, List.sum_nil, mj_rfc, mj_ci, mj_cl]; done) | (simp only [List.map_cons, List.map_nil, List.sum_cons, List.sum_nil, mj_rfc, mj_ci, mj_cl]; decide)) id (mj_kI (fun x μ' hP e1 e2 => mj_lvs [0, 1, 2, 3] rfl (H x μ' hP e1 e2)))

set_option maxRecDepth 20000 in
theorem bk_W_law_152 {G : mj_G} {Ex : Option Value → mj_MM → Prop} {N S : Nat} {μ : mj_MM} {v1 : Option Nat} {v2 : Option Nat} {v3 : Int32} {s0 : Int32}
    (H : ((vp_in (v3 + 1) (G.2.2.1.2 2).2.1) ∧ (vp_in (v3 + 2) (G.2.2.1.2 2).2.1) ∧ (vp_in (v3 + 3) (G.2.2.1.2 2).2.1) ∧ (vp_in (v3 + 4) (G.2.2.1.2 2).2.1) ∧ ((((G.2.2.1.2 2).2.2 (Int32.toNatClampNeg (v3 + 4))) = 0 → (∃ b5 : Nat, (v2 = some b5) ∧ (mj_t μ b5 = 11) ∧ (∃ P : Int32 → mj_MM → Prop, mj_M G my_M_task mY_M_task [va_rf (some b5), .int ((G.2.2.1.2 2).2.2 (Int32.toNatClampNeg (v3 + 1))), .int ((G.2.2.1.2 2).2.2 (Int32.toNatClampNeg (v3 + 2))), .int ((G.2.2.1.2 2).2.2 (Int32.toNatClampNeg (v3 + 3))), .int 0] (mj_nc μ) (mj_ns μ) μ (mj_XI P) ∧ ∀ (x : Int32) (μ' : mj_MM), P x μ' → mj_nc μ' = mj_nc μ → mj_ns μ' = mj_ns μ → mj_J G mY_W_law Ex N S 184 [(0, va_rf (some (G.2.2.1.2 2).1)), (1, va_rf v1), (2, va_rf v2), (3, .int v3)] [.int x, .int s0] μ'))) ∧ (¬ ((G.2.2.1.2 2).2.2 (Int32.toNatClampNeg (v3 + 4))) = 0 → (∃ b8 : Nat, (v2 = some b8) ∧ (mj_t μ b8 = 11) ∧ (∃ P : Int32 → mj_MM → Prop, mj_M G my_M_task mY_M_task [va_rf (some b8), .int ((G.2.2.1.2 2).2.2 (Int32.toNatClampNeg (v3 + 1))), .int ((G.2.2.1.2 2).2.2 (Int32.toNatClampNeg (v3 + 2))), .int ((G.2.2.1.2 2).2.2 (Int32.toNatClampNeg (v3 + 3))), .int 1] (mj_nc μ) (mj_ns μ) μ (mj_XI P) ∧ ∀ (x : Int32) (μ' : mj_MM), P x μ' → mj_nc μ' = mj_nc μ → mj_ns μ' = mj_ns μ → mj_J G mY_W_law Ex N S 184 [(0, va_rf (some (G.2.2.1.2 2).1)), (1, va_rf v1), (2, va_rf v2), (3, .int v3)] [.int x, .int s0] μ')))))) :
    mj_J G mY_W_law Ex N S 152 [(0, va_rf (some (G.2.2.1.2 2).1)), (1, va_rf v1), (2, va_rf v2), (3, .int v3)] [.int s0] μ := by
  refine mj_aload_n 2 md_W_law_152 rfl ?_
  refine mj_aload_n 0 md_W_law_153 rfl ?_
  refine mj_iload_n 3 md_W_law_154 rfl ?_
  refine mj_iconst (v := 1) md_W_law_155 (by decide) ?_
  refine mj_iadd md_W_law_156 ?_
  obtain ⟨hi1, H⟩ := H
  refine mj_oldld (j := 2) rfl (by decide) rfl hi1 md_W_law_157 ?_
  refine mj_aload_n 0 md_W_law_158 rfl ?_
  refine mj_iload_n 3 md_W_law_159 rfl ?_
  refine mj_iconst (v := 2) md_W_law_160 (by decide) ?_
  refine mj_iadd md_W_law_161 ?_
  obtain ⟨hi2, H⟩ := H
  refine mj_oldld (j := 2) rfl (by decide) rfl hi2 md_W_law_162 ?_
  refine mj_aload_n 0 md_W_law_163 rfl ?_
  refine mj_iload_n 3 md_W_law_164 rfl ?_
  refine mj_iconst (v := 3) md_W_law_165 (by decide) ?_
  refine mj_iadd md_W_law_166 ?_
  obtain ⟨hi3, H⟩ := H
  refine mj_oldld (j := 2) rfl (by decide) rfl hi3 md_W_law_167 ?_
  refine mj_aload_n 0 md_W_law_168 rfl ?_
  refine mj_iload_n 3 md_W_law_169 rfl ?_
  refine mj_iconst (v := 4) md_W_law_170 (by decide) ?_
  refine mj_iadd md_W_law_171 ?_
  obtain ⟨hi4, H⟩ := H
  refine mj_oldld (j := 2) rfl (by decide) rfl hi4 md_W_law_172 ?_
  obtain ⟨H1, H2⟩ := H
  refine mj_if_eq (tgt := 180) md_W_law_173 (by decide) (fun hx => ?_) (fun hx => ?_)
  · replace H := H1 hx
    refine mj_iconst (v := 0) md_W_law_180 (by decide) ?_
    obtain ⟨b5, hb6, H⟩ := H
    obtain ⟨ht7, H⟩ := H
    obtain ⟨P, hM, H⟩ := H
    exact mj_callV (n := 4) (As := [.int ((G.2.2.1.2 2).2.2 (Int32.toNatClampNeg (v3 + 1))), .int ((G.2.2.1.2 2).2.2 (Int32.toNatClampNeg (v3 + 2))), .int ((G.2.2.1.2 2).2.2 (Int32.toNatClampNeg (v3 + 3))), .int 0]) hb6 hM kc_M ht7 ⟨tw_762, tw_8, tw_765, ⟨by decide, by decide, by decide +kernel⟩, by decide, by decide⟩ tw_763 tw_764 rfl md_W_law_181 (by first | decide | (simp only [List.map_cons, List.map_nil, List.sum_cons, List.sum_nil, mj_rfc, mj_ci, mj_cl]; done) | (simp only [List.map_cons, List.map_nil, List.sum_cons, List.sum_nil, mj_rfc, mj_ci, mj_cl]; decide)) id (mj_kI (fun x μ' hP e1 e2 => mj_lvs [0, 1, 2, 3] rfl (H x μ' hP e1 e2)))
  · replace H := H2 hx
    refine mj_iconst (v := 1) md_W_law_176 (by decide) ?_
    refine mj_goto (tgt := 181) md_W_law_177 (by decide) ?_
    obtain ⟨b8, hb9, H⟩ := H
    obtain ⟨ht10, H⟩ := H
    obtain ⟨P, hM, H⟩ := H
    exact mj_callV (n := 4) (As := [.int ((G.2.2.1.2 2).2.2 (Int32.toNatClampNeg (v3 + 1))), .int ((G.2.2.1.2 2).2.2 (Int32.toNatClampNeg (v3 + 2))), .int ((G.2.2.1.2 2).2.2 (Int32.toNatClampNeg (v3 + 3))), .int 1]) hb9 hM kc_M ht10 ⟨tw_762, tw_8, tw_765, ⟨by decide, by decide, by decide +kernel⟩, by decide, by decide⟩ tw_763 tw_764 rfl md_W_law_181 (by first | decide | (simp only [List.map_cons, List.map_nil, List.sum_cons, List.sum_nil, mj_rfc, mj_ci, mj_cl]; done) | (simp only [List.map_cons, List.map_nil, List.sum_cons, List.sum_nil, mj_rfc, mj_ci, mj_cl]; decide)) id (mj_kI (fun x μ' hP e1 e2 => mj_lvs [0, 1, 2, 3] rfl (H x μ' hP e1 e2)))

set_option maxRecDepth 20000 in
theorem bk_W_law_223 {G : mj_G} {Ex : Option Value → mj_MM → Prop} {N S : Nat} {μ : mj_MM} {v1 : Option Nat} {v2 : Option Nat} {v3 : Int32} {s0 : Int32}
    (H : ((vp_in (v3 + 1) (G.2.2.1.2 2).2.1) ∧ (vp_in (v3 + 2) (G.2.2.1.2 2).2.1) ∧ (vp_in (v3 + 3) (G.2.2.1.2 2).2.1) ∧ (vp_in (v3 + 4) (G.2.2.1.2 2).2.1) ∧ ∃ b5 : Nat, (v2 = some b5) ∧ (mj_t μ b5 = 11) ∧ (∃ P : Int32 → mj_MM → Prop, mj_M G my_M_part mY_M_part [va_rf (some b5), .int ((G.2.2.1.2 2).2.2 (Int32.toNatClampNeg (v3 + 1))), .int ((G.2.2.1.2 2).2.2 (Int32.toNatClampNeg (v3 + 2))), .long (((Int32.toInt64 ((G.2.2.1.2 2).2.2 (Int32.toNatClampNeg (v3 + 3)))) <<< (Int32.toInt64 32 &&& 63)) ||| ((Int32.toInt64 ((G.2.2.1.2 2).2.2 (Int32.toNatClampNeg (v3 + 4)))) &&& 4294967295))] (mj_nc μ) (mj_ns μ) μ (mj_XI P) ∧ ∀ (x : Int32) (μ' : mj_MM), P x μ' → mj_nc μ' = mj_nc μ → mj_ns μ' = mj_ns μ → mj_J G mY_W_law Ex N S 257 [(0, va_rf (some (G.2.2.1.2 2).1)), (1, va_rf v1), (2, va_rf v2), (3, .int v3)] [.int x, .int s0] μ'))) :
    mj_J G mY_W_law Ex N S 223 [(0, va_rf (some (G.2.2.1.2 2).1)), (1, va_rf v1), (2, va_rf v2), (3, .int v3)] [.int s0] μ := by
  refine mj_aload_n 2 md_W_law_223 rfl ?_
  refine mj_aload_n 0 md_W_law_224 rfl ?_
  refine mj_iload_n 3 md_W_law_225 rfl ?_
  refine mj_iconst (v := 1) md_W_law_226 (by decide) ?_
  refine mj_iadd md_W_law_227 ?_
  obtain ⟨hi1, H⟩ := H
  refine mj_oldld (j := 2) rfl (by decide) rfl hi1 md_W_law_228 ?_
  refine mj_aload_n 0 md_W_law_229 rfl ?_
  refine mj_iload_n 3 md_W_law_230 rfl ?_
  refine mj_iconst (v := 2) md_W_law_231 (by decide) ?_
  refine mj_iadd md_W_law_232 ?_
  obtain ⟨hi2, H⟩ := H
  refine mj_oldld (j := 2) rfl (by decide) rfl hi2 md_W_law_233 ?_
  refine mj_aload_n 0 md_W_law_234 rfl ?_
  refine mj_iload_n 3 md_W_law_235 rfl ?_
  refine mj_iconst (v := 3) md_W_law_236 (by decide) ?_
  refine mj_iadd md_W_law_237 ?_
  obtain ⟨hi3, H⟩ := H
  refine mj_oldld (j := 2) rfl (by decide) rfl hi3 md_W_law_238 ?_
  refine mj_i2l md_W_law_239 ?_
  refine mj_bipush (v := 32) md_W_law_240 (by decide) ?_
  refine mj_lshl md_W_law_242 ?_
  refine mj_aload_n 0 md_W_law_243 rfl ?_
  refine mj_iload_n 3 md_W_law_244 rfl ?_
  refine mj_iconst (v := 4) md_W_law_245 (by decide) ?_
  refine mj_iadd md_W_law_246 ?_
  obtain ⟨hi4, H⟩ := H
  refine mj_oldld (j := 2) rfl (by decide) rfl hi4 md_W_law_247 ?_
  refine mj_i2l md_W_law_248 ?_
  refine mj_ldc2 (v := 4294967295) tw_926 md_W_law_249 ?_
  refine mj_land md_W_law_252 ?_
  refine mj_lor md_W_law_253 ?_
  obtain ⟨b5, hb6, H⟩ := H
  obtain ⟨ht7, H⟩ := H
  obtain ⟨P, hM, H⟩ := H
  exact mj_callV (n := 3) (As := [.int ((G.2.2.1.2 2).2.2 (Int32.toNatClampNeg (v3 + 1))), .int ((G.2.2.1.2 2).2.2 (Int32.toNatClampNeg (v3 + 2))), .long (((Int32.toInt64 ((G.2.2.1.2 2).2.2 (Int32.toNatClampNeg (v3 + 3)))) <<< (Int32.toInt64 32 &&& 63)) ||| ((Int32.toInt64 ((G.2.2.1.2 2).2.2 (Int32.toNatClampNeg (v3 + 4)))) &&& 4294967295))]) hb6 hM kc_M ht7 ⟨tw_766, tw_8, tw_769, ⟨by decide, by decide, by decide +kernel⟩, by decide, by decide⟩ tw_767 tw_768 rfl md_W_law_254 (by first | decide | (simp only [List.map_cons, List.map_nil, List.sum_cons, List.sum_nil, mj_rfc, mj_ci, mj_cl]; done) | (simp only [List.map_cons, List.map_nil, List.sum_cons, List.sum_nil, mj_rfc, mj_ci, mj_cl]; decide)) id (mj_kI (fun x μ' hP e1 e2 => mj_lvs [0, 1, 2, 3] rfl (H x μ' hP e1 e2)))

set_option maxRecDepth 20000 in
theorem bk_W_law_284 {G : mj_G} {Ex : Option Value → mj_MM → Prop} {N S : Nat} {μ : mj_MM} {v1 : Option Nat} {v2 : Option Nat} {v3 : Int32} {s0 : Int32}
    (H : ((vp_in (v3 + 1) (G.2.2.1.2 2).2.1) ∧ (vp_in (v3 + 2) (G.2.2.1.2 2).2.1) ∧ ((((G.2.2.1.2 2).2.2 (Int32.toNatClampNeg (v3 + 2))) = 0 → (∃ b3 : Nat, (v2 = some b3) ∧ (mj_t μ b3 = 11) ∧ (∃ P : Int32 → mj_MM → Prop, mj_M G my_M_manner mY_M_manner [va_rf (some b3), .int ((G.2.2.1.2 2).2.2 (Int32.toNatClampNeg (v3 + 1))), .int 0] (mj_nc μ) (mj_ns μ) μ (mj_XI P) ∧ ∀ (x : Int32) (μ' : mj_MM), P x μ' → mj_nc μ' = mj_nc μ → mj_ns μ' = mj_ns μ → mj_J G mY_W_law Ex N S 306 [(0, va_rf (some (G.2.2.1.2 2).1)), (1, va_rf v1), (2, va_rf v2), (3, .int v3)] [.int x, .int s0] μ'))) ∧ (¬ ((G.2.2.1.2 2).2.2 (Int32.toNatClampNeg (v3 + 2))) = 0 → (∃ b6 : Nat, (v2 = some b6) ∧ (mj_t μ b6 = 11) ∧ (∃ P : Int32 → mj_MM → Prop, mj_M G my_M_manner mY_M_manner [va_rf (some b6), .int ((G.2.2.1.2 2).2.2 (Int32.toNatClampNeg (v3 + 1))), .int 1] (mj_nc μ) (mj_ns μ) μ (mj_XI P) ∧ ∀ (x : Int32) (μ' : mj_MM), P x μ' → mj_nc μ' = mj_nc μ → mj_ns μ' = mj_ns μ → mj_J G mY_W_law Ex N S 306 [(0, va_rf (some (G.2.2.1.2 2).1)), (1, va_rf v1), (2, va_rf v2), (3, .int v3)] [.int x, .int s0] μ')))))) :
    mj_J G mY_W_law Ex N S 284 [(0, va_rf (some (G.2.2.1.2 2).1)), (1, va_rf v1), (2, va_rf v2), (3, .int v3)] [.int s0] μ := by
  refine mj_aload_n 2 md_W_law_284 rfl ?_
  refine mj_aload_n 0 md_W_law_285 rfl ?_
  refine mj_iload_n 3 md_W_law_286 rfl ?_
  refine mj_iconst (v := 1) md_W_law_287 (by decide) ?_
  refine mj_iadd md_W_law_288 ?_
  obtain ⟨hi1, H⟩ := H
  refine mj_oldld (j := 2) rfl (by decide) rfl hi1 md_W_law_289 ?_
  refine mj_aload_n 0 md_W_law_290 rfl ?_
  refine mj_iload_n 3 md_W_law_291 rfl ?_
  refine mj_iconst (v := 2) md_W_law_292 (by decide) ?_
  refine mj_iadd md_W_law_293 ?_
  obtain ⟨hi2, H⟩ := H
  refine mj_oldld (j := 2) rfl (by decide) rfl hi2 md_W_law_294 ?_
  obtain ⟨H1, H2⟩ := H
  refine mj_if_eq (tgt := 302) md_W_law_295 (by decide) (fun hx => ?_) (fun hx => ?_)
  · replace H := H1 hx
    refine mj_iconst (v := 0) md_W_law_302 (by decide) ?_
    obtain ⟨b3, hb4, H⟩ := H
    obtain ⟨ht5, H⟩ := H
    obtain ⟨P, hM, H⟩ := H
    exact mj_callV (n := 2) (As := [.int ((G.2.2.1.2 2).2.2 (Int32.toNatClampNeg (v3 + 1))), .int 0]) hb4 hM kc_M ht5 ⟨tw_785, tw_8, tw_788, ⟨by decide, by decide, by decide +kernel⟩, by decide, by decide⟩ tw_786 tw_787 rfl md_W_law_303 (by first | decide | (simp only [List.map_cons, List.map_nil, List.sum_cons, List.sum_nil, mj_rfc, mj_ci, mj_cl]; done) | (simp only [List.map_cons, List.map_nil, List.sum_cons, List.sum_nil, mj_rfc, mj_ci, mj_cl]; decide)) id (mj_kI (fun x μ' hP e1 e2 => mj_lvs [0, 1, 2, 3] rfl (H x μ' hP e1 e2)))
  · replace H := H2 hx
    refine mj_iconst (v := 1) md_W_law_298 (by decide) ?_
    refine mj_goto (tgt := 303) md_W_law_299 (by decide) ?_
    obtain ⟨b6, hb7, H⟩ := H
    obtain ⟨ht8, H⟩ := H
    obtain ⟨P, hM, H⟩ := H
    exact mj_callV (n := 2) (As := [.int ((G.2.2.1.2 2).2.2 (Int32.toNatClampNeg (v3 + 1))), .int 1]) hb7 hM kc_M ht8 ⟨tw_785, tw_8, tw_788, ⟨by decide, by decide, by decide +kernel⟩, by decide, by decide⟩ tw_786 tw_787 rfl md_W_law_303 (by first | decide | (simp only [List.map_cons, List.map_nil, List.sum_cons, List.sum_nil, mj_rfc, mj_ci, mj_cl]; done) | (simp only [List.map_cons, List.map_nil, List.sum_cons, List.sum_nil, mj_rfc, mj_ci, mj_cl]; decide)) id (mj_kI (fun x μ' hP e1 e2 => mj_lvs [0, 1, 2, 3] rfl (H x μ' hP e1 e2)))

set_option maxRecDepth 20000 in
theorem bk_W_law_340 {G : mj_G} {Ex : Option Value → mj_MM → Prop} {N S : Nat} {μ : mj_MM} {v1 : Option Nat} {v2 : Option Nat} {v3 : Int32} {s0 : Int32}
    (H : ((vp_in (v3 + 1) (G.2.2.1.2 2).2.1) ∧ (vp_in (v3 + 2) (G.2.2.1.2 2).2.1) ∧ (vp_in (v3 + 3) (G.2.2.1.2 2).2.1) ∧ ∃ b4 : Nat, (v2 = some b4) ∧ (mj_t μ b4 = 11) ∧ (∃ P : Int32 → mj_MM → Prop, mj_M G my_M_activate mY_M_activate [va_rf (some b4), .int ((G.2.2.1.2 2).2.2 (Int32.toNatClampNeg (v3 + 1))), .long (((Int32.toInt64 ((G.2.2.1.2 2).2.2 (Int32.toNatClampNeg (v3 + 2)))) <<< (Int32.toInt64 32 &&& 63)) ||| ((Int32.toInt64 ((G.2.2.1.2 2).2.2 (Int32.toNatClampNeg (v3 + 3)))) &&& 4294967295))] (mj_nc μ) (mj_ns μ) μ (mj_XI P) ∧ ∀ (x : Int32) (μ' : mj_MM), P x μ' → mj_nc μ' = mj_nc μ → mj_ns μ' = mj_ns μ → mj_J G mY_W_law Ex N S 369 [(0, va_rf (some (G.2.2.1.2 2).1)), (1, va_rf v1), (2, va_rf v2), (3, .int v3)] [.int x, .int s0] μ'))) :
    mj_J G mY_W_law Ex N S 340 [(0, va_rf (some (G.2.2.1.2 2).1)), (1, va_rf v1), (2, va_rf v2), (3, .int v3)] [.int s0] μ := by
  refine mj_aload_n 2 md_W_law_340 rfl ?_
  refine mj_aload_n 0 md_W_law_341 rfl ?_
  refine mj_iload_n 3 md_W_law_342 rfl ?_
  refine mj_iconst (v := 1) md_W_law_343 (by decide) ?_
  refine mj_iadd md_W_law_344 ?_
  obtain ⟨hi1, H⟩ := H
  refine mj_oldld (j := 2) rfl (by decide) rfl hi1 md_W_law_345 ?_
  refine mj_aload_n 0 md_W_law_346 rfl ?_
  refine mj_iload_n 3 md_W_law_347 rfl ?_
  refine mj_iconst (v := 2) md_W_law_348 (by decide) ?_
  refine mj_iadd md_W_law_349 ?_
  obtain ⟨hi2, H⟩ := H
  refine mj_oldld (j := 2) rfl (by decide) rfl hi2 md_W_law_350 ?_
  refine mj_i2l md_W_law_351 ?_
  refine mj_bipush (v := 32) md_W_law_352 (by decide) ?_
  refine mj_lshl md_W_law_354 ?_
  refine mj_aload_n 0 md_W_law_355 rfl ?_
  refine mj_iload_n 3 md_W_law_356 rfl ?_
  refine mj_iconst (v := 3) md_W_law_357 (by decide) ?_
  refine mj_iadd md_W_law_358 ?_
  obtain ⟨hi3, H⟩ := H
  refine mj_oldld (j := 2) rfl (by decide) rfl hi3 md_W_law_359 ?_
  refine mj_i2l md_W_law_360 ?_
  refine mj_ldc2 (v := 4294967295) tw_926 md_W_law_361 ?_
  refine mj_land md_W_law_364 ?_
  refine mj_lor md_W_law_365 ?_
  obtain ⟨b4, hb5, H⟩ := H
  obtain ⟨ht6, H⟩ := H
  obtain ⟨P, hM, H⟩ := H
  exact mj_callV (n := 2) (As := [.int ((G.2.2.1.2 2).2.2 (Int32.toNatClampNeg (v3 + 1))), .long (((Int32.toInt64 ((G.2.2.1.2 2).2.2 (Int32.toNatClampNeg (v3 + 2)))) <<< (Int32.toInt64 32 &&& 63)) ||| ((Int32.toInt64 ((G.2.2.1.2 2).2.2 (Int32.toNatClampNeg (v3 + 3)))) &&& 4294967295))]) hb5 hM kc_M ht6 ⟨tw_789, tw_8, tw_792, ⟨by decide, by decide, by decide +kernel⟩, by decide, by decide⟩ tw_790 tw_791 rfl md_W_law_366 (by first | decide | (simp only [List.map_cons, List.map_nil, List.sum_cons, List.sum_nil, mj_rfc, mj_ci, mj_cl]; done) | (simp only [List.map_cons, List.map_nil, List.sum_cons, List.sum_nil, mj_rfc, mj_ci, mj_cl]; decide)) id (mj_kI (fun x μ' hP e1 e2 => mj_lvs [0, 1, 2, 3] rfl (H x μ' hP e1 e2)))

set_option maxRecDepth 20000 in
theorem bk_W_law_423 {G : mj_G} {Ex : Option Value → mj_MM → Prop} {N S : Nat} {μ : mj_MM} {v1 : Option Nat} {v2 : Option Nat} {v3 : Int32} {s0 : Int32}
    (H : ((vp_in (v3 + 1) (G.2.2.1.2 2).2.1) ∧ (vp_in (v3 + 2) (G.2.2.1.2 2).2.1) ∧ (vp_in (v3 + 3) (G.2.2.1.2 2).2.1) ∧ (vp_in (v3 + 4) (G.2.2.1.2 2).2.1) ∧ (vp_in (v3 + 5) (G.2.2.1.2 2).2.1) ∧ ∃ b6 : Nat, (v2 = some b6) ∧ (mj_t μ b6 = 11) ∧ (∃ P : Int32 → mj_MM → Prop, mj_M G my_M_interrupt mY_M_interrupt [va_rf (some b6), .int ((G.2.2.1.2 2).2.2 (Int32.toNatClampNeg (v3 + 1))), .long (((Int32.toInt64 ((G.2.2.1.2 2).2.2 (Int32.toNatClampNeg (v3 + 2)))) <<< (Int32.toInt64 32 &&& 63)) ||| ((Int32.toInt64 ((G.2.2.1.2 2).2.2 (Int32.toNatClampNeg (v3 + 3)))) &&& 4294967295)), .long (((Int32.toInt64 ((G.2.2.1.2 2).2.2 (Int32.toNatClampNeg (v3 + 4)))) <<< (Int32.toInt64 32 &&& 63)) ||| ((Int32.toInt64 ((G.2.2.1.2 2).2.2 (Int32.toNatClampNeg (v3 + 5)))) &&& 4294967295))] (mj_nc μ) (mj_ns μ) μ (mj_XI P) ∧ ∀ (x : Int32) (μ' : mj_MM), P x μ' → mj_nc μ' = mj_nc μ → mj_ns μ' = mj_ns μ → mj_J G mY_W_law Ex N S 472 [(0, va_rf (some (G.2.2.1.2 2).1)), (1, va_rf v1), (2, va_rf v2), (3, .int v3)] [.int x, .int s0] μ'))) :
    mj_J G mY_W_law Ex N S 423 [(0, va_rf (some (G.2.2.1.2 2).1)), (1, va_rf v1), (2, va_rf v2), (3, .int v3)] [.int s0] μ := by
  refine mj_aload_n 2 md_W_law_423 rfl ?_
  refine mj_aload_n 0 md_W_law_424 rfl ?_
  refine mj_iload_n 3 md_W_law_425 rfl ?_
  refine mj_iconst (v := 1) md_W_law_426 (by decide) ?_
  refine mj_iadd md_W_law_427 ?_
  obtain ⟨hi1, H⟩ := H
  refine mj_oldld (j := 2) rfl (by decide) rfl hi1 md_W_law_428 ?_
  refine mj_aload_n 0 md_W_law_429 rfl ?_
  refine mj_iload_n 3 md_W_law_430 rfl ?_
  refine mj_iconst (v := 2) md_W_law_431 (by decide) ?_
  refine mj_iadd md_W_law_432 ?_
  obtain ⟨hi2, H⟩ := H
  refine mj_oldld (j := 2) rfl (by decide) rfl hi2 md_W_law_433 ?_
  refine mj_i2l md_W_law_434 ?_
  refine mj_bipush (v := 32) md_W_law_435 (by decide) ?_
  refine mj_lshl md_W_law_437 ?_
  refine mj_aload_n 0 md_W_law_438 rfl ?_
  refine mj_iload_n 3 md_W_law_439 rfl ?_
  refine mj_iconst (v := 3) md_W_law_440 (by decide) ?_
  refine mj_iadd md_W_law_441 ?_
  obtain ⟨hi3, H⟩ := H
  refine mj_oldld (j := 2) rfl (by decide) rfl hi3 md_W_law_442 ?_
  refine mj_i2l md_W_law_443 ?_
  refine mj_ldc2 (v := 4294967295) tw_926 md_W_law_444 ?_
  refine mj_land md_W_law_447 ?_
  refine mj_lor md_W_law_448 ?_
  refine mj_aload_n 0 md_W_law_449 rfl ?_
  refine mj_iload_n 3 md_W_law_450 rfl ?_
  refine mj_iconst (v := 4) md_W_law_451 (by decide) ?_
  refine mj_iadd md_W_law_452 ?_
  obtain ⟨hi4, H⟩ := H
  refine mj_oldld (j := 2) rfl (by decide) rfl hi4 md_W_law_453 ?_
  refine mj_i2l md_W_law_454 ?_
  refine mj_bipush (v := 32) md_W_law_455 (by decide) ?_
  refine mj_lshl md_W_law_457 ?_
  refine mj_aload_n 0 md_W_law_458 rfl ?_
  refine mj_iload_n 3 md_W_law_459 rfl ?_
  refine mj_iconst (v := 5) md_W_law_460 (by decide) ?_
  refine mj_iadd md_W_law_461 ?_
  obtain ⟨hi5, H⟩ := H
  refine mj_oldld (j := 2) rfl (by decide) rfl hi5 md_W_law_462 ?_
  refine mj_i2l md_W_law_463 ?_
  refine mj_ldc2 (v := 4294967295) tw_926 md_W_law_464 ?_
  refine mj_land md_W_law_467 ?_
  refine mj_lor md_W_law_468 ?_
  obtain ⟨b6, hb7, H⟩ := H
  obtain ⟨ht8, H⟩ := H
  obtain ⟨P, hM, H⟩ := H
  exact mj_callV (n := 3) (As := [.int ((G.2.2.1.2 2).2.2 (Int32.toNatClampNeg (v3 + 1))), .long (((Int32.toInt64 ((G.2.2.1.2 2).2.2 (Int32.toNatClampNeg (v3 + 2)))) <<< (Int32.toInt64 32 &&& 63)) ||| ((Int32.toInt64 ((G.2.2.1.2 2).2.2 (Int32.toNatClampNeg (v3 + 3)))) &&& 4294967295)), .long (((Int32.toInt64 ((G.2.2.1.2 2).2.2 (Int32.toNatClampNeg (v3 + 4)))) <<< (Int32.toInt64 32 &&& 63)) ||| ((Int32.toInt64 ((G.2.2.1.2 2).2.2 (Int32.toNatClampNeg (v3 + 5)))) &&& 4294967295))]) hb7 hM kc_M ht8 ⟨tw_793, tw_8, tw_796, ⟨by decide, by decide, by decide +kernel⟩, by decide, by decide⟩ tw_794 tw_795 rfl md_W_law_469 (by first | decide | (simp only [List.map_cons, List.map_nil, List.sum_cons, List.sum_nil, mj_rfc, mj_ci, mj_cl]; done) | (simp only [List.map_cons, List.map_nil, List.sum_cons, List.sum_nil, mj_rfc, mj_ci, mj_cl]; decide)) id (mj_kI (fun x μ' hP e1 e2 => mj_lvs [0, 1, 2, 3] rfl (H x μ' hP e1 e2)))

set_option maxRecDepth 20000 in
theorem bk_W_law_501 {G : mj_G} {Ex : Option Value → mj_MM → Prop} {N S : Nat} {μ : mj_MM} {v1 : Option Nat} {v2 : Option Nat} {v3 : Int32} {s0 : Int32}
    (H : ((vp_in (v3 + 1) (G.2.2.1.2 2).2.1) ∧ (vp_in (v3 + 2) (G.2.2.1.2 2).2.1) ∧ ∃ b3 : Nat, (v2 = some b3) ∧ (mj_t μ b3 = 11) ∧ (∃ P : Int32 → mj_MM → Prop, mj_M G my_M_run mY_M_run [va_rf (some b3), .long (((Int32.toInt64 ((G.2.2.1.2 2).2.2 (Int32.toNatClampNeg (v3 + 1)))) <<< (Int32.toInt64 32 &&& 63)) ||| ((Int32.toInt64 ((G.2.2.1.2 2).2.2 (Int32.toNatClampNeg (v3 + 2)))) &&& 4294967295))] (mj_nc μ) (mj_ns μ) μ (mj_XI P) ∧ ∀ (x : Int32) (μ' : mj_MM), P x μ' → mj_nc μ' = mj_nc μ → mj_ns μ' = mj_ns μ → mj_J G mY_W_law Ex N S 525 [(0, va_rf (some (G.2.2.1.2 2).1)), (1, va_rf v1), (2, va_rf v2), (3, .int v3)] [.int x, .int s0] μ'))) :
    mj_J G mY_W_law Ex N S 501 [(0, va_rf (some (G.2.2.1.2 2).1)), (1, va_rf v1), (2, va_rf v2), (3, .int v3)] [.int s0] μ := by
  refine mj_aload_n 2 md_W_law_501 rfl ?_
  refine mj_aload_n 0 md_W_law_502 rfl ?_
  refine mj_iload_n 3 md_W_law_503 rfl ?_
  refine mj_iconst (v := 1) md_W_law_504 (by decide) ?_
  refine mj_iadd md_W_law_505 ?_
  obtain ⟨hi1, H⟩ := H
  refine mj_oldld (j := 2) rfl (by decide) rfl hi1 md_W_law_506 ?_
  refine mj_i2l md_W_law_507 ?_
  refine mj_bipush (v := 32) md_W_law_508 (by decide) ?_
  refine mj_lshl md_W_law_510 ?_
  refine mj_aload_n 0 md_W_law_511 rfl ?_
  refine mj_iload_n 3 md_W_law_512 rfl ?_
  refine mj_iconst (v := 2) md_W_law_513 (by decide) ?_
  refine mj_iadd md_W_law_514 ?_
  obtain ⟨hi2, H⟩ := H
  refine mj_oldld (j := 2) rfl (by decide) rfl hi2 md_W_law_515 ?_
  refine mj_i2l md_W_law_516 ?_
  refine mj_ldc2 (v := 4294967295) tw_926 md_W_law_517 ?_
  refine mj_land md_W_law_520 ?_
  refine mj_lor md_W_law_521 ?_
  obtain ⟨b3, hb4, H⟩ := H
  obtain ⟨ht5, H⟩ := H
  obtain ⟨P, hM, H⟩ := H
  exact mj_callV (n := 1) (As := [.long (((Int32.toInt64 ((G.2.2.1.2 2).2.2 (Int32.toNatClampNeg (v3 + 1)))) <<< (Int32.toInt64 32 &&& 63)) ||| ((Int32.toInt64 ((G.2.2.1.2 2).2.2 (Int32.toNatClampNeg (v3 + 2)))) &&& 4294967295))]) hb4 hM kc_M ht5 ⟨tw_798, tw_8, tw_801, ⟨by decide, by decide, by decide +kernel⟩, by decide, by decide⟩ tw_799 tw_800 rfl md_W_law_522 (by first | decide | (simp only [List.map_cons, List.map_nil, List.sum_cons, List.sum_nil, mj_rfc, mj_ci, mj_cl]; done) | (simp only [List.map_cons, List.map_nil, List.sum_cons, List.sum_nil, mj_rfc, mj_ci, mj_cl]; decide)) id (mj_kI (fun x μ' hP e1 e2 => mj_lvs [0, 1, 2, 3] rfl (H x μ' hP e1 e2)))

set_option maxRecDepth 20000 in
theorem bk_W_law_534 {G : mj_G} {Ex : Option Value → mj_MM → Prop} {N S : Nat} {μ : mj_MM} {v1 : Option Nat} {v2 : Option Nat} {v3 : Int32} {s0 : Int64}
    (H : (∃ b1 : Nat, (v2 = some b1) ∧ (mj_t μ b1 = 11) ∧ (∃ P : Int64 → mj_MM → Prop, mj_M G my_M_now mY_M_now [va_rf (some b1)] (mj_nc μ) (mj_ns μ) μ (mj_XL P) ∧ ∀ (x : Int64) (μ' : mj_MM), P x μ' → mj_nc μ' = mj_nc μ → mj_ns μ' = mj_ns μ → mj_J G mY_W_law Ex N S 538 [(0, va_rf (some (G.2.2.1.2 2).1)), (1, va_rf v1), (2, va_rf v2), (3, .int v3)] [.long x, .long s0] μ'))) :
    mj_J G mY_W_law Ex N S 534 [(0, va_rf (some (G.2.2.1.2 2).1)), (1, va_rf v1), (2, va_rf v2), (3, .int v3)] [.long s0] μ := by
  refine mj_aload_n 2 md_W_law_534 rfl ?_
  obtain ⟨b1, hb2, H⟩ := H
  obtain ⟨ht3, H⟩ := H
  obtain ⟨P, hM, H⟩ := H
  exact mj_callV (n := 0) (As := []) hb2 hM kc_M ht3 ⟨tw_881, tw_8, tw_884, ⟨by decide, by decide, by decide +kernel⟩, by decide, by decide⟩ tw_882 tw_883 rfl md_W_law_535 (by first | decide | (simp only [List.map_cons, List.map_nil, List.sum_cons, List.sum_nil, mj_rfc, mj_ci, mj_cl]; done) | (simp only [List.map_cons, List.map_nil, List.sum_cons, List.sum_nil, mj_rfc, mj_ci, mj_cl]; decide)) id (mj_kL (fun x μ' hP e1 e2 => mj_lvs [0, 1, 2, 3] rfl (H x μ' hP e1 e2)))

set_option maxRecDepth 20000 in
theorem bk_W_law_573 {G : mj_G} {Ex : Option Value → mj_MM → Prop} {N S : Nat} {μ : mj_MM} {v1 : Option Nat} {v2 : Option Nat} {v3 : Int32} {s0 : Int32}
    (H : ((vp_in (v3 + 1) (G.2.2.1.2 2).2.1) ∧ (vp_in (v3 + 2) (G.2.2.1.2 2).2.1) ∧ (vp_in (v3 + 3) (G.2.2.1.2 2).2.1) ∧ ∃ b4 : Nat, (v2 = some b4) ∧ (mj_t μ b4 = 11) ∧ (∃ P : Int32 → mj_MM → Prop, mj_M G my_M_running mY_M_running [va_rf (some b4), .int ((G.2.2.1.2 2).2.2 (Int32.toNatClampNeg (v3 + 1))), .long (((Int32.toInt64 ((G.2.2.1.2 2).2.2 (Int32.toNatClampNeg (v3 + 2)))) <<< (Int32.toInt64 32 &&& 63)) ||| ((Int32.toInt64 ((G.2.2.1.2 2).2.2 (Int32.toNatClampNeg (v3 + 3)))) &&& 4294967295))] (mj_nc μ) (mj_ns μ) μ (mj_XI P) ∧ ∀ (x : Int32) (μ' : mj_MM), P x μ' → mj_nc μ' = mj_nc μ → mj_ns μ' = mj_ns μ → mj_J G mY_W_law Ex N S 602 [(0, va_rf (some (G.2.2.1.2 2).1)), (1, va_rf v1), (2, va_rf v2), (3, .int v3)] [.int x, .int s0] μ'))) :
    mj_J G mY_W_law Ex N S 573 [(0, va_rf (some (G.2.2.1.2 2).1)), (1, va_rf v1), (2, va_rf v2), (3, .int v3)] [.int s0] μ := by
  refine mj_aload_n 2 md_W_law_573 rfl ?_
  refine mj_aload_n 0 md_W_law_574 rfl ?_
  refine mj_iload_n 3 md_W_law_575 rfl ?_
  refine mj_iconst (v := 1) md_W_law_576 (by decide) ?_
  refine mj_iadd md_W_law_577 ?_
  obtain ⟨hi1, H⟩ := H
  refine mj_oldld (j := 2) rfl (by decide) rfl hi1 md_W_law_578 ?_
  refine mj_aload_n 0 md_W_law_579 rfl ?_
  refine mj_iload_n 3 md_W_law_580 rfl ?_
  refine mj_iconst (v := 2) md_W_law_581 (by decide) ?_
  refine mj_iadd md_W_law_582 ?_
  obtain ⟨hi2, H⟩ := H
  refine mj_oldld (j := 2) rfl (by decide) rfl hi2 md_W_law_583 ?_
  refine mj_i2l md_W_law_584 ?_
  refine mj_bipush (v := 32) md_W_law_585 (by decide) ?_
  refine mj_lshl md_W_law_587 ?_
  refine mj_aload_n 0 md_W_law_588 rfl ?_
  refine mj_iload_n 3 md_W_law_589 rfl ?_
  refine mj_iconst (v := 3) md_W_law_590 (by decide) ?_
  refine mj_iadd md_W_law_591 ?_
  obtain ⟨hi3, H⟩ := H
  refine mj_oldld (j := 2) rfl (by decide) rfl hi3 md_W_law_592 ?_
  refine mj_i2l md_W_law_593 ?_
  refine mj_ldc2 (v := 4294967295) tw_926 md_W_law_594 ?_
  refine mj_land md_W_law_597 ?_
  refine mj_lor md_W_law_598 ?_
  obtain ⟨b4, hb5, H⟩ := H
  obtain ⟨ht6, H⟩ := H
  obtain ⟨P, hM, H⟩ := H
  exact mj_callV (n := 2) (As := [.int ((G.2.2.1.2 2).2.2 (Int32.toNatClampNeg (v3 + 1))), .long (((Int32.toInt64 ((G.2.2.1.2 2).2.2 (Int32.toNatClampNeg (v3 + 2)))) <<< (Int32.toInt64 32 &&& 63)) ||| ((Int32.toInt64 ((G.2.2.1.2 2).2.2 (Int32.toNatClampNeg (v3 + 3)))) &&& 4294967295))]) hb5 hM kc_M ht6 ⟨tw_885, tw_8, tw_888, ⟨by decide, by decide, by decide +kernel⟩, by decide, by decide⟩ tw_886 tw_887 rfl md_W_law_599 (by first | decide | (simp only [List.map_cons, List.map_nil, List.sum_cons, List.sum_nil, mj_rfc, mj_ci, mj_cl]; done) | (simp only [List.map_cons, List.map_nil, List.sum_cons, List.sum_nil, mj_rfc, mj_ci, mj_cl]; decide)) id (mj_kI (fun x μ' hP e1 e2 => mj_lvs [0, 1, 2, 3] rfl (H x μ' hP e1 e2)))

set_option maxRecDepth 20000 in
theorem bk_W_law_616 {G : mj_G} {Ex : Option Value → mj_MM → Prop} {N S : Nat} {μ : mj_MM} {v1 : Option Nat} {v2 : Option Nat} {v3 : Int32} {s0 : Int64}
    (H : ((vp_in (v3 + 1) (G.2.2.1.2 2).2.1) ∧ ∃ b2 : Nat, (v2 = some b2) ∧ (mj_t μ b2 = 11) ∧ (∃ P : Int64 → mj_MM → Prop, mj_M G my_M_used mY_M_used [va_rf (some b2), .int ((G.2.2.1.2 2).2.2 (Int32.toNatClampNeg (v3 + 1)))] (mj_nc μ) (mj_ns μ) μ (mj_XL P) ∧ ∀ (x : Int64) (μ' : mj_MM), P x μ' → mj_nc μ' = mj_nc μ → mj_ns μ' = mj_ns μ → mj_J G mY_W_law Ex N S 625 [(0, va_rf (some (G.2.2.1.2 2).1)), (1, va_rf v1), (2, va_rf v2), (3, .int v3)] [.long x, .long s0] μ'))) :
    mj_J G mY_W_law Ex N S 616 [(0, va_rf (some (G.2.2.1.2 2).1)), (1, va_rf v1), (2, va_rf v2), (3, .int v3)] [.long s0] μ := by
  refine mj_aload_n 2 md_W_law_616 rfl ?_
  refine mj_aload_n 0 md_W_law_617 rfl ?_
  refine mj_iload_n 3 md_W_law_618 rfl ?_
  refine mj_iconst (v := 1) md_W_law_619 (by decide) ?_
  refine mj_iadd md_W_law_620 ?_
  obtain ⟨hi1, H⟩ := H
  refine mj_oldld (j := 2) rfl (by decide) rfl hi1 md_W_law_621 ?_
  obtain ⟨b2, hb3, H⟩ := H
  obtain ⟨ht4, H⟩ := H
  obtain ⟨P, hM, H⟩ := H
  exact mj_callV (n := 1) (As := [.int ((G.2.2.1.2 2).2.2 (Int32.toNatClampNeg (v3 + 1)))]) hb3 hM kc_M ht4 ⟨tw_889, tw_8, tw_892, ⟨by decide, by decide, by decide +kernel⟩, by decide, by decide⟩ tw_890 tw_891 rfl md_W_law_622 (by first | decide | (simp only [List.map_cons, List.map_nil, List.sum_cons, List.sum_nil, mj_rfc, mj_ci, mj_cl]; done) | (simp only [List.map_cons, List.map_nil, List.sum_cons, List.sum_nil, mj_rfc, mj_ci, mj_cl]; decide)) id (mj_kL (fun x μ' hP e1 e2 => mj_lvs [0, 1, 2, 3] rfl (H x μ' hP e1 e2)))

set_option maxRecDepth 20000 in
theorem bk_W_law_640 {G : mj_G} {Ex : Option Value → mj_MM → Prop} {N S : Nat} {μ : mj_MM} {v1 : Option Nat} {v2 : Option Nat} {v3 : Int32} {s0 : Int32}
    (H : ((vp_in (v3 + 1) (G.2.2.1.2 2).2.1) ∧ ∃ b2 : Nat, (v2 = some b2) ∧ (mj_t μ b2 = 11) ∧ (∃ P : Int32 → mj_MM → Prop, mj_M G my_M_state mY_M_state [va_rf (some b2), .int ((G.2.2.1.2 2).2.2 (Int32.toNatClampNeg (v3 + 1)))] (mj_nc μ) (mj_ns μ) μ (mj_XI P) ∧ ∀ (x : Int32) (μ' : mj_MM), P x μ' → mj_nc μ' = mj_nc μ → mj_ns μ' = mj_ns μ → mj_J G mY_W_law Ex N S 649 [(0, va_rf (some (G.2.2.1.2 2).1)), (1, va_rf v1), (2, va_rf v2), (3, .int v3)] [.int x, .int s0] μ'))) :
    mj_J G mY_W_law Ex N S 640 [(0, va_rf (some (G.2.2.1.2 2).1)), (1, va_rf v1), (2, va_rf v2), (3, .int v3)] [.int s0] μ := by
  refine mj_aload_n 2 md_W_law_640 rfl ?_
  refine mj_aload_n 0 md_W_law_641 rfl ?_
  refine mj_iload_n 3 md_W_law_642 rfl ?_
  refine mj_iconst (v := 1) md_W_law_643 (by decide) ?_
  refine mj_iadd md_W_law_644 ?_
  obtain ⟨hi1, H⟩ := H
  refine mj_oldld (j := 2) rfl (by decide) rfl hi1 md_W_law_645 ?_
  obtain ⟨b2, hb3, H⟩ := H
  obtain ⟨ht4, H⟩ := H
  obtain ⟨P, hM, H⟩ := H
  exact mj_callV (n := 1) (As := [.int ((G.2.2.1.2 2).2.2 (Int32.toNatClampNeg (v3 + 1)))]) hb3 hM kc_M ht4 ⟨tw_893, tw_8, tw_896, ⟨by decide, by decide, by decide +kernel⟩, by decide, by decide⟩ tw_894 tw_895 rfl md_W_law_646 (by first | decide | (simp only [List.map_cons, List.map_nil, List.sum_cons, List.sum_nil, mj_rfc, mj_ci, mj_cl]; done) | (simp only [List.map_cons, List.map_nil, List.sum_cons, List.sum_nil, mj_rfc, mj_ci, mj_cl]; decide)) id (mj_kI (fun x μ' hP e1 e2 => mj_lvs [0, 1, 2, 3] rfl (H x μ' hP e1 e2)))

set_option maxRecDepth 20000 in
theorem bk_W_law_668 {G : mj_G} {Ex : Option Value → mj_MM → Prop} {N S : Nat} {μ : mj_MM} {v1 : Option Nat} {v2 : Option Nat} {v3 : Int32} {s0 : Int32}
    (H : ((vp_in (v3 + 1) (G.2.2.1.2 2).2.1) ∧ (vp_in (v3 + 2) (G.2.2.1.2 2).2.1) ∧ ∃ b3 : Nat, (v2 = some b3) ∧ (mj_t μ b3 = 11) ∧ (∃ P : Int32 → mj_MM → Prop, mj_M G my_M_event mY_M_event [va_rf (some b3), .int ((G.2.2.1.2 2).2.2 (Int32.toNatClampNeg (v3 + 1))), .int ((G.2.2.1.2 2).2.2 (Int32.toNatClampNeg (v3 + 2)))] (mj_nc μ) (mj_ns μ) μ (mj_XI P) ∧ ∀ (x : Int32) (μ' : mj_MM), P x μ' → mj_nc μ' = mj_nc μ → mj_ns μ' = mj_ns μ → mj_J G mY_W_law Ex N S 682 [(0, va_rf (some (G.2.2.1.2 2).1)), (1, va_rf v1), (2, va_rf v2), (3, .int v3)] [.int x, .int s0] μ'))) :
    mj_J G mY_W_law Ex N S 668 [(0, va_rf (some (G.2.2.1.2 2).1)), (1, va_rf v1), (2, va_rf v2), (3, .int v3)] [.int s0] μ := by
  refine mj_aload_n 2 md_W_law_668 rfl ?_
  refine mj_aload_n 0 md_W_law_669 rfl ?_
  refine mj_iload_n 3 md_W_law_670 rfl ?_
  refine mj_iconst (v := 1) md_W_law_671 (by decide) ?_
  refine mj_iadd md_W_law_672 ?_
  obtain ⟨hi1, H⟩ := H
  refine mj_oldld (j := 2) rfl (by decide) rfl hi1 md_W_law_673 ?_
  refine mj_aload_n 0 md_W_law_674 rfl ?_
  refine mj_iload_n 3 md_W_law_675 rfl ?_
  refine mj_iconst (v := 2) md_W_law_676 (by decide) ?_
  refine mj_iadd md_W_law_677 ?_
  obtain ⟨hi2, H⟩ := H
  refine mj_oldld (j := 2) rfl (by decide) rfl hi2 md_W_law_678 ?_
  obtain ⟨b3, hb4, H⟩ := H
  obtain ⟨ht5, H⟩ := H
  obtain ⟨P, hM, H⟩ := H
  exact mj_callV (n := 2) (As := [.int ((G.2.2.1.2 2).2.2 (Int32.toNatClampNeg (v3 + 1))), .int ((G.2.2.1.2 2).2.2 (Int32.toNatClampNeg (v3 + 2)))]) hb4 hM kc_M ht5 ⟨tw_897, tw_8, tw_900, ⟨by decide, by decide, by decide +kernel⟩, by decide, by decide⟩ tw_898 tw_899 rfl md_W_law_679 (by first | decide | (simp only [List.map_cons, List.map_nil, List.sum_cons, List.sum_nil, mj_rfc, mj_ci, mj_cl]; done) | (simp only [List.map_cons, List.map_nil, List.sum_cons, List.sum_nil, mj_rfc, mj_ci, mj_cl]; decide)) id (mj_kI (fun x μ' hP e1 e2 => mj_lvs [0, 1, 2, 3] rfl (H x μ' hP e1 e2)))

set_option maxRecDepth 20000 in
theorem bk_W_law_696 {G : mj_G} {Ex : Option Value → mj_MM → Prop} {N S : Nat} {μ : mj_MM} {v1 : Option Nat} {v2 : Option Nat} {v3 : Int32} {s0 : Int32}
    (H : ((vp_in (v3 + 1) (G.2.2.1.2 2).2.1) ∧ ∃ b2 : Nat, (v2 = some b2) ∧ (mj_t μ b2 = 11) ∧ (∃ P : Int32 → mj_MM → Prop, mj_M G my_M_events mY_M_events [va_rf (some b2), .int ((G.2.2.1.2 2).2.2 (Int32.toNatClampNeg (v3 + 1)))] (mj_nc μ) (mj_ns μ) μ (mj_XI P) ∧ ∀ (x : Int32) (μ' : mj_MM), P x μ' → mj_nc μ' = mj_nc μ → mj_ns μ' = mj_ns μ → mj_J G mY_W_law Ex N S 705 [(0, va_rf (some (G.2.2.1.2 2).1)), (1, va_rf v1), (2, va_rf v2), (3, .int v3)] [.int x, .int s0] μ'))) :
    mj_J G mY_W_law Ex N S 696 [(0, va_rf (some (G.2.2.1.2 2).1)), (1, va_rf v1), (2, va_rf v2), (3, .int v3)] [.int s0] μ := by
  refine mj_aload_n 2 md_W_law_696 rfl ?_
  refine mj_aload_n 0 md_W_law_697 rfl ?_
  refine mj_iload_n 3 md_W_law_698 rfl ?_
  refine mj_iconst (v := 1) md_W_law_699 (by decide) ?_
  refine mj_iadd md_W_law_700 ?_
  obtain ⟨hi1, H⟩ := H
  refine mj_oldld (j := 2) rfl (by decide) rfl hi1 md_W_law_701 ?_
  obtain ⟨b2, hb3, H⟩ := H
  obtain ⟨ht4, H⟩ := H
  obtain ⟨P, hM, H⟩ := H
  exact mj_callV (n := 1) (As := [.int ((G.2.2.1.2 2).2.2 (Int32.toNatClampNeg (v3 + 1)))]) hb3 hM kc_M ht4 ⟨tw_902, tw_8, tw_905, ⟨by decide, by decide, by decide +kernel⟩, by decide, by decide⟩ tw_903 tw_904 rfl md_W_law_702 (by first | decide | (simp only [List.map_cons, List.map_nil, List.sum_cons, List.sum_nil, mj_rfc, mj_ci, mj_cl]; done) | (simp only [List.map_cons, List.map_nil, List.sum_cons, List.sum_nil, mj_rfc, mj_ci, mj_cl]; decide)) id (mj_kI (fun x μ' hP e1 e2 => mj_lvs [0, 1, 2, 3] rfl (H x μ' hP e1 e2)))

set_option maxRecDepth 20000 in
theorem bk_W_law_724 {G : mj_G} {Ex : Option Value → mj_MM → Prop} {N S : Nat} {μ : mj_MM} {v1 : Option Nat} {v2 : Option Nat} {v3 : Int32} {s0 : Int32}
    (H : ((vp_in (v3 + 1) (G.2.2.1.2 2).2.1) ∧ (vp_in (v3 + 2) (G.2.2.1.2 2).2.1) ∧ ∃ b3 : Nat, (v2 = some b3) ∧ (mj_t μ b3 = 11) ∧ (∃ P : Int32 → mj_MM → Prop, mj_M G my_M_code mY_M_code [va_rf (some b3), .int ((G.2.2.1.2 2).2.2 (Int32.toNatClampNeg (v3 + 1))), .int ((G.2.2.1.2 2).2.2 (Int32.toNatClampNeg (v3 + 2)))] (mj_nc μ) (mj_ns μ) μ (mj_XI P) ∧ ∀ (x : Int32) (μ' : mj_MM), P x μ' → mj_nc μ' = mj_nc μ → mj_ns μ' = mj_ns μ → mj_J G mY_W_law Ex N S 738 [(0, va_rf (some (G.2.2.1.2 2).1)), (1, va_rf v1), (2, va_rf v2), (3, .int v3)] [.int x, .int s0] μ'))) :
    mj_J G mY_W_law Ex N S 724 [(0, va_rf (some (G.2.2.1.2 2).1)), (1, va_rf v1), (2, va_rf v2), (3, .int v3)] [.int s0] μ := by
  refine mj_aload_n 2 md_W_law_724 rfl ?_
  refine mj_aload_n 0 md_W_law_725 rfl ?_
  refine mj_iload_n 3 md_W_law_726 rfl ?_
  refine mj_iconst (v := 1) md_W_law_727 (by decide) ?_
  refine mj_iadd md_W_law_728 ?_
  obtain ⟨hi1, H⟩ := H
  refine mj_oldld (j := 2) rfl (by decide) rfl hi1 md_W_law_729 ?_
  refine mj_aload_n 0 md_W_law_730 rfl ?_
  refine mj_iload_n 3 md_W_law_731 rfl ?_
  refine mj_iconst (v := 2) md_W_law_732 (by decide) ?_
  refine mj_iadd md_W_law_733 ?_
  obtain ⟨hi2, H⟩ := H
  refine mj_oldld (j := 2) rfl (by decide) rfl hi2 md_W_law_734 ?_
  obtain ⟨b3, hb4, H⟩ := H
  obtain ⟨ht5, H⟩ := H
  obtain ⟨P, hM, H⟩ := H
  exact mj_callV (n := 2) (As := [.int ((G.2.2.1.2 2).2.2 (Int32.toNatClampNeg (v3 + 1))), .int ((G.2.2.1.2 2).2.2 (Int32.toNatClampNeg (v3 + 2)))]) hb4 hM kc_M ht5 ⟨tw_906, tw_8, tw_909, ⟨by decide, by decide, by decide +kernel⟩, by decide, by decide⟩ tw_907 tw_908 rfl md_W_law_735 (by first | decide | (simp only [List.map_cons, List.map_nil, List.sum_cons, List.sum_nil, mj_rfc, mj_ci, mj_cl]; done) | (simp only [List.map_cons, List.map_nil, List.sum_cons, List.sum_nil, mj_rfc, mj_ci, mj_cl]; decide)) id (mj_kI (fun x μ' hP e1 e2 => mj_lvs [0, 1, 2, 3] rfl (H x μ' hP e1 e2)))

set_option maxRecDepth 20000 in
theorem bk_W_law_757 {G : mj_G} {Ex : Option Value → mj_MM → Prop} {N S : Nat} {μ : mj_MM} {v1 : Option Nat} {v2 : Option Nat} {v3 : Int32} {s0 : Int32}
    (H : ((vp_in (v3 + 1) (G.2.2.1.2 2).2.1) ∧ (vp_in (v3 + 2) (G.2.2.1.2 2).2.1) ∧ ∃ b3 : Nat, (v2 = some b3) ∧ (mj_t μ b3 = 11) ∧ (∃ P : Int32 → mj_MM → Prop, mj_M G my_M_order mY_M_order [va_rf (some b3), .int ((G.2.2.1.2 2).2.2 (Int32.toNatClampNeg (v3 + 1))), .int ((G.2.2.1.2 2).2.2 (Int32.toNatClampNeg (v3 + 2)))] (mj_nc μ) (mj_ns μ) μ (mj_XI P) ∧ ∀ (x : Int32) (μ' : mj_MM), P x μ' → mj_nc μ' = mj_nc μ → mj_ns μ' = mj_ns μ → mj_J G mY_W_law Ex N S 771 [(0, va_rf (some (G.2.2.1.2 2).1)), (1, va_rf v1), (2, va_rf v2), (3, .int v3)] [.int x, .int s0] μ'))) :
    mj_J G mY_W_law Ex N S 757 [(0, va_rf (some (G.2.2.1.2 2).1)), (1, va_rf v1), (2, va_rf v2), (3, .int v3)] [.int s0] μ := by
  refine mj_aload_n 2 md_W_law_757 rfl ?_
  refine mj_aload_n 0 md_W_law_758 rfl ?_
  refine mj_iload_n 3 md_W_law_759 rfl ?_
  refine mj_iconst (v := 1) md_W_law_760 (by decide) ?_
  refine mj_iadd md_W_law_761 ?_
  obtain ⟨hi1, H⟩ := H
  refine mj_oldld (j := 2) rfl (by decide) rfl hi1 md_W_law_762 ?_
  refine mj_aload_n 0 md_W_law_763 rfl ?_
  refine mj_iload_n 3 md_W_law_764 rfl ?_
  refine mj_iconst (v := 2) md_W_law_765 (by decide) ?_
  refine mj_iadd md_W_law_766 ?_
  obtain ⟨hi2, H⟩ := H
  refine mj_oldld (j := 2) rfl (by decide) rfl hi2 md_W_law_767 ?_
  obtain ⟨b3, hb4, H⟩ := H
  obtain ⟨ht5, H⟩ := H
  obtain ⟨P, hM, H⟩ := H
  exact mj_callV (n := 2) (As := [.int ((G.2.2.1.2 2).2.2 (Int32.toNatClampNeg (v3 + 1))), .int ((G.2.2.1.2 2).2.2 (Int32.toNatClampNeg (v3 + 2)))]) hb4 hM kc_M ht5 ⟨tw_910, tw_8, tw_913, ⟨by decide, by decide, by decide +kernel⟩, by decide, by decide⟩ tw_911 tw_912 rfl md_W_law_768 (by first | decide | (simp only [List.map_cons, List.map_nil, List.sum_cons, List.sum_nil, mj_rfc, mj_ci, mj_cl]; done) | (simp only [List.map_cons, List.map_nil, List.sum_cons, List.sum_nil, mj_rfc, mj_ci, mj_cl]; decide)) id (mj_kI (fun x μ' hP e1 e2 => mj_lvs [0, 1, 2, 3] rfl (H x μ' hP e1 e2)))

set_option maxRecDepth 20000 in
theorem bk_W_law_790 {G : mj_G} {Ex : Option Value → mj_MM → Prop} {N S : Nat} {μ : mj_MM} {v1 : Option Nat} {v2 : Option Nat} {v3 : Int32} {s0 : Int32}
    (H : ((vp_in (v3 + 1) (G.2.2.1.2 2).2.1) ∧ (vp_in (v3 + 2) (G.2.2.1.2 2).2.1) ∧ ∃ b3 : Nat, (v2 = some b3) ∧ (mj_t μ b3 = 11) ∧ (∃ P : Int32 → mj_MM → Prop, mj_M G my_M_spin mY_M_spin [va_rf (some b3), .int ((G.2.2.1.2 2).2.2 (Int32.toNatClampNeg (v3 + 1))), .int ((G.2.2.1.2 2).2.2 (Int32.toNatClampNeg (v3 + 2)))] (mj_nc μ) (mj_ns μ) μ (mj_XI P) ∧ ∀ (x : Int32) (μ' : mj_MM), P x μ' → mj_nc μ' = mj_nc μ → mj_ns μ' = mj_ns μ → mj_J G mY_W_law Ex N S 804 [(0, va_rf (some (G.2.2.1.2 2).1)), (1, va_rf v1), (2, va_rf v2), (3, .int v3)] [.int x, .int s0] μ'))) :
    mj_J G mY_W_law Ex N S 790 [(0, va_rf (some (G.2.2.1.2 2).1)), (1, va_rf v1), (2, va_rf v2), (3, .int v3)] [.int s0] μ := by
  refine mj_aload_n 2 md_W_law_790 rfl ?_
  refine mj_aload_n 0 md_W_law_791 rfl ?_
  refine mj_iload_n 3 md_W_law_792 rfl ?_
  refine mj_iconst (v := 1) md_W_law_793 (by decide) ?_
  refine mj_iadd md_W_law_794 ?_
  obtain ⟨hi1, H⟩ := H
  refine mj_oldld (j := 2) rfl (by decide) rfl hi1 md_W_law_795 ?_
  refine mj_aload_n 0 md_W_law_796 rfl ?_
  refine mj_iload_n 3 md_W_law_797 rfl ?_
  refine mj_iconst (v := 2) md_W_law_798 (by decide) ?_
  refine mj_iadd md_W_law_799 ?_
  obtain ⟨hi2, H⟩ := H
  refine mj_oldld (j := 2) rfl (by decide) rfl hi2 md_W_law_800 ?_
  obtain ⟨b3, hb4, H⟩ := H
  obtain ⟨ht5, H⟩ := H
  obtain ⟨P, hM, H⟩ := H
  exact mj_callV (n := 2) (As := [.int ((G.2.2.1.2 2).2.2 (Int32.toNatClampNeg (v3 + 1))), .int ((G.2.2.1.2 2).2.2 (Int32.toNatClampNeg (v3 + 2)))]) hb4 hM kc_M ht5 ⟨tw_918, tw_8, tw_921, ⟨by decide, by decide, by decide +kernel⟩, by decide, by decide⟩ tw_919 tw_920 rfl md_W_law_801 (by first | decide | (simp only [List.map_cons, List.map_nil, List.sum_cons, List.sum_nil, mj_rfc, mj_ci, mj_cl]; done) | (simp only [List.map_cons, List.map_nil, List.sum_cons, List.sum_nil, mj_rfc, mj_ci, mj_cl]; decide)) id (mj_kI (fun x μ' hP e1 e2 => mj_lvs [0, 1, 2, 3] rfl (H x μ' hP e1 e2)))

set_option maxRecDepth 20000 in
theorem bk_W_law_818 {G : mj_G} {Ex : Option Value → mj_MM → Prop} {N S : Nat} {μ : mj_MM} {v1 : Option Nat} {v2 : Option Nat} {v3 : Int32} {s0 : Int32}
    (H : ((vp_in (v3 + 1) (G.2.2.1.2 2).2.1) ∧ ∃ b2 : Nat, (v2 = some b2) ∧ (mj_t μ b2 = 11) ∧ (∃ P : Int32 → mj_MM → Prop, mj_M G my_M_holder mY_M_holder [va_rf (some b2), .int ((G.2.2.1.2 2).2.2 (Int32.toNatClampNeg (v3 + 1)))] (mj_nc μ) (mj_ns μ) μ (mj_XI P) ∧ ∀ (x : Int32) (μ' : mj_MM), P x μ' → mj_nc μ' = mj_nc μ → mj_ns μ' = mj_ns μ → mj_J G mY_W_law Ex N S 827 [(0, va_rf (some (G.2.2.1.2 2).1)), (1, va_rf v1), (2, va_rf v2), (3, .int v3)] [.int x, .int s0] μ'))) :
    mj_J G mY_W_law Ex N S 818 [(0, va_rf (some (G.2.2.1.2 2).1)), (1, va_rf v1), (2, va_rf v2), (3, .int v3)] [.int s0] μ := by
  refine mj_aload_n 2 md_W_law_818 rfl ?_
  refine mj_aload_n 0 md_W_law_819 rfl ?_
  refine mj_iload_n 3 md_W_law_820 rfl ?_
  refine mj_iconst (v := 1) md_W_law_821 (by decide) ?_
  refine mj_iadd md_W_law_822 ?_
  obtain ⟨hi1, H⟩ := H
  refine mj_oldld (j := 2) rfl (by decide) rfl hi1 md_W_law_823 ?_
  obtain ⟨b2, hb3, H⟩ := H
  obtain ⟨ht4, H⟩ := H
  obtain ⟨P, hM, H⟩ := H
  exact mj_callV (n := 1) (As := [.int ((G.2.2.1.2 2).2.2 (Int32.toNatClampNeg (v3 + 1)))]) hb3 hM kc_M ht4 ⟨tw_922, tw_8, tw_925, ⟨by decide, by decide, by decide +kernel⟩, by decide, by decide⟩ tw_923 tw_924 rfl md_W_law_824 (by first | decide | (simp only [List.map_cons, List.map_nil, List.sum_cons, List.sum_nil, mj_rfc, mj_ci, mj_cl]; done) | (simp only [List.map_cons, List.map_nil, List.sum_cons, List.sum_nil, mj_rfc, mj_ci, mj_cl]; decide)) id (mj_kI (fun x μ' hP e1 e2 => mj_lvs [0, 1, 2, 3] rfl (H x μ' hP e1 e2)))

set_option maxRecDepth 20000 in
theorem bk_W_law_184 {G : mj_G} {Ex : Option Value → mj_MM → Prop} {N S : Nat} {μ : mj_MM} {v1 : Option Nat} {v2 : Option Nat} {v3 : Int32} {s0 : Int32} {s1 : Int32}
    (H : ((s1 = s0 → mj_J G mY_W_law Ex N S 28 [(0, va_rf (some (G.2.2.1.2 2).1)), (1, va_rf v1), (2, va_rf v2), (3, .int (v3 + 6))] [] μ) ∧ (¬ s1 = s0 → Ex (some (.int 0)) μ))) :
    mj_J G mY_W_law Ex N S 184 [(0, va_rf (some (G.2.2.1.2 2).1)), (1, va_rf v1), (2, va_rf v2), (3, .int v3)] [.int s0, .int s1] μ := by
  obtain ⟨H1, H2⟩ := H
  refine mj_icmp_eq (tgt := 832) md_W_law_184 (by decide) (fun hx => ?_) (fun hx => ?_)
  · replace H := H1 hx
    refine mj_iinc (j := 3) (v := v3 + 6) (lv' := [(3, .int (v3 + 6)), (0, va_rf (some (G.2.2.1.2 2).1)), (1, va_rf v1), (2, va_rf v2)]) md_W_law_832 rfl rfl (by decide) (by first | rfl | (simp [mj_rfc]; done) | (simp [mj_rfc]; rfl)) ?_
    refine mj_goto (tgt := 28) md_W_law_835 (by decide) ?_
    exact mj_lvs [1, 2, 3, 0] rfl H
  · replace H := H2 hx
    refine mj_iconst (v := 0) md_W_law_187 (by decide) ?_
    exact mj_ireturn md_W_law_188 rfl (by decide) H

set_option maxRecDepth 20000 in
theorem bk_W_law_257 {G : mj_G} {Ex : Option Value → mj_MM → Prop} {N S : Nat} {μ : mj_MM} {v1 : Option Nat} {v2 : Option Nat} {v3 : Int32} {s0 : Int32} {s1 : Int32}
    (H : ((s1 = s0 → mj_J G mY_W_law Ex N S 28 [(0, va_rf (some (G.2.2.1.2 2).1)), (1, va_rf v1), (2, va_rf v2), (3, .int (v3 + 6))] [] μ) ∧ (¬ s1 = s0 → Ex (some (.int 0)) μ))) :
    mj_J G mY_W_law Ex N S 257 [(0, va_rf (some (G.2.2.1.2 2).1)), (1, va_rf v1), (2, va_rf v2), (3, .int v3)] [.int s0, .int s1] μ := by
  obtain ⟨H1, H2⟩ := H
  refine mj_icmp_eq (tgt := 832) md_W_law_257 (by decide) (fun hx => ?_) (fun hx => ?_)
  · replace H := H1 hx
    refine mj_iinc (j := 3) (v := v3 + 6) (lv' := [(3, .int (v3 + 6)), (0, va_rf (some (G.2.2.1.2 2).1)), (1, va_rf v1), (2, va_rf v2)]) md_W_law_832 rfl rfl (by decide) (by first | rfl | (simp [mj_rfc]; done) | (simp [mj_rfc]; rfl)) ?_
    refine mj_goto (tgt := 28) md_W_law_835 (by decide) ?_
    exact mj_lvs [1, 2, 3, 0] rfl H
  · replace H := H2 hx
    refine mj_iconst (v := 0) md_W_law_260 (by decide) ?_
    exact mj_ireturn md_W_law_261 rfl (by decide) H

set_option maxRecDepth 20000 in
theorem bk_W_law_306 {G : mj_G} {Ex : Option Value → mj_MM → Prop} {N S : Nat} {μ : mj_MM} {v1 : Option Nat} {v2 : Option Nat} {v3 : Int32} {s0 : Int32} {s1 : Int32}
    (H : ((s1 = s0 → mj_J G mY_W_law Ex N S 28 [(0, va_rf (some (G.2.2.1.2 2).1)), (1, va_rf v1), (2, va_rf v2), (3, .int (v3 + 6))] [] μ) ∧ (¬ s1 = s0 → Ex (some (.int 0)) μ))) :
    mj_J G mY_W_law Ex N S 306 [(0, va_rf (some (G.2.2.1.2 2).1)), (1, va_rf v1), (2, va_rf v2), (3, .int v3)] [.int s0, .int s1] μ := by
  obtain ⟨H1, H2⟩ := H
  refine mj_icmp_eq (tgt := 832) md_W_law_306 (by decide) (fun hx => ?_) (fun hx => ?_)
  · replace H := H1 hx
    refine mj_iinc (j := 3) (v := v3 + 6) (lv' := [(3, .int (v3 + 6)), (0, va_rf (some (G.2.2.1.2 2).1)), (1, va_rf v1), (2, va_rf v2)]) md_W_law_832 rfl rfl (by decide) (by first | rfl | (simp [mj_rfc]; done) | (simp [mj_rfc]; rfl)) ?_
    refine mj_goto (tgt := 28) md_W_law_835 (by decide) ?_
    exact mj_lvs [1, 2, 3, 0] rfl H
  · replace H := H2 hx
    refine mj_iconst (v := 0) md_W_law_309 (by decide) ?_
    exact mj_ireturn md_W_law_310 rfl (by decide) H

set_option maxRecDepth 20000 in
theorem bk_W_law_369 {G : mj_G} {Ex : Option Value → mj_MM → Prop} {N S : Nat} {μ : mj_MM} {v1 : Option Nat} {v2 : Option Nat} {v3 : Int32} {s0 : Int32} {s1 : Int32}
    (H : ((s1 = s0 → mj_J G mY_W_law Ex N S 28 [(0, va_rf (some (G.2.2.1.2 2).1)), (1, va_rf v1), (2, va_rf v2), (3, .int (v3 + 6))] [] μ) ∧ (¬ s1 = s0 → Ex (some (.int 0)) μ))) :
    mj_J G mY_W_law Ex N S 369 [(0, va_rf (some (G.2.2.1.2 2).1)), (1, va_rf v1), (2, va_rf v2), (3, .int v3)] [.int s0, .int s1] μ := by
  obtain ⟨H1, H2⟩ := H
  refine mj_icmp_eq (tgt := 832) md_W_law_369 (by decide) (fun hx => ?_) (fun hx => ?_)
  · replace H := H1 hx
    refine mj_iinc (j := 3) (v := v3 + 6) (lv' := [(3, .int (v3 + 6)), (0, va_rf (some (G.2.2.1.2 2).1)), (1, va_rf v1), (2, va_rf v2)]) md_W_law_832 rfl rfl (by decide) (by first | rfl | (simp [mj_rfc]; done) | (simp [mj_rfc]; rfl)) ?_
    refine mj_goto (tgt := 28) md_W_law_835 (by decide) ?_
    exact mj_lvs [1, 2, 3, 0] rfl H
  · replace H := H2 hx
    refine mj_iconst (v := 0) md_W_law_372 (by decide) ?_
    exact mj_ireturn md_W_law_373 rfl (by decide) H

set_option maxRecDepth 20000 in
theorem bk_W_law_472 {G : mj_G} {Ex : Option Value → mj_MM → Prop} {N S : Nat} {μ : mj_MM} {v1 : Option Nat} {v2 : Option Nat} {v3 : Int32} {s0 : Int32} {s1 : Int32}
    (H : ((s1 = s0 → mj_J G mY_W_law Ex N S 28 [(0, va_rf (some (G.2.2.1.2 2).1)), (1, va_rf v1), (2, va_rf v2), (3, .int (v3 + 6))] [] μ) ∧ (¬ s1 = s0 → Ex (some (.int 0)) μ))) :
    mj_J G mY_W_law Ex N S 472 [(0, va_rf (some (G.2.2.1.2 2).1)), (1, va_rf v1), (2, va_rf v2), (3, .int v3)] [.int s0, .int s1] μ := by
  obtain ⟨H1, H2⟩ := H
  refine mj_icmp_eq (tgt := 832) md_W_law_472 (by decide) (fun hx => ?_) (fun hx => ?_)
  · replace H := H1 hx
    refine mj_iinc (j := 3) (v := v3 + 6) (lv' := [(3, .int (v3 + 6)), (0, va_rf (some (G.2.2.1.2 2).1)), (1, va_rf v1), (2, va_rf v2)]) md_W_law_832 rfl rfl (by decide) (by first | rfl | (simp [mj_rfc]; done) | (simp [mj_rfc]; rfl)) ?_
    refine mj_goto (tgt := 28) md_W_law_835 (by decide) ?_
    exact mj_lvs [1, 2, 3, 0] rfl H
  · replace H := H2 hx
    refine mj_iconst (v := 0) md_W_law_475 (by decide) ?_
    exact mj_ireturn md_W_law_476 rfl (by decide) H

set_option maxRecDepth 20000 in
theorem bk_W_law_525 {G : mj_G} {Ex : Option Value → mj_MM → Prop} {N S : Nat} {μ : mj_MM} {v1 : Option Nat} {v2 : Option Nat} {v3 : Int32} {s0 : Int32} {s1 : Int32}
    (H : ((s1 = s0 → mj_J G mY_W_law Ex N S 28 [(0, va_rf (some (G.2.2.1.2 2).1)), (1, va_rf v1), (2, va_rf v2), (3, .int (v3 + 6))] [] μ) ∧ (¬ s1 = s0 → Ex (some (.int 0)) μ))) :
    mj_J G mY_W_law Ex N S 525 [(0, va_rf (some (G.2.2.1.2 2).1)), (1, va_rf v1), (2, va_rf v2), (3, .int v3)] [.int s0, .int s1] μ := by
  obtain ⟨H1, H2⟩ := H
  refine mj_icmp_eq (tgt := 832) md_W_law_525 (by decide) (fun hx => ?_) (fun hx => ?_)
  · replace H := H1 hx
    refine mj_iinc (j := 3) (v := v3 + 6) (lv' := [(3, .int (v3 + 6)), (0, va_rf (some (G.2.2.1.2 2).1)), (1, va_rf v1), (2, va_rf v2)]) md_W_law_832 rfl rfl (by decide) (by first | rfl | (simp [mj_rfc]; done) | (simp [mj_rfc]; rfl)) ?_
    refine mj_goto (tgt := 28) md_W_law_835 (by decide) ?_
    exact mj_lvs [1, 2, 3, 0] rfl H
  · replace H := H2 hx
    refine mj_iconst (v := 0) md_W_law_528 (by decide) ?_
    exact mj_ireturn md_W_law_529 rfl (by decide) H

set_option maxRecDepth 20000 in
theorem bk_W_law_538 {G : mj_G} {Ex : Option Value → mj_MM → Prop} {N S : Nat} {μ : mj_MM} {v1 : Option Nat} {v2 : Option Nat} {v3 : Int32} {s0 : Int64} {s1 : Int64}
    (H : ((s1 = s0 → mj_J G mY_W_law Ex N S 28 [(0, va_rf (some (G.2.2.1.2 2).1)), (1, va_rf v1), (2, va_rf v2), (3, .int (v3 + 6))] [] μ) ∧ (¬ s1 = s0 → Ex (some (.int 0)) μ))) :
    mj_J G mY_W_law Ex N S 538 [(0, va_rf (some (G.2.2.1.2 2).1)), (1, va_rf v1), (2, va_rf v2), (3, .int v3)] [.long s0, .long s1] μ := by
  refine mj_lcmp md_W_law_538 ?_
  obtain ⟨H1, H2⟩ := H
  refine mj_if_eq (tgt := 832) md_W_law_539 (by decide) (fun hx => ?_) (fun hx => ?_)
  · replace H := H1 ((lg_cmp_eq s1 s0).mp hx)
    refine mj_iinc (j := 3) (v := v3 + 6) (lv' := [(3, .int (v3 + 6)), (0, va_rf (some (G.2.2.1.2 2).1)), (1, va_rf v1), (2, va_rf v2)]) md_W_law_832 rfl rfl (by decide) (by first | rfl | (simp [mj_rfc]; done) | (simp [mj_rfc]; rfl)) ?_
    refine mj_goto (tgt := 28) md_W_law_835 (by decide) ?_
    exact mj_lvs [1, 2, 3, 0] rfl H
  · replace H := H2 (fun hy => hx ((lg_cmp_eq s1 s0).mpr hy))
    refine mj_iconst (v := 0) md_W_law_542 (by decide) ?_
    exact mj_ireturn md_W_law_543 rfl (by decide) H

set_option maxRecDepth 20000 in
theorem bk_W_law_602 {G : mj_G} {Ex : Option Value → mj_MM → Prop} {N S : Nat} {μ : mj_MM} {v1 : Option Nat} {v2 : Option Nat} {v3 : Int32} {s0 : Int32} {s1 : Int32}
    (H : ((s1 = s0 → mj_J G mY_W_law Ex N S 28 [(0, va_rf (some (G.2.2.1.2 2).1)), (1, va_rf v1), (2, va_rf v2), (3, .int (v3 + 6))] [] μ) ∧ (¬ s1 = s0 → Ex (some (.int 0)) μ))) :
    mj_J G mY_W_law Ex N S 602 [(0, va_rf (some (G.2.2.1.2 2).1)), (1, va_rf v1), (2, va_rf v2), (3, .int v3)] [.int s0, .int s1] μ := by
  obtain ⟨H1, H2⟩ := H
  refine mj_icmp_eq (tgt := 832) md_W_law_602 (by decide) (fun hx => ?_) (fun hx => ?_)
  · replace H := H1 hx
    refine mj_iinc (j := 3) (v := v3 + 6) (lv' := [(3, .int (v3 + 6)), (0, va_rf (some (G.2.2.1.2 2).1)), (1, va_rf v1), (2, va_rf v2)]) md_W_law_832 rfl rfl (by decide) (by first | rfl | (simp [mj_rfc]; done) | (simp [mj_rfc]; rfl)) ?_
    refine mj_goto (tgt := 28) md_W_law_835 (by decide) ?_
    exact mj_lvs [1, 2, 3, 0] rfl H
  · replace H := H2 hx
    refine mj_iconst (v := 0) md_W_law_605 (by decide) ?_
    exact mj_ireturn md_W_law_606 rfl (by decide) H

set_option maxRecDepth 20000 in
theorem bk_W_law_625 {G : mj_G} {Ex : Option Value → mj_MM → Prop} {N S : Nat} {μ : mj_MM} {v1 : Option Nat} {v2 : Option Nat} {v3 : Int32} {s0 : Int64} {s1 : Int64}
    (H : ((s1 = s0 → mj_J G mY_W_law Ex N S 28 [(0, va_rf (some (G.2.2.1.2 2).1)), (1, va_rf v1), (2, va_rf v2), (3, .int (v3 + 6))] [] μ) ∧ (¬ s1 = s0 → Ex (some (.int 0)) μ))) :
    mj_J G mY_W_law Ex N S 625 [(0, va_rf (some (G.2.2.1.2 2).1)), (1, va_rf v1), (2, va_rf v2), (3, .int v3)] [.long s0, .long s1] μ := by
  refine mj_lcmp md_W_law_625 ?_
  obtain ⟨H1, H2⟩ := H
  refine mj_if_eq (tgt := 832) md_W_law_626 (by decide) (fun hx => ?_) (fun hx => ?_)
  · replace H := H1 ((lg_cmp_eq s1 s0).mp hx)
    refine mj_iinc (j := 3) (v := v3 + 6) (lv' := [(3, .int (v3 + 6)), (0, va_rf (some (G.2.2.1.2 2).1)), (1, va_rf v1), (2, va_rf v2)]) md_W_law_832 rfl rfl (by decide) (by first | rfl | (simp [mj_rfc]; done) | (simp [mj_rfc]; rfl)) ?_
    refine mj_goto (tgt := 28) md_W_law_835 (by decide) ?_
    exact mj_lvs [1, 2, 3, 0] rfl H
  · replace H := H2 (fun hy => hx ((lg_cmp_eq s1 s0).mpr hy))
    refine mj_iconst (v := 0) md_W_law_629 (by decide) ?_
    exact mj_ireturn md_W_law_630 rfl (by decide) H

set_option maxRecDepth 20000 in
theorem bk_W_law_649 {G : mj_G} {Ex : Option Value → mj_MM → Prop} {N S : Nat} {μ : mj_MM} {v1 : Option Nat} {v2 : Option Nat} {v3 : Int32} {s0 : Int32} {s1 : Int32}
    (H : ((s1 = s0 → mj_J G mY_W_law Ex N S 28 [(0, va_rf (some (G.2.2.1.2 2).1)), (1, va_rf v1), (2, va_rf v2), (3, .int (v3 + 6))] [] μ) ∧ (¬ s1 = s0 → Ex (some (.int 0)) μ))) :
    mj_J G mY_W_law Ex N S 649 [(0, va_rf (some (G.2.2.1.2 2).1)), (1, va_rf v1), (2, va_rf v2), (3, .int v3)] [.int s0, .int s1] μ := by
  obtain ⟨H1, H2⟩ := H
  refine mj_icmp_eq (tgt := 832) md_W_law_649 (by decide) (fun hx => ?_) (fun hx => ?_)
  · replace H := H1 hx
    refine mj_iinc (j := 3) (v := v3 + 6) (lv' := [(3, .int (v3 + 6)), (0, va_rf (some (G.2.2.1.2 2).1)), (1, va_rf v1), (2, va_rf v2)]) md_W_law_832 rfl rfl (by decide) (by first | rfl | (simp [mj_rfc]; done) | (simp [mj_rfc]; rfl)) ?_
    refine mj_goto (tgt := 28) md_W_law_835 (by decide) ?_
    exact mj_lvs [1, 2, 3, 0] rfl H
  · replace H := H2 hx
    refine mj_iconst (v := 0) md_W_law_652 (by decide) ?_
    exact mj_ireturn md_W_law_653 rfl (by decide) H

set_option maxRecDepth 20000 in
theorem bk_W_law_682 {G : mj_G} {Ex : Option Value → mj_MM → Prop} {N S : Nat} {μ : mj_MM} {v1 : Option Nat} {v2 : Option Nat} {v3 : Int32} {s0 : Int32} {s1 : Int32}
    (H : ((s1 = s0 → mj_J G mY_W_law Ex N S 28 [(0, va_rf (some (G.2.2.1.2 2).1)), (1, va_rf v1), (2, va_rf v2), (3, .int (v3 + 6))] [] μ) ∧ (¬ s1 = s0 → Ex (some (.int 0)) μ))) :
    mj_J G mY_W_law Ex N S 682 [(0, va_rf (some (G.2.2.1.2 2).1)), (1, va_rf v1), (2, va_rf v2), (3, .int v3)] [.int s0, .int s1] μ := by
  obtain ⟨H1, H2⟩ := H
  refine mj_icmp_eq (tgt := 832) md_W_law_682 (by decide) (fun hx => ?_) (fun hx => ?_)
  · replace H := H1 hx
    refine mj_iinc (j := 3) (v := v3 + 6) (lv' := [(3, .int (v3 + 6)), (0, va_rf (some (G.2.2.1.2 2).1)), (1, va_rf v1), (2, va_rf v2)]) md_W_law_832 rfl rfl (by decide) (by first | rfl | (simp [mj_rfc]; done) | (simp [mj_rfc]; rfl)) ?_
    refine mj_goto (tgt := 28) md_W_law_835 (by decide) ?_
    exact mj_lvs [1, 2, 3, 0] rfl H
  · replace H := H2 hx
    refine mj_iconst (v := 0) md_W_law_685 (by decide) ?_
    exact mj_ireturn md_W_law_686 rfl (by decide) H

set_option maxRecDepth 20000 in
theorem bk_W_law_705 {G : mj_G} {Ex : Option Value → mj_MM → Prop} {N S : Nat} {μ : mj_MM} {v1 : Option Nat} {v2 : Option Nat} {v3 : Int32} {s0 : Int32} {s1 : Int32}
    (H : ((s1 = s0 → mj_J G mY_W_law Ex N S 28 [(0, va_rf (some (G.2.2.1.2 2).1)), (1, va_rf v1), (2, va_rf v2), (3, .int (v3 + 6))] [] μ) ∧ (¬ s1 = s0 → Ex (some (.int 0)) μ))) :
    mj_J G mY_W_law Ex N S 705 [(0, va_rf (some (G.2.2.1.2 2).1)), (1, va_rf v1), (2, va_rf v2), (3, .int v3)] [.int s0, .int s1] μ := by
  obtain ⟨H1, H2⟩ := H
  refine mj_icmp_eq (tgt := 832) md_W_law_705 (by decide) (fun hx => ?_) (fun hx => ?_)
  · replace H := H1 hx
    refine mj_iinc (j := 3) (v := v3 + 6) (lv' := [(3, .int (v3 + 6)), (0, va_rf (some (G.2.2.1.2 2).1)), (1, va_rf v1), (2, va_rf v2)]) md_W_law_832 rfl rfl (by decide) (by first | rfl | (simp [mj_rfc]; done) | (simp [mj_rfc]; rfl)) ?_
    refine mj_goto (tgt := 28) md_W_law_835 (by decide) ?_
    exact mj_lvs [1, 2, 3, 0] rfl H
  · replace H := H2 hx
    refine mj_iconst (v := 0) md_W_law_708 (by decide) ?_
    exact mj_ireturn md_W_law_709 rfl (by decide) H

set_option maxRecDepth 20000 in
theorem bk_W_law_738 {G : mj_G} {Ex : Option Value → mj_MM → Prop} {N S : Nat} {μ : mj_MM} {v1 : Option Nat} {v2 : Option Nat} {v3 : Int32} {s0 : Int32} {s1 : Int32}
    (H : ((s1 = s0 → mj_J G mY_W_law Ex N S 28 [(0, va_rf (some (G.2.2.1.2 2).1)), (1, va_rf v1), (2, va_rf v2), (3, .int (v3 + 6))] [] μ) ∧ (¬ s1 = s0 → Ex (some (.int 0)) μ))) :
    mj_J G mY_W_law Ex N S 738 [(0, va_rf (some (G.2.2.1.2 2).1)), (1, va_rf v1), (2, va_rf v2), (3, .int v3)] [.int s0, .int s1] μ := by
  obtain ⟨H1, H2⟩ := H
  refine mj_icmp_eq (tgt := 832) md_W_law_738 (by decide) (fun hx => ?_) (fun hx => ?_)
  · replace H := H1 hx
    refine mj_iinc (j := 3) (v := v3 + 6) (lv' := [(3, .int (v3 + 6)), (0, va_rf (some (G.2.2.1.2 2).1)), (1, va_rf v1), (2, va_rf v2)]) md_W_law_832 rfl rfl (by decide) (by first | rfl | (simp [mj_rfc]; done) | (simp [mj_rfc]; rfl)) ?_
    refine mj_goto (tgt := 28) md_W_law_835 (by decide) ?_
    exact mj_lvs [1, 2, 3, 0] rfl H
  · replace H := H2 hx
    refine mj_iconst (v := 0) md_W_law_741 (by decide) ?_
    exact mj_ireturn md_W_law_742 rfl (by decide) H

set_option maxRecDepth 20000 in
theorem bk_W_law_771 {G : mj_G} {Ex : Option Value → mj_MM → Prop} {N S : Nat} {μ : mj_MM} {v1 : Option Nat} {v2 : Option Nat} {v3 : Int32} {s0 : Int32} {s1 : Int32}
    (H : ((s1 = s0 → mj_J G mY_W_law Ex N S 28 [(0, va_rf (some (G.2.2.1.2 2).1)), (1, va_rf v1), (2, va_rf v2), (3, .int (v3 + 6))] [] μ) ∧ (¬ s1 = s0 → Ex (some (.int 0)) μ))) :
    mj_J G mY_W_law Ex N S 771 [(0, va_rf (some (G.2.2.1.2 2).1)), (1, va_rf v1), (2, va_rf v2), (3, .int v3)] [.int s0, .int s1] μ := by
  obtain ⟨H1, H2⟩ := H
  refine mj_icmp_eq (tgt := 832) md_W_law_771 (by decide) (fun hx => ?_) (fun hx => ?_)
  · replace H := H1 hx
    refine mj_iinc (j := 3) (v := v3 + 6) (lv' := [(3, .int (v3 + 6)), (0, va_rf (some (G.2.2.1.2 2).1)), (1, va_rf v1), (2, va_rf v2)]) md_W_law_832 rfl rfl (by decide) (by first | rfl | (simp [mj_rfc]; done) | (simp [mj_rfc]; rfl)) ?_
    refine mj_goto (tgt := 28) md_W_law_835 (by decide) ?_
    exact mj_lvs [1, 2, 3, 0] rfl H
  · replace H := H2 hx
    refine mj_iconst (v := 0) md_W_law_774 (by decide) ?_
    exact mj_ireturn md_W_law_775 rfl (by decide) H

set_option maxRecDepth 20000 in
theorem bk_W_law_804 {G : mj_G} {Ex : Option Value → mj_MM → Prop} {N S : Nat} {μ : mj_MM} {v1 : Option Nat} {v2 : Option Nat} {v3 : Int32} {s0 : Int32} {s1 : Int32}
    (H : ((s1 = s0 → mj_J G mY_W_law Ex N S 28 [(0, va_rf (some (G.2.2.1.2 2).1)), (1, va_rf v1), (2, va_rf v2), (3, .int (v3 + 6))] [] μ) ∧ (¬ s1 = s0 → Ex (some (.int 0)) μ))) :
    mj_J G mY_W_law Ex N S 804 [(0, va_rf (some (G.2.2.1.2 2).1)), (1, va_rf v1), (2, va_rf v2), (3, .int v3)] [.int s0, .int s1] μ := by
  obtain ⟨H1, H2⟩ := H
  refine mj_icmp_eq (tgt := 832) md_W_law_804 (by decide) (fun hx => ?_) (fun hx => ?_)
  · replace H := H1 hx
    refine mj_iinc (j := 3) (v := v3 + 6) (lv' := [(3, .int (v3 + 6)), (0, va_rf (some (G.2.2.1.2 2).1)), (1, va_rf v1), (2, va_rf v2)]) md_W_law_832 rfl rfl (by decide) (by first | rfl | (simp [mj_rfc]; done) | (simp [mj_rfc]; rfl)) ?_
    refine mj_goto (tgt := 28) md_W_law_835 (by decide) ?_
    exact mj_lvs [1, 2, 3, 0] rfl H
  · replace H := H2 hx
    refine mj_iconst (v := 0) md_W_law_807 (by decide) ?_
    exact mj_ireturn md_W_law_808 rfl (by decide) H

set_option maxRecDepth 20000 in
theorem bk_W_law_827 {G : mj_G} {Ex : Option Value → mj_MM → Prop} {N S : Nat} {μ : mj_MM} {v1 : Option Nat} {v2 : Option Nat} {v3 : Int32} {s0 : Int32} {s1 : Int32}
    (H : ((s1 = s0 → mj_J G mY_W_law Ex N S 28 [(0, va_rf (some (G.2.2.1.2 2).1)), (1, va_rf v1), (2, va_rf v2), (3, .int (v3 + 6))] [] μ) ∧ (¬ s1 = s0 → Ex (some (.int 0)) μ))) :
    mj_J G mY_W_law Ex N S 827 [(0, va_rf (some (G.2.2.1.2 2).1)), (1, va_rf v1), (2, va_rf v2), (3, .int v3)] [.int s0, .int s1] μ := by
  obtain ⟨H1, H2⟩ := H
  refine mj_icmp_eq (tgt := 832) md_W_law_827 (by decide) (fun hx => ?_) (fun hx => ?_)
  · replace H := H1 hx
    refine mj_iinc (j := 3) (v := v3 + 6) (lv' := [(3, .int (v3 + 6)), (0, va_rf (some (G.2.2.1.2 2).1)), (1, va_rf v1), (2, va_rf v2)]) md_W_law_832 rfl rfl (by decide) (by first | rfl | (simp [mj_rfc]; done) | (simp [mj_rfc]; rfl)) ?_
    refine mj_goto (tgt := 28) md_W_law_835 (by decide) ?_
    exact mj_lvs [1, 2, 3, 0] rfl H
  · replace H := H2 hx
    refine mj_iconst (v := 0) md_W_law_830 (by decide) ?_
    exact mj_ireturn md_W_law_831 rfl (by decide) H
