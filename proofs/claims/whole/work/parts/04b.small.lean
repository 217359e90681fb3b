set_option maxRecDepth 20000 in
theorem bk_C_init_0 {G : mj_G} {Ex : Option Value → mj_MM → Prop} {N S : Nat} {μ : mj_MM} {h0 : Nat} {v1 : Int32}
    (H : ((mj_nc μ + 1 ≤ N ∧ mj_ns μ + 3 ≤ S) ∧ ∀ a2 : Nat, mj_t μ a2 = 0 → (∃ (N' S' : Nat) (P : mj_MM → Prop), mj_M G my_G_init mY_G_init [va_rf (some a2), .int 50000] N' S' (mj_new μ a2 6 0 3) (mj_XV P) ∧ (N' ≤ N ∧ S' ≤ S) ∧ ∀ (μ' : mj_MM), P μ' → mj_nc μ' = N' → mj_ns μ' = S' → mj_J G mY_C_init Ex N S 14 [(0, va_rf (some h0)), (1, .int v1)] [va_rf (some a2), va_rf (some h0)] μ'))) :
    mj_J G mY_C_init Ex N S 0 [(0, va_rf (some h0)), (1, .int v1)] [] μ := by
  refine mj_aload_n 0 md_C_init_0 rfl ?_
  refine mj_objInit rfl tw_77 tw_19 tw_20 md_C_init_1 (by decide) (by first | decide | (simp only [List.map_cons, List.map_nil, List.sum_cons, List.sum_nil, mj_rfc, mj_ci, mj_cl]; done) | (simp only [List.map_cons, List.map_nil, List.sum_cons, List.sum_nil, mj_rfc, mj_ci, mj_cl]; decide)) ?_
  refine mj_aload_n 0 md_C_init_4 rfl ?_
  obtain ⟨hn1, H⟩ := H
  refine mj_newO kc_G kdv_G tw_78 tw_50 tw_3 md_C_init_5 hn1.1 hn1.2 (fun a2 ha3 => ?_)
  replace H := H a2 ha3
  have ht4 : mj_t (mj_new μ a2 6 0 3) a2 = 6 := mj_tn
  refine mj_dup md_C_init_8 (mj_rfc _) ?_
  refine mj_ldc (v := 50000) tw_79 md_C_init_9 ?_
  obtain ⟨N', S', P, hM, hNS, H⟩ := H
  exact mj_callI (n := 1) (As := [.int 50000]) rfl hM ⟨tw_80, tw_3, tw_53, ⟨by decide, by decide, by decide +kernel⟩, by decide, by decide⟩ rfl rfl tw_52 rfl md_C_init_11 (by first | decide | (simp only [List.map_cons, List.map_nil, List.sum_cons, List.sum_nil, mj_rfc, mj_ci, mj_cl]; done) | (simp only [List.map_cons, List.map_nil, List.sum_cons, List.sum_nil, mj_rfc, mj_ci, mj_cl]; decide)) (fun _ => hNS) (mj_kV (fun μ' hP e1 e2 => mj_lvs [0, 1] rfl (H μ' hP e1 e2)))

set_option maxRecDepth 20000 in
theorem bk_C_init_14 {G : mj_G} {Ex : Option Value → mj_MM → Prop} {N S : Nat} {μ : mj_MM} {h0 : Nat} {v1 : Int32} {s0 : Option Nat}
    (H : ((mj_t μ h0 = 2) ∧ Ex none (mj_pI (mj_pR μ h0 1 s0) h0 0 v1))) :
    mj_J G mY_C_init Ex N S 14 [(0, va_rf (some h0)), (1, .int v1)] [va_rf s0, va_rf (some h0)] μ := by
  obtain ⟨ht1, H⟩ := H
  refine mj_putR rfl kc_C 1 (by decide) rfl tw_83 md_C_init_14 (Or.inr ⟨rfl, rfl, rfl⟩) ht1 ?_
  refine mj_aload_n 0 md_C_init_17 rfl ?_
  refine mj_iload_n 1 md_C_init_18 rfl ?_
  refine mj_putI rfl kc_C 0 (by decide) rfl tw_81 md_C_init_19 (Or.inr ⟨rfl, rfl, rfl⟩) ht1 rfl rfl ?_
  exact mj_return md_C_init_22 rfl H

set_option maxRecDepth 20000 in
theorem bk_C_addTask_0 {G : mj_G} {Ex : Option Value → mj_MM → Prop} {N S : Nat} {μ : mj_MM} {h0 : Nat} {v1 : Option Nat}
    (H : ((mj_t μ h0 = 2) ∧ ((mj_r μ h0 3 = none → Ex none (mj_pR (mj_pR μ h0 2 v1) h0 3 v1)) ∧ (∀ b2 : Nat, mj_r μ h0 3 = some b2 → ((mj_t μ b2 = 9) ∧ Ex none (mj_pR (mj_pR μ b2 17 v1) h0 3 v1)))))) :
    mj_J G mY_C_addTask Ex N S 0 [(0, va_rf (some h0)), (1, va_rf v1)] [] μ := by
  refine mj_aload_n 0 md_C_addTask_0 rfl ?_
  obtain ⟨ht1, H⟩ := H
  refine mj_getf (v := va_rf (mj_r μ h0 3)) rfl kc_C 3 (by decide) tw_86 md_C_addTask_1 ht1 rfl ?_
  obtain ⟨H1, H2⟩ := H
  refine mj_ifnonnull (tgt := 15) md_C_addTask_4 (by decide) (fun b2 hb3 => ?_) (fun hb => ?_)
  · replace H := H2 b2 hb3
    refine mj_aload_n 0 md_C_addTask_15 rfl ?_
    refine mj_getf (v := va_rf (mj_r μ h0 3)) rfl kc_C 3 (by decide) tw_86 md_C_addTask_16 ht1 rfl ?_
    refine mj_aload_n 1 md_C_addTask_19 rfl ?_
    obtain ⟨ht4, H⟩ := H
    refine mj_putR hb3 kc_K 17 (by decide) rfl tw_244 md_C_addTask_20 (Or.inl rfl) ht4 ?_
    refine mj_aload_n 0 md_C_addTask_23 rfl ?_
    refine mj_aload_n 1 md_C_addTask_24 rfl ?_
    refine mj_putR rfl kc_C 3 (by decide) rfl tw_86 md_C_addTask_25 (Or.inl rfl) ht1 ?_
    exact mj_return md_C_addTask_28 rfl H
  · replace H := H1 hb
    refine mj_aload_n 0 md_C_addTask_7 rfl ?_
    refine mj_aload_n 1 md_C_addTask_8 rfl ?_
    refine mj_putR rfl kc_C 2 (by decide) rfl tw_84 md_C_addTask_9 (Or.inl rfl) ht1 ?_
    refine mj_goto (tgt := 23) md_C_addTask_12 (by decide) ?_
    refine mj_aload_n 0 md_C_addTask_23 rfl ?_
    refine mj_aload_n 1 md_C_addTask_24 rfl ?_
    refine mj_putR rfl kc_C 3 (by decide) rfl tw_86 md_C_addTask_25 (Or.inl rfl) ht1 ?_
    exact mj_return md_C_addTask_28 rfl H

set_option maxRecDepth 20000 in
theorem bk_C_noteWho_0 {G : mj_G} {Ex : Option Value → mj_MM → Prop} {N S : Nat} {μ : mj_MM} {h0 : Nat} {v1 : Int32} {v2 : Int32}
    (H : ((mj_t μ h0 = 2) ∧ ∃ b2 : Nat, (mj_r μ h0 1 = some b2) ∧ (mj_t μ b2 = 6) ∧ (∃ (N' S' : Nat) (P : mj_MM → Prop), mj_M G my_G_add mY_G_add [va_rf (some b2), .int v1, .int v2, .int 0] N' S' (mj_pI μ h0 5 v2) (mj_XV P) ∧ (N' ≤ N ∧ S' ≤ S) ∧ ∀ (μ' : mj_MM), P μ' → mj_nc μ' = N' → mj_ns μ' = S' → mj_J G mY_C_noteWho Ex N S 15 [] [] μ'))) :
    mj_J G mY_C_noteWho Ex N S 0 [(0, va_rf (some h0)), (1, .int v1), (2, .int v2)] [] μ := by
  refine mj_aload_n 0 md_C_noteWho_0 rfl ?_
  refine mj_iload_n 2 md_C_noteWho_1 rfl ?_
  obtain ⟨ht1, H⟩ := H
  refine mj_putI rfl kc_C 5 (by decide) rfl tw_88 md_C_noteWho_2 (Or.inl rfl) ht1 rfl rfl ?_
  refine mj_aload_n 0 md_C_noteWho_5 rfl ?_
  refine mj_getf (v := va_rf (mj_r μ h0 1)) rfl kc_C 1 (by decide) tw_83 md_C_noteWho_6 ht1 rfl ?_
  refine mj_iload_n 1 md_C_noteWho_9 rfl ?_
  refine mj_iload_n 2 md_C_noteWho_10 rfl ?_
  refine mj_iconst (v := 0) md_C_noteWho_11 (by decide) ?_
  obtain ⟨b2, hb3, H⟩ := H
  obtain ⟨ht4, H⟩ := H
  obtain ⟨N', S', P, hM, hNS, H⟩ := H
  exact mj_callV (n := 3) (As := [.int v1, .int v2, .int 0]) hb3 hM kc_G ht4 ⟨tw_552, tw_3, tw_412, ⟨by decide, by decide, by decide +kernel⟩, by decide, by decide⟩ tw_410 tw_411 rfl md_C_noteWho_12 (by first | decide | (simp only [List.map_cons, List.map_nil, List.sum_cons, List.sum_nil, mj_rfc, mj_ci, mj_cl]; done) | (simp only [List.map_cons, List.map_nil, List.sum_cons, List.sum_nil, mj_rfc, mj_ci, mj_cl]; decide)) (fun _ => hNS) (mj_kV (fun μ' hP e1 e2 => mj_lvs [] rfl (H μ' hP e1 e2)))

set_option maxRecDepth 20000 in
theorem bk_C_noteWho_15 {G : mj_G} {Ex : Option Value → mj_MM → Prop} {N S : Nat} {μ : mj_MM}
    (H : Ex none μ) :
    mj_J G mY_C_noteWho Ex N S 15 [] [] μ := by
  exact mj_return md_C_noteWho_15 rfl H

set_option maxRecDepth 20000 in
theorem bk_C_whoAt_0 {G : mj_G} {Ex : Option Value → mj_MM → Prop} {N S : Nat} {μ : mj_MM} {h0 : Nat} {v1 : Int32}
    (H : ((mj_t μ h0 = 2) ∧ ∃ b2 : Nat, (mj_r μ h0 1 = some b2) ∧ (mj_t μ b2 = 6) ∧ mj_J G mY_C_whoAt Ex N S 13 [(0, va_rf (some h0)), (1, .int v1), (2, .int 0), (3, .int (mj_i μ b2 2)), (4, .int 0)] [] μ)) :
    mj_J G mY_C_whoAt Ex N S 0 [(0, va_rf (some h0)), (1, .int v1)] [] μ := by
  refine mj_iconst (v := 0) md_C_whoAt_0 (by decide) ?_
  refine mj_istn (i := 2) (lv' := [(2, .int 0), (0, va_rf (some h0)), (1, .int v1)]) md_C_whoAt_1 rfl (by decide) (by first | rfl | (simp [mj_rfc]; done) | (simp [mj_rfc]; rfl)) ?_
  refine mj_aload_n 1 md_C_whoAt_2 rfl ?_
  obtain ⟨ht1, H⟩ := H
  refine mj_getf (v := va_rf (mj_r μ h0 1)) rfl kc_C 1 (by decide) tw_83 md_C_whoAt_3 ht1 rfl ?_
  obtain ⟨b2, hb3, H⟩ := H
  obtain ⟨ht4, H⟩ := H
  refine mj_getf (v := .int (mj_i μ b2 2)) hb3 kc_G 2 (by decide) tw_63 md_C_whoAt_6 ht4 rfl ?_
  refine mj_istn (i := 3) (lv' := [(3, .int (mj_i μ b2 2)), (2, .int 0), (0, va_rf (some h0)), (1, .int v1)]) md_C_whoAt_9 rfl (by decide) (by first | rfl | (simp [mj_rfc]; done) | (simp [mj_rfc]; rfl)) ?_
  refine mj_iconst (v := 0) md_C_whoAt_10 (by decide) ?_
  refine mj_istore (lv' := [(4, .int 0), (3, .int (mj_i μ b2 2)), (2, .int 0), (0, va_rf (some h0)), (1, .int v1)]) md_C_whoAt_11 (by decide) (by first | rfl | (simp [mj_rfc]; done) | (simp [mj_rfc]; rfl)) ?_
  exact mj_lvs [3, 4, 2, 1, 0] rfl H

set_option maxRecDepth 20000 in
theorem bk_C_whoAt_13 {G : mj_G} {Ex : Option Value → mj_MM → Prop} {N S : Nat} {μ : mj_MM} {h0 : Nat} {v1 : Int32} {v2 : Int32} {v3 : Int32} {v4 : Int32}
    (H : ((32 ≤ v4 → ((¬ v2 = 0 → ((mj_t μ h0 = 2) ∧ ∃ b2 : Nat, (mj_r μ h0 1 = some b2) ∧ (mj_t μ b2 = 6) ∧ (∃ P : Int32 → mj_MM → Prop, mj_M G my_G_answer mY_G_answer [va_rf (some b2), .int (v2 - 1), .int 1] (mj_nc μ) (mj_ns μ) μ (mj_XI P) ∧ ∀ (x : Int32) (μ' : mj_MM), P x μ' → mj_nc μ' = mj_nc μ → mj_ns μ' = mj_ns μ → mj_J G mY_C_whoAt Ex N S 82 [] [.int x] μ'))) ∧ (v2 = 0 → mj_J G mY_C_whoAt Ex N S 82 [] [.int 0] μ))) ∧ (¬ 32 ≤ v4 → ((v3 ≤ v2 → ((¬ v2 = 0 → ((mj_t μ h0 = 2) ∧ ∃ b6 : Nat, (mj_r μ h0 1 = some b6) ∧ (mj_t μ b6 = 6) ∧ (∃ P : Int32 → mj_MM → Prop, mj_M G my_G_answer mY_G_answer [va_rf (some b6), .int (v2 - 1), .int 1] (mj_nc μ) (mj_ns μ) μ (mj_XI P) ∧ ∀ (x : Int32) (μ' : mj_MM), P x μ' → mj_nc μ' = mj_nc μ → mj_ns μ' = mj_ns μ → mj_J G mY_C_whoAt Ex N S 82 [] [.int x] μ'))) ∧ (v2 = 0 → mj_J G mY_C_whoAt Ex N S 82 [] [.int 0] μ))) ∧ (¬ v3 ≤ v2 → ((mj_t μ h0 = 2) ∧ ∃ b10 : Nat, (mj_r μ h0 1 = some b10) ∧ (mj_t μ b10 = 6) ∧ (∃ P : Int32 → mj_MM → Prop, mj_M G my_G_answer mY_G_answer [va_rf (some b10), .int ((v2 + v3) / 2), .int 0] (mj_nc μ) (mj_ns μ) μ (mj_XI P) ∧ ∀ (x : Int32) (μ' : mj_MM), P x μ' → mj_nc μ' = mj_nc μ → mj_ns μ' = mj_ns μ → mj_J G mY_C_whoAt Ex N S 42 [(0, va_rf (some h0)), (1, .int v1), (2, .int v2), (3, .int v3), (4, .int v4), (5, .int ((v2 + v3) / 2))] [.int x] μ'))))))) :
    mj_J G mY_C_whoAt Ex N S 13 [(0, va_rf (some h0)), (1, .int v1), (2, .int v2), (3, .int v3), (4, .int v4)] [] μ := by
  refine mj_iload 4 md_C_whoAt_13 rfl ?_
  refine mj_bipush (v := 32) md_C_whoAt_15 (by decide) ?_
  obtain ⟨H1, H2⟩ := H
  refine mj_icmp_ge (tgt := 63) md_C_whoAt_17 (by decide) (fun hx => ?_) (fun hx => ?_)
  · replace H := H1 hx
    refine mj_iload_n 2 md_C_whoAt_63 rfl ?_
    obtain ⟨H1, H2⟩ := H
    refine mj_if_ne (tgt := 71) md_C_whoAt_64 (by decide) (fun hx => ?_) (fun hx => ?_)
    · replace H := H1 hx
      refine mj_aload_n 0 md_C_whoAt_71 rfl ?_
      obtain ⟨ht1, H⟩ := H
      refine mj_getf (v := va_rf (mj_r μ h0 1)) rfl kc_C 1 (by decide) tw_83 md_C_whoAt_72 ht1 rfl ?_
      refine mj_iload_n 2 md_C_whoAt_75 rfl ?_
      refine mj_iconst (v := 1) md_C_whoAt_76 (by decide) ?_
      refine mj_isub md_C_whoAt_77 ?_
      refine mj_iconst (v := 1) md_C_whoAt_78 (by decide) ?_
      obtain ⟨b2, hb3, H⟩ := H
      obtain ⟨ht4, H⟩ := H
      obtain ⟨P, hM, H⟩ := H
      exact mj_callV (n := 2) (As := [.int (v2 - 1), .int 1]) hb3 hM kc_G ht4 ⟨tw_570, tw_3, tw_573, ⟨by decide, by decide, by decide +kernel⟩, by decide, by decide⟩ tw_571 tw_572 rfl md_C_whoAt_79 (by first | decide | (simp only [List.map_cons, List.map_nil, List.sum_cons, List.sum_nil, mj_rfc, mj_ci, mj_cl]; done) | (simp only [List.map_cons, List.map_nil, List.sum_cons, List.sum_nil, mj_rfc, mj_ci, mj_cl]; decide)) id (mj_kI (fun x μ' hP e1 e2 => mj_lvs [] rfl (H x μ' hP e1 e2)))
    · replace H := H2 hx
      refine mj_iconst (v := 0) md_C_whoAt_67 (by decide) ?_
      refine mj_goto (tgt := 82) md_C_whoAt_68 (by decide) ?_
      exact mj_lvs [] rfl H
  · replace H := H2 hx
    refine mj_iload_n 2 md_C_whoAt_20 rfl ?_
    refine mj_iload_n 3 md_C_whoAt_21 rfl ?_
    obtain ⟨H1, H2⟩ := H
    refine mj_icmp_ge (tgt := 63) md_C_whoAt_22 (by decide) (fun hx => ?_) (fun hx => ?_)
    · replace H := H1 hx
      refine mj_iload_n 2 md_C_whoAt_63 rfl ?_
      obtain ⟨H1, H2⟩ := H
      refine mj_if_ne (tgt := 71) md_C_whoAt_64 (by decide) (fun hx => ?_) (fun hx => ?_)
      · replace H := H1 hx
        refine mj_aload_n 0 md_C_whoAt_71 rfl ?_
        obtain ⟨ht5, H⟩ := H
        refine mj_getf (v := va_rf (mj_r μ h0 1)) rfl kc_C 1 (by decide) tw_83 md_C_whoAt_72 ht5 rfl ?_
        refine mj_iload_n 2 md_C_whoAt_75 rfl ?_
        refine mj_iconst (v := 1) md_C_whoAt_76 (by decide) ?_
        refine mj_isub md_C_whoAt_77 ?_
        refine mj_iconst (v := 1) md_C_whoAt_78 (by decide) ?_
        obtain ⟨b6, hb7, H⟩ := H
        obtain ⟨ht8, H⟩ := H
        obtain ⟨P, hM, H⟩ := H
        exact mj_callV (n := 2) (As := [.int (v2 - 1), .int 1]) hb7 hM kc_G ht8 ⟨tw_570, tw_3, tw_573, ⟨by decide, by decide, by decide +kernel⟩, by decide, by decide⟩ tw_571 tw_572 rfl md_C_whoAt_79 (by first | decide | (simp only [List.map_cons, List.map_nil, List.sum_cons, List.sum_nil, mj_rfc, mj_ci, mj_cl]; done) | (simp only [List.map_cons, List.map_nil, List.sum_cons, List.sum_nil, mj_rfc, mj_ci, mj_cl]; decide)) id (mj_kI (fun x μ' hP e1 e2 => mj_lvs [] rfl (H x μ' hP e1 e2)))
      · replace H := H2 hx
        refine mj_iconst (v := 0) md_C_whoAt_67 (by decide) ?_
        refine mj_goto (tgt := 82) md_C_whoAt_68 (by decide) ?_
        exact mj_lvs [] rfl H
    · replace H := H2 hx
      refine mj_iload_n 2 md_C_whoAt_25 rfl ?_
      refine mj_iload_n 3 md_C_whoAt_26 rfl ?_
      refine mj_iadd md_C_whoAt_27 ?_
      refine mj_iconst (v := 2) md_C_whoAt_28 (by decide) ?_
      refine mj_idiv md_C_whoAt_29 (by decide) ?_
      refine mj_istore (lv' := [(5, .int ((v2 + v3) / 2)), (0, va_rf (some h0)), (1, .int v1), (2, .int v2), (3, .int v3), (4, .int v4)]) md_C_whoAt_30 (by decide) (by first | rfl | (simp [mj_rfc]; done) | (simp [mj_rfc]; rfl)) ?_
      refine mj_aload_n 1 md_C_whoAt_32 rfl ?_
      obtain ⟨ht9, H⟩ := H
      refine mj_getf (v := va_rf (mj_r μ h0 1)) rfl kc_C 1 (by decide) tw_83 md_C_whoAt_33 ht9 rfl ?_
      refine mj_iload 0 md_C_whoAt_36 rfl ?_
      refine mj_iconst (v := 0) md_C_whoAt_38 (by decide) ?_
      obtain ⟨b10, hb11, H⟩ := H
      obtain ⟨ht12, H⟩ := H
      obtain ⟨P, hM, H⟩ := H
      exact mj_callV (n := 2) (As := [.int ((v2 + v3) / 2), .int 0]) hb11 hM kc_G ht12 ⟨tw_570, tw_3, tw_573, ⟨by decide, by decide, by decide +kernel⟩, by decide, by decide⟩ tw_571 tw_572 rfl md_C_whoAt_39 (by first | decide | (simp only [List.map_cons, List.map_nil, List.sum_cons, List.sum_nil, mj_rfc, mj_ci, mj_cl]; done) | (simp only [List.map_cons, List.map_nil, List.sum_cons, List.sum_nil, mj_rfc, mj_ci, mj_cl]; decide)) id (mj_kI (fun x μ' hP e1 e2 => mj_lvs [1, 2, 3, 4, 5, 0] rfl (H x μ' hP e1 e2)))

set_option maxRecDepth 20000 in
theorem bk_C_whoAt_82 {G : mj_G} {Ex : Option Value → mj_MM → Prop} {N S : Nat} {μ : mj_MM} {s0 : Int32}
    (H : Ex (some (.int s0)) μ) :
    mj_J G mY_C_whoAt Ex N S 82 [] [.int s0] μ := by
  exact mj_ireturn md_C_whoAt_82 rfl rfl H

set_option maxRecDepth 20000 in
theorem bk_C_whoAt_42 {G : mj_G} {Ex : Option Value → mj_MM → Prop} {N S : Nat} {μ : mj_MM} {h0 : Nat} {v1 : Int32} {v2 : Int32} {v3 : Int32} {v4 : Int32} {v5 : Int32} {s0 : Int32}
    (H : ((v1 < s0 → mj_J G mY_C_whoAt Ex N S 13 [(0, va_rf (some h0)), (1, .int v1), (2, .int v2), (3, .int v5), (4, .int (v4 + 1))] [] μ) ∧ (¬ v1 < s0 → mj_J G mY_C_whoAt Ex N S 13 [(0, va_rf (some h0)), (1, .int v1), (2, .int (v5 + 1)), (3, .int v3), (4, .int (v4 + 1))] [] μ))) :
    mj_J G mY_C_whoAt Ex N S 42 [(0, va_rf (some h0)), (1, .int v1), (2, .int v2), (3, .int v3), (4, .int v4), (5, .int v5)] [.int s0] μ := by
  refine mj_iload_n 1 md_C_whoAt_42 rfl ?_
  obtain ⟨H1, H2⟩ := H
  refine mj_icmp_gt (tgt := 54) md_C_whoAt_43 (by decide) (fun hx => ?_) (fun hx => ?_)
  · replace H := H1 hx
    refine mj_iload 5 md_C_whoAt_54 rfl ?_
    refine mj_istn (i := 3) (lv' := [(3, .int v5), (0, va_rf (some h0)), (1, .int v1), (2, .int v2), (4, .int v4), (5, .int v5)]) md_C_whoAt_56 rfl (by decide) (by first | rfl | (simp [mj_rfc]; done) | (simp [mj_rfc]; rfl)) ?_
    refine mj_iinc (j := 4) (v := v4 + 1) (lv' := [(4, .int (v4 + 1)), (3, .int v5), (0, va_rf (some h0)), (1, .int v1), (2, .int v2), (5, .int v5)]) md_C_whoAt_57 rfl rfl (by decide) (by first | rfl | (simp [mj_rfc]; done) | (simp [mj_rfc]; rfl)) ?_
    refine mj_goto (tgt := 13) md_C_whoAt_60 (by decide) ?_
    exact mj_lvs [2, 3, 4, 1, 0] rfl H
  · replace H := H2 hx
    refine mj_iload 5 md_C_whoAt_46 rfl ?_
    refine mj_iconst (v := 1) md_C_whoAt_48 (by decide) ?_
    refine mj_iadd md_C_whoAt_49 ?_
    refine mj_istn (i := 2) (lv' := [(2, .int (v5 + 1)), (0, va_rf (some h0)), (1, .int v1), (3, .int v3), (4, .int v4), (5, .int v5)]) md_C_whoAt_50 rfl (by decide) (by first | rfl | (simp [mj_rfc]; done) | (simp [mj_rfc]; rfl)) ?_
    refine mj_goto (tgt := 57) md_C_whoAt_51 (by decide) ?_
    refine mj_iinc (j := 4) (v := v4 + 1) (lv' := [(4, .int (v4 + 1)), (2, .int (v5 + 1)), (0, va_rf (some h0)), (1, .int v1), (3, .int v3), (5, .int v5)]) md_C_whoAt_57 rfl rfl (by decide) (by first | rfl | (simp [mj_rfc]; done) | (simp [mj_rfc]; rfl)) ?_
    refine mj_goto (tgt := 13) md_C_whoAt_60 (by decide) ?_
    exact mj_lvs [2, 3, 1, 4, 0] rfl H

set_option maxRecDepth 20000 in
theorem bk_I_init_0 {G : mj_G} {Ex : Option Value → mj_MM → Prop} {N S : Nat} {μ : mj_MM} {h0 : Nat} {v1 : Int32} {v2 : Int32} {v3 : Int32}
    (H : ((mj_t μ h0 = 3) ∧ Ex none (mj_pI (mj_pI (mj_pI μ h0 0 v1) h0 1 v2) h0 2 v3))) :
    mj_J G mY_I_init Ex N S 0 [(0, va_rf (some h0)), (1, .int v1), (2, .int v2), (3, .int v3)] [] μ := by
  refine mj_aload_n 0 md_I_init_0 rfl ?_
  refine mj_objInit rfl tw_362 tw_19 tw_20 md_I_init_1 (by decide) (by first | decide | (simp only [List.map_cons, List.map_nil, List.sum_cons, List.sum_nil, mj_rfc, mj_ci, mj_cl]; done) | (simp only [List.map_cons, List.map_nil, List.sum_cons, List.sum_nil, mj_rfc, mj_ci, mj_cl]; decide)) ?_
  refine mj_aload_n 0 md_I_init_4 rfl ?_
  refine mj_iload_n 1 md_I_init_5 rfl ?_
  obtain ⟨ht1, H⟩ := H
  refine mj_putI rfl kc_I 0 (by decide) rfl tw_363 md_I_init_6 (Or.inr ⟨rfl, rfl, rfl⟩) ht1 rfl rfl ?_
  refine mj_aload_n 0 md_I_init_9 rfl ?_
  refine mj_iload_n 2 md_I_init_10 rfl ?_
  refine mj_putI rfl kc_I 1 (by decide) rfl tw_366 md_I_init_11 (Or.inr ⟨rfl, rfl, rfl⟩) ht1 rfl rfl ?_
  refine mj_aload_n 0 md_I_init_14 rfl ?_
  refine mj_iload_n 3 md_I_init_15 rfl ?_
  refine mj_putI rfl kc_I 2 (by decide) rfl tw_368 md_I_init_16 (Or.inl rfl) ht1 rfl rfl ?_
  exact mj_return md_I_init_19 rfl H

set_option maxRecDepth 20000 in
theorem bk_U_init_0 {G : mj_G} {Ex : Option Value → mj_MM → Prop} {N S : Nat} {μ : mj_MM} {h0 : Nat}
    (H : Ex none μ) :
    mj_J G mY_U_init Ex N S 0 [(0, va_rf (some h0))] [] μ := by
  refine mj_aload_n 0 md_U_init_0 rfl ?_
  refine mj_objInit rfl tw_32 tw_19 tw_20 md_U_init_1 (by decide) (by first | decide | (simp only [List.map_cons, List.map_nil, List.sum_cons, List.sum_nil, mj_rfc, mj_ci, mj_cl]; done) | (simp only [List.map_cons, List.map_nil, List.sum_cons, List.sum_nil, mj_rfc, mj_ci, mj_cl]; decide)) ?_
  exact mj_return md_U_init_4 rfl H

set_option maxRecDepth 20000 in
theorem bk_U_add_0 {G : mj_G} {Ex : Option Value → mj_MM → Prop} {N S : Nat} {μ : mj_MM} {h0 : Nat} {v1 : Option Nat}
    (H : ((mj_t μ h0 = 4) ∧ mj_J G mY_U_add Ex N S 17 [(0, va_rf (some h0)), (1, va_rf v1), (2, va_rf none), (3, va_rf (mj_r μ h0 0))] [] (mj_pI μ h0 1 ((mj_i μ h0 1) + 1)))) :
    mj_J G mY_U_add Ex N S 0 [(0, va_rf (some h0)), (1, va_rf v1)] [] μ := by
  refine mj_aload_n 0 md_U_add_0 rfl ?_
  refine mj_dup md_U_add_1 (mj_rfc _) ?_
  obtain ⟨ht1, H⟩ := H
  refine mj_getf (v := .int (mj_i μ h0 1)) rfl kc_U 1 (by decide) tw_34 md_U_add_2 ht1 rfl ?_
  refine mj_iconst (v := 1) md_U_add_5 (by decide) ?_
  refine mj_iadd md_U_add_6 ?_
  refine mj_putI rfl kc_U 1 (by decide) rfl tw_34 md_U_add_7 (Or.inl rfl) ht1 rfl rfl ?_
  refine mj_null md_U_add_10 ?_
  refine mj_astn (i := 2) (lv' := [(2, va_rf none), (0, va_rf (some h0)), (1, va_rf v1)]) md_U_add_11 rfl (by decide) (by first | rfl | (simp [mj_rfc]; done) | (simp [mj_rfc]; rfl)) ?_
  refine mj_aload_n 1 md_U_add_12 rfl ?_
  refine mj_getf (v := va_rf (mj_r μ h0 0)) rfl kc_U 0 (by decide) tw_33 md_U_add_13 ht1 rfl ?_
  refine mj_astn (i := 3) (lv' := [(3, va_rf (mj_r μ h0 0)), (2, va_rf none), (0, va_rf (some h0)), (1, va_rf v1)]) md_U_add_16 rfl (by decide) (by first | rfl | (simp [mj_rfc]; done) | (simp [mj_rfc]; rfl)) ?_
  exact mj_lvs [2, 3, 1, 0] rfl H

set_option maxRecDepth 20000 in
theorem bk_U_add_17 {G : mj_G} {Ex : Option Value → mj_MM → Prop} {N S : Nat} {μ : mj_MM} {h0 : Nat} {v1 : Option Nat} {v2 : Option Nat} {v3 : Option Nat}
    (H : ((v3 = none → ((v2 = none → ((mj_t μ h0 = 4) ∧ ∃ b6 : Nat, (v1 = some b6) ∧ (mj_t μ b6 = 3) ∧ Ex none (mj_pR (mj_pR μ b6 3 (mj_r μ h0 0)) h0 0 v1))) ∧ (∀ b3 : Nat, v2 = some b3 → ((mj_t μ b3 = 3) ∧ ∃ b10 : Nat, (v1 = some b10) ∧ (mj_t μ b10 = 3) ∧ Ex none (mj_pR (mj_pR μ b10 3 (mj_r μ b3 3)) b3 3 v1))))) ∧ (∀ b1 : Nat, v3 = some b1 → ((mj_t μ b1 = 3) ∧ ∃ b14 : Nat, (v1 = some b14) ∧ (mj_t μ b14 = 3) ∧ (((mj_i μ b1 0) < (mj_i μ b14 0) → ((v2 = none → ((mj_t μ h0 = 4) ∧ Ex none (mj_pR (mj_pR μ b14 3 (mj_r μ h0 0)) h0 0 v1))) ∧ (∀ b17 : Nat, v2 = some b17 → ((mj_t μ b17 = 3) ∧ Ex none (mj_pR (mj_pR μ b14 3 (mj_r μ b17 3)) b17 3 v1))))) ∧ (¬ (mj_i μ b1 0) < (mj_i μ b14 0) → mj_J G mY_U_add Ex N S 17 [(0, va_rf (some h0)), (1, va_rf v1), (2, va_rf v3), (3, va_rf (mj_r μ b1 3))] [] μ)))))) :
    mj_J G mY_U_add Ex N S 17 [(0, va_rf (some h0)), (1, va_rf v1), (2, va_rf v2), (3, va_rf v3)] [] μ := by
  refine mj_aload_n 3 md_U_add_17 rfl ?_
  obtain ⟨H1, H2⟩ := H
  refine mj_ifnull (tgt := 42) md_U_add_18 (by decide) (fun hb => ?_) (fun b1 hb2 => ?_)
  · replace H := H1 hb
    refine mj_aload_n 2 md_U_add_42 rfl ?_
    obtain ⟨H1, H2⟩ := H
    refine mj_ifnonnull (tgt := 62) md_U_add_43 (by decide) (fun b3 hb4 => ?_) (fun hb => ?_)
    · replace H := H2 b3 hb4
      refine mj_aload_n 1 md_U_add_62 rfl ?_
      refine mj_aload_n 2 md_U_add_63 rfl ?_
      obtain ⟨ht9, H⟩ := H
      refine mj_getf (v := va_rf (mj_r μ b3 3)) hb4 kc_I 3 (by decide) tw_371 md_U_add_64 ht9 rfl ?_
      obtain ⟨b10, hb11, H⟩ := H
      obtain ⟨ht12, H⟩ := H
      refine mj_putR hb11 kc_I 3 (by decide) rfl tw_371 md_U_add_67 (Or.inl rfl) ht12 ?_
      refine mj_aload_n 2 md_U_add_70 rfl ?_
      refine mj_aload_n 1 md_U_add_71 rfl ?_
      refine mj_putR hb4 kc_I 3 (by decide) rfl tw_371 md_U_add_72 (Or.inl rfl) ht9 ?_
      exact mj_return md_U_add_75 rfl H
    · replace H := H1 hb
      refine mj_aload_n 1 md_U_add_46 rfl ?_
      refine mj_aload_n 0 md_U_add_47 rfl ?_
      obtain ⟨ht5, H⟩ := H
      refine mj_getf (v := va_rf (mj_r μ h0 0)) rfl kc_U 0 (by decide) tw_33 md_U_add_48 ht5 rfl ?_
      obtain ⟨b6, hb7, H⟩ := H
      obtain ⟨ht8, H⟩ := H
      refine mj_putR hb7 kc_I 3 (by decide) rfl tw_371 md_U_add_51 (Or.inl rfl) ht8 ?_
      refine mj_aload_n 0 md_U_add_54 rfl ?_
      refine mj_aload_n 1 md_U_add_55 rfl ?_
      refine mj_putR rfl kc_U 0 (by decide) rfl tw_33 md_U_add_56 (Or.inl rfl) ht5 ?_
      refine mj_goto (tgt := 75) md_U_add_59 (by decide) ?_
      exact mj_return md_U_add_75 rfl H
  · replace H := H2 b1 hb2
    refine mj_aload_n 3 md_U_add_21 rfl ?_
    obtain ⟨ht13, H⟩ := H
    refine mj_getf (v := .int (mj_i μ b1 0)) hb2 kc_I 0 (by decide) tw_364 md_U_add_22 ht13 rfl ?_
    refine mj_aload_n 1 md_U_add_25 rfl ?_
    obtain ⟨b14, hb15, H⟩ := H
    obtain ⟨ht16, H⟩ := H
    refine mj_getf (v := .int (mj_i μ b14 0)) hb15 kc_I 0 (by decide) tw_364 md_U_add_26 ht16 rfl ?_
    obtain ⟨H1, H2⟩ := H
    refine mj_icmp_lt (tgt := 42) md_U_add_29 (by decide) (fun hx => ?_) (fun hx => ?_)
    · replace H := H1 hx
      refine mj_aload_n 2 md_U_add_42 rfl ?_
      obtain ⟨H1, H2⟩ := H
      refine mj_ifnonnull (tgt := 62) md_U_add_43 (by decide) (fun b17 hb18 => ?_) (fun hb => ?_)
      · replace H := H2 b17 hb18
        refine mj_aload_n 1 md_U_add_62 rfl ?_
        refine mj_aload_n 2 md_U_add_63 rfl ?_
        obtain ⟨ht20, H⟩ := H
        refine mj_getf (v := va_rf (mj_r μ b17 3)) hb18 kc_I 3 (by decide) tw_371 md_U_add_64 ht20 rfl ?_
        refine mj_putR hb15 kc_I 3 (by decide) rfl tw_371 md_U_add_67 (Or.inl rfl) ht16 ?_
        refine mj_aload_n 2 md_U_add_70 rfl ?_
        refine mj_aload_n 1 md_U_add_71 rfl ?_
        refine mj_putR hb18 kc_I 3 (by decide) rfl tw_371 md_U_add_72 (Or.inl rfl) ht20 ?_
        exact mj_return md_U_add_75 rfl H
      · replace H := H1 hb
        refine mj_aload_n 1 md_U_add_46 rfl ?_
        refine mj_aload_n 0 md_U_add_47 rfl ?_
        obtain ⟨ht19, H⟩ := H
        refine mj_getf (v := va_rf (mj_r μ h0 0)) rfl kc_U 0 (by decide) tw_33 md_U_add_48 ht19 rfl ?_
        refine mj_putR hb15 kc_I 3 (by decide) rfl tw_371 md_U_add_51 (Or.inl rfl) ht16 ?_
        refine mj_aload_n 0 md_U_add_54 rfl ?_
        refine mj_aload_n 1 md_U_add_55 rfl ?_
        refine mj_putR rfl kc_U 0 (by decide) rfl tw_33 md_U_add_56 (Or.inl rfl) ht19 ?_
        refine mj_goto (tgt := 75) md_U_add_59 (by decide) ?_
        exact mj_return md_U_add_75 rfl H
    · replace H := H2 hx
      refine mj_aload_n 3 md_U_add_32 rfl ?_
      refine mj_astn (i := 2) (lv' := [(2, va_rf v3), (0, va_rf (some h0)), (1, va_rf v1), (3, va_rf v3)]) md_U_add_33 rfl (by decide) (by first | rfl | (simp [mj_rfc]; done) | (simp [mj_rfc]; rfl)) ?_
      refine mj_aload_n 3 md_U_add_34 rfl ?_
      refine mj_getf (v := va_rf (mj_r μ b1 3)) hb2 kc_I 3 (by decide) tw_371 md_U_add_35 ht13 rfl ?_
      refine mj_astn (i := 3) (lv' := [(3, va_rf (mj_r μ b1 3)), (2, va_rf v3), (0, va_rf (some h0)), (1, va_rf v1)]) md_U_add_38 rfl (by decide) (by first | rfl | (simp [mj_rfc]; done) | (simp [mj_rfc]; rfl)) ?_
      refine mj_goto (tgt := 17) md_U_add_39 (by decide) ?_
      exact mj_lvs [2, 3, 1, 0] rfl H

set_option maxRecDepth 20000 in
theorem bk_U_atHand_0 {G : mj_G} {Ex : Option Value → mj_MM → Prop} {N S : Nat} {μ : mj_MM} {h0 : Nat} {v1 : Int32}
    (H : ((mj_t μ h0 = 4) ∧ mj_J G mY_U_atHand Ex N S 5 [(0, va_rf (some h0)), (1, .int v1), (2, va_rf (mj_r μ h0 0))] [] μ)) :
    mj_J G mY_U_atHand Ex N S 0 [(0, va_rf (some h0)), (1, .int v1)] [] μ := by
  refine mj_aload_n 0 md_U_atHand_0 rfl ?_
  obtain ⟨ht1, H⟩ := H
  refine mj_getf (v := va_rf (mj_r μ h0 0)) rfl kc_U 0 (by decide) tw_33 md_U_atHand_1 ht1 rfl ?_
  refine mj_astn (i := 2) (lv' := [(2, va_rf (mj_r μ h0 0)), (0, va_rf (some h0)), (1, .int v1)]) md_U_atHand_4 rfl (by decide) (by first | rfl | (simp [mj_rfc]; done) | (simp [mj_rfc]; rfl)) ?_
  exact mj_lvs [1, 2, 0] rfl H

set_option maxRecDepth 20000 in
theorem bk_U_atHand_5 {G : mj_G} {Ex : Option Value → mj_MM → Prop} {N S : Nat} {μ : mj_MM} {h0 : Nat} {v1 : Int32} {v2 : Option Nat}
    (H : ((v2 = none → Ex (some (va_rf none)) μ) ∧ (∀ b1 : Nat, v2 = some b1 → ((mj_t μ b1 = 3) ∧ ((v1 < (mj_i μ b1 1) → mj_J G mY_U_atHand Ex N S 5 [(0, va_rf (some h0)), (1, .int v1), (2, va_rf (mj_r μ b1 3))] [] μ) ∧ (¬ v1 < (mj_i μ b1 1) → ((mj_t μ h0 = 4) ∧ ((mj_r μ h0 2 = none → Ex (some (va_rf v2)) μ) ∧ (∀ b5 : Nat, mj_r μ h0 2 = some b5 → (((mj_i μ b1 0) ≤ 7 → mj_J G mY_U_atHand Ex N S 5 [(0, va_rf (some h0)), (1, .int v1), (2, va_rf (mj_r μ b1 3))] [] μ) ∧ (¬ (mj_i μ b1 0) ≤ 7 → Ex (some (va_rf v2)) μ))))))))))) :
    mj_J G mY_U_atHand Ex N S 5 [(0, va_rf (some h0)), (1, .int v1), (2, va_rf v2)] [] μ := by
  refine mj_aload_n 2 md_U_atHand_5 rfl ?_
  obtain ⟨H1, H2⟩ := H
  refine mj_ifnull (tgt := 43) md_U_atHand_6 (by decide) (fun hb => ?_) (fun b1 hb2 => ?_)
  · replace H := H1 hb
    refine mj_null md_U_atHand_43 ?_
    exact mj_areturn md_U_atHand_44 rfl (Or.inl ⟨_, rfl⟩) H
  · replace H := H2 b1 hb2
    refine mj_aload_n 2 md_U_atHand_9 rfl ?_
    obtain ⟨ht3, H⟩ := H
    refine mj_getf (v := .int (mj_i μ b1 1)) hb2 kc_I 1 (by decide) tw_367 md_U_atHand_10 ht3 rfl ?_
    refine mj_iload_n 1 md_U_atHand_13 rfl ?_
    obtain ⟨H1, H2⟩ := H
    refine mj_icmp_gt (tgt := 35) md_U_atHand_14 (by decide) (fun hx => ?_) (fun hx => ?_)
    · replace H := H1 hx
      refine mj_aload_n 2 md_U_atHand_35 rfl ?_
      refine mj_getf (v := va_rf (mj_r μ b1 3)) hb2 kc_I 3 (by decide) tw_371 md_U_atHand_36 ht3 rfl ?_
      refine mj_astn (i := 2) (lv' := [(2, va_rf (mj_r μ b1 3)), (0, va_rf (some h0)), (1, .int v1)]) md_U_atHand_39 rfl (by decide) (by first | rfl | (simp [mj_rfc]; done) | (simp [mj_rfc]; rfl)) ?_
      refine mj_goto (tgt := 5) md_U_atHand_40 (by decide) ?_
      exact mj_lvs [1, 2, 0] rfl H
    · replace H := H2 hx
      refine mj_aload_n 0 md_U_atHand_17 rfl ?_
      obtain ⟨ht4, H⟩ := H
      refine mj_getf (v := va_rf (mj_r μ h0 2)) rfl kc_U 2 (by decide) tw_36 md_U_atHand_18 ht4 rfl ?_
      obtain ⟨H1, H2⟩ := H
      refine mj_ifnull (tgt := 33) md_U_atHand_21 (by decide) (fun hb => ?_) (fun b5 hb6 => ?_)
      · replace H := H1 hb
        refine mj_aload_n 2 md_U_atHand_33 rfl ?_
        exact mj_areturn md_U_atHand_34 rfl (Or.inl ⟨_, rfl⟩) H
      · replace H := H2 b5 hb6
        refine mj_aload_n 2 md_U_atHand_24 rfl ?_
        refine mj_getf (v := .int (mj_i μ b1 0)) hb2 kc_I 0 (by decide) tw_364 md_U_atHand_25 ht3 rfl ?_
        refine mj_bipush (v := 7) md_U_atHand_28 (by decide) ?_
        obtain ⟨H1, H2⟩ := H
        refine mj_icmp_le (tgt := 35) md_U_atHand_30 (by decide) (fun hx => ?_) (fun hx => ?_)
        · replace H := H1 hx
          refine mj_aload_n 2 md_U_atHand_35 rfl ?_
          refine mj_getf (v := va_rf (mj_r μ b1 3)) hb2 kc_I 3 (by decide) tw_371 md_U_atHand_36 ht3 rfl ?_
          refine mj_astn (i := 2) (lv' := [(2, va_rf (mj_r μ b1 3)), (0, va_rf (some h0)), (1, .int v1)]) md_U_atHand_39 rfl (by decide) (by first | rfl | (simp [mj_rfc]; done) | (simp [mj_rfc]; rfl)) ?_
          refine mj_goto (tgt := 5) md_U_atHand_40 (by decide) ?_
          exact mj_lvs [1, 2, 0] rfl H
        · replace H := H2 hx
          refine mj_aload_n 2 md_U_atHand_33 rfl ?_
          exact mj_areturn md_U_atHand_34 rfl (Or.inl ⟨_, rfl⟩) H

set_option maxRecDepth 20000 in
theorem bk_U_nextChange_0 {G : mj_G} {Ex : Option Value → mj_MM → Prop} {N S : Nat} {μ : mj_MM} {h0 : Nat} {v1 : Int32}
    (H : ((mj_t μ h0 = 4) ∧ ((mj_r μ h0 2 = none → mj_J G mY_U_nextChange Ex N S 30 [(1, .int v1), (2, .int 1000000), (3, va_rf (mj_r μ h0 0))] [] μ) ∧ (∀ b2 : Nat, mj_r μ h0 2 = some b2 → (((mj_i μ h0 3) ≤ v1 → mj_J G mY_U_nextChange Ex N S 30 [(1, .int v1), (2, .int 1000000), (3, va_rf (mj_r μ h0 0))] [] μ) ∧ (¬ (mj_i μ h0 3) ≤ v1 → mj_J G mY_U_nextChange Ex N S 30 [(1, .int v1), (2, .int (mj_i μ h0 3)), (3, va_rf (mj_r μ h0 0))] [] μ)))))) :
    mj_J G mY_U_nextChange Ex N S 0 [(0, va_rf (some h0)), (1, .int v1)] [] μ := by
  refine mj_aload_n 0 md_U_nextChange_0 rfl ?_
  obtain ⟨ht1, H⟩ := H
  refine mj_getf (v := va_rf (mj_r μ h0 2)) rfl kc_U 2 (by decide) tw_36 md_U_nextChange_1 ht1 rfl ?_
  obtain ⟨H1, H2⟩ := H
  refine mj_ifnull (tgt := 22) md_U_nextChange_4 (by decide) (fun hb => ?_) (fun b2 hb3 => ?_)
  · replace H := H1 hb
    refine mj_ldc (v := 1000000) tw_530 md_U_nextChange_22 ?_
    refine mj_istn (i := 2) (lv' := [(2, .int 1000000), (0, va_rf (some h0)), (1, .int v1)]) md_U_nextChange_24 rfl (by decide) (by first | rfl | (simp [mj_rfc]; done) | (simp [mj_rfc]; rfl)) ?_
    refine mj_aload_n 1 md_U_nextChange_25 rfl ?_
    refine mj_getf (v := va_rf (mj_r μ h0 0)) rfl kc_U 0 (by decide) tw_33 md_U_nextChange_26 ht1 rfl ?_
    refine mj_astn (i := 3) (lv' := [(3, va_rf (mj_r μ h0 0)), (2, .int 1000000), (0, va_rf (some h0)), (1, .int v1)]) md_U_nextChange_29 rfl (by decide) (by first | rfl | (simp [mj_rfc]; done) | (simp [mj_rfc]; rfl)) ?_
    exact mj_lvs [3, 1, 0] rfl H
  · replace H := H2 b2 hb3
    refine mj_aload_n 0 md_U_nextChange_7 rfl ?_
    refine mj_getf (v := .int (mj_i μ h0 3)) rfl kc_U 3 (by decide) tw_38 md_U_nextChange_8 ht1 rfl ?_
    refine mj_iload_n 1 md_U_nextChange_11 rfl ?_
    obtain ⟨H1, H2⟩ := H
    refine mj_icmp_le (tgt := 22) md_U_nextChange_12 (by decide) (fun hx => ?_) (fun hx => ?_)
    · replace H := H1 hx
      refine mj_ldc (v := 1000000) tw_530 md_U_nextChange_22 ?_
      refine mj_istn (i := 2) (lv' := [(2, .int 1000000), (0, va_rf (some h0)), (1, .int v1)]) md_U_nextChange_24 rfl (by decide) (by first | rfl | (simp [mj_rfc]; done) | (simp [mj_rfc]; rfl)) ?_
      refine mj_aload_n 1 md_U_nextChange_25 rfl ?_
      refine mj_getf (v := va_rf (mj_r μ h0 0)) rfl kc_U 0 (by decide) tw_33 md_U_nextChange_26 ht1 rfl ?_
      refine mj_astn (i := 3) (lv' := [(3, va_rf (mj_r μ h0 0)), (2, .int 1000000), (0, va_rf (some h0)), (1, .int v1)]) md_U_nextChange_29 rfl (by decide) (by first | rfl | (simp [mj_rfc]; done) | (simp [mj_rfc]; rfl)) ?_
      exact mj_lvs [3, 1, 0] rfl H
    · replace H := H2 hx
      refine mj_aload_n 0 md_U_nextChange_15 rfl ?_
      refine mj_getf (v := .int (mj_i μ h0 3)) rfl kc_U 3 (by decide) tw_38 md_U_nextChange_16 ht1 rfl ?_
      refine mj_goto (tgt := 24) md_U_nextChange_19 (by decide) ?_
      refine mj_istn (i := 2) (lv' := [(2, .int (mj_i μ h0 3)), (0, va_rf (some h0)), (1, .int v1)]) md_U_nextChange_24 rfl (by decide) (by first | rfl | (simp [mj_rfc]; done) | (simp [mj_rfc]; rfl)) ?_
      refine mj_aload_n 1 md_U_nextChange_25 rfl ?_
      refine mj_getf (v := va_rf (mj_r μ h0 0)) rfl kc_U 0 (by decide) tw_33 md_U_nextChange_26 ht1 rfl ?_
      refine mj_astn (i := 3) (lv' := [(3, va_rf (mj_r μ h0 0)), (2, .int (mj_i μ h0 3)), (0, va_rf (some h0)), (1, .int v1)]) md_U_nextChange_29 rfl (by decide) (by first | rfl | (simp [mj_rfc]; done) | (simp [mj_rfc]; rfl)) ?_
      exact mj_lvs [3, 1, 0] rfl H

set_option maxRecDepth 20000 in
theorem bk_U_nextChange_30 {G : mj_G} {Ex : Option Value → mj_MM → Prop} {N S : Nat} {μ : mj_MM} {v1 : Int32} {v2 : Int32} {v3 : Option Nat}
    (H : ((v3 = none → Ex (some (.int v2)) μ) ∧ (∀ b1 : Nat, v3 = some b1 → ((mj_t μ b1 = 3) ∧ (((mj_i μ b1 1) ≤ v1 → mj_J G mY_U_nextChange Ex N S 30 [(1, .int v1), (2, .int v2), (3, va_rf (mj_r μ b1 3))] [] μ) ∧ (¬ (mj_i μ b1 1) ≤ v1 → mj_J G mY_U_nextChange Ex N S 30 [(1, .int v1), (2, .int (if (mj_i μ b1 1) < v2 then (mj_i μ b1 1) else v2)), (3, va_rf (mj_r μ b1 3))] [] μ)))))) :
    mj_J G mY_U_nextChange Ex N S 30 [(1, .int v1), (2, .int v2), (3, va_rf v3)] [] μ := by
  refine mj_aload_n 2 md_U_nextChange_30 rfl ?_
  obtain ⟨H1, H2⟩ := H
  refine mj_ifnull (tgt := 59) md_U_nextChange_31 (by decide) (fun hb => ?_) (fun b1 hb2 => ?_)
  · replace H := H1 hb
    refine mj_iload_n 1 md_U_nextChange_59 rfl ?_
    exact mj_ireturn md_U_nextChange_60 rfl rfl H
  · replace H := H2 b1 hb2
    refine mj_aload_n 2 md_U_nextChange_34 rfl ?_
    obtain ⟨ht3, H⟩ := H
    refine mj_getf (v := .int (mj_i μ b1 1)) hb2 kc_I 1 (by decide) tw_367 md_U_nextChange_35 ht3 rfl ?_
    refine mj_iload_n 0 md_U_nextChange_38 rfl ?_
    obtain ⟨H1, H2⟩ := H
    refine mj_icmp_le (tgt := 51) md_U_nextChange_39 (by decide) (fun hx => ?_) (fun hx => ?_)
    · replace H := H1 hx
      refine mj_aload_n 2 md_U_nextChange_51 rfl ?_
      refine mj_getf (v := va_rf (mj_r μ b1 3)) hb2 kc_I 3 (by decide) tw_371 md_U_nextChange_52 ht3 rfl ?_
      refine mj_astn (i := 3) (lv' := [(3, va_rf (mj_r μ b1 3)), (1, .int v1), (2, .int v2)]) md_U_nextChange_55 rfl (by decide) (by first | rfl | (simp [mj_rfc]; done) | (simp [mj_rfc]; rfl)) ?_
      refine mj_goto (tgt := 30) md_U_nextChange_56 (by decide) ?_
      exact mj_lvs [1, 2, 0] rfl H
    · replace H := H2 hx
      refine mj_iload_n 1 md_U_nextChange_42 rfl ?_
      refine mj_aload_n 2 md_U_nextChange_43 rfl ?_
      refine mj_getf (v := .int (mj_i μ b1 1)) hb2 kc_I 1 (by decide) tw_367 md_U_nextChange_44 ht3 rfl ?_
      refine mj_min tw_531 tw_532 tw_4 tw_533 md_U_nextChange_47 (by decide) (by first | decide | (simp only [List.map_cons, List.map_nil, List.sum_cons, List.sum_nil, mj_rfc, mj_ci, mj_cl]; done) | (simp only [List.map_cons, List.map_nil, List.sum_cons, List.sum_nil, mj_rfc, mj_ci, mj_cl]; decide)) ?_
      refine mj_istn (i := 2) (lv' := [(2, .int (if (mj_i μ b1 1) < v2 then (mj_i μ b1 1) else v2)), (1, .int v1), (3, va_rf v3)]) md_U_nextChange_50 rfl (by decide) (by first | rfl | (simp [mj_rfc]; done) | (simp [mj_rfc]; rfl)) ?_
      refine mj_aload_n 2 md_U_nextChange_51 rfl ?_
      refine mj_getf (v := va_rf (mj_r μ b1 3)) hb2 kc_I 3 (by decide) tw_371 md_U_nextChange_52 ht3 rfl ?_
      refine mj_astn (i := 3) (lv' := [(3, va_rf (mj_r μ b1 3)), (2, .int (if (mj_i μ b1 1) < v2 then (mj_i μ b1 1) else v2)), (1, .int v1)]) md_U_nextChange_55 rfl (by decide) (by first | rfl | (simp [mj_rfc]; done) | (simp [mj_rfc]; rfl)) ?_
      refine mj_goto (tgt := 30) md_U_nextChange_56 (by decide) ?_
      exact mj_lvs [2, 1, 0] rfl H

set_option maxRecDepth 20000 in
theorem bk_U_serve_0 {G : mj_G} {Ex : Option Value → mj_MM → Prop} {N S : Nat} {μ : mj_MM} {h0 : Nat} {v1 : Option Nat} {v2 : Int32}
    (H : (∃ b1 : Nat, (v1 = some b1) ∧ (mj_t μ b1 = 3) ∧ ((((mj_i μ b1 2) - v2) ≤ 0 → ((mj_t μ h0 = 4) ∧ ((¬ mj_r μ h0 0 = v1 → mj_J G mY_U_serve Ex N S 40 [(1, va_rf v1), (3, va_rf (mj_r μ h0 0))] [] (mj_pI μ b1 2 ((mj_i μ b1 2) - v2))) ∧ (mj_r μ h0 0 = v1 → Ex none (mj_pR (mj_pI μ b1 2 ((mj_i μ b1 2) - v2)) h0 0 (mj_r μ b1 3)))))) ∧ (¬ ((mj_i μ b1 2) - v2) ≤ 0 → Ex none (mj_pI μ b1 2 ((mj_i μ b1 2) - v2)))))) :
    mj_J G mY_U_serve Ex N S 0 [(0, va_rf (some h0)), (1, va_rf v1), (2, .int v2)] [] μ := by
  refine mj_aload_n 1 md_U_serve_0 rfl ?_
  refine mj_dup md_U_serve_1 (mj_rfc _) ?_
  obtain ⟨b1, hb2, H⟩ := H
  obtain ⟨ht3, H⟩ := H
  refine mj_getf (v := .int (mj_i μ b1 2)) hb2 kc_I 2 (by decide) tw_369 md_U_serve_2 ht3 rfl ?_
  refine mj_iload_n 2 md_U_serve_5 rfl ?_
  refine mj_isub md_U_serve_6 ?_
  refine mj_putI hb2 kc_I 2 (by decide) rfl tw_369 md_U_serve_7 (Or.inl rfl) ht3 rfl rfl ?_
  refine mj_aload_n 1 md_U_serve_10 rfl ?_
  refine mj_getf (v := .int ((mj_i μ b1 2) - v2)) hb2 kc_I 2 (by decide) tw_369 md_U_serve_11 ht3 (by show Value.int (mj_i (mj_pI μ b1 2 ((mj_i μ b1 2) - v2)) b1 2) = _; rw [mj_sI]) ?_
  obtain ⟨H1, H2⟩ := H
  refine mj_if_le (tgt := 18) md_U_serve_14 (by decide) (fun hx => ?_) (fun hx => ?_)
  · replace H := H1 hx
    refine mj_aload_n 0 md_U_serve_18 rfl ?_
    obtain ⟨ht4, H⟩ := H
    refine mj_getf (v := va_rf (mj_r μ h0 0)) rfl kc_U 0 (by decide) tw_33 md_U_serve_19 ht4 rfl ?_
    refine mj_aload_n 1 md_U_serve_22 rfl ?_
    obtain ⟨H1, H2⟩ := H
    refine mj_acmp_ne (tgt := 35) md_U_serve_23 (by decide) (fun hx => ?_) (fun hx => ?_)
    · replace H := H1 hx
      refine mj_aload_n 0 md_U_serve_35 rfl ?_
      refine mj_getf (v := va_rf (mj_r μ h0 0)) rfl kc_U 0 (by decide) tw_33 md_U_serve_36 ht4 rfl ?_
      refine mj_astn (i := 3) (lv' := [(3, va_rf (mj_r μ h0 0)), (0, va_rf (some h0)), (1, va_rf v1), (2, .int v2)]) md_U_serve_39 rfl (by decide) (by first | rfl | (simp [mj_rfc]; done) | (simp [mj_rfc]; rfl)) ?_
      exact mj_lvs [2, 0] rfl H
    · replace H := H2 hx
      refine mj_aload_n 0 md_U_serve_26 rfl ?_
      refine mj_aload_n 1 md_U_serve_27 rfl ?_
      refine mj_getf (v := va_rf (mj_r μ b1 3)) hb2 kc_I 3 (by decide) tw_371 md_U_serve_28 ht3 rfl ?_
      refine mj_putR rfl kc_U 0 (by decide) rfl tw_33 md_U_serve_31 (Or.inl rfl) ht4 ?_
      exact mj_return md_U_serve_34 rfl H
  · replace H := H2 hx
    exact mj_return md_U_serve_17 rfl H

set_option maxRecDepth 20000 in
theorem bk_U_serve_40 {G : mj_G} {Ex : Option Value → mj_MM → Prop} {N S : Nat} {μ : mj_MM} {v1 : Option Nat} {v3 : Option Nat}
    (H : ((v3 = none → Ex none μ) ∧ (∀ b1 : Nat, v3 = some b1 → ((mj_t μ b1 = 3) ∧ ((¬ mj_r μ b1 3 = v1 → mj_J G mY_U_serve Ex N S 40 [(1, va_rf v1), (3, va_rf (mj_r μ b1 3))] [] μ) ∧ (mj_r μ b1 3 = v1 → (∃ b4 : Nat, (v1 = some b4) ∧ (mj_t μ b4 = 3) ∧ Ex none (mj_pR μ b1 3 (mj_r μ b4 3))))))))) :
    mj_J G mY_U_serve Ex N S 40 [(1, va_rf v1), (3, va_rf v3)] [] μ := by
  refine mj_aload_n 1 md_U_serve_40 rfl ?_
  obtain ⟨H1, H2⟩ := H
  refine mj_ifnull (tgt := 69) md_U_serve_41 (by decide) (fun hb => ?_) (fun b1 hb2 => ?_)
  · replace H := H1 hb
    exact mj_return md_U_serve_69 rfl H
  · replace H := H2 b1 hb2
    refine mj_aload_n 1 md_U_serve_44 rfl ?_
    obtain ⟨ht3, H⟩ := H
    refine mj_getf (v := va_rf (mj_r μ b1 3)) hb2 kc_I 3 (by decide) tw_371 md_U_serve_45 ht3 rfl ?_
    refine mj_aload_n 0 md_U_serve_48 rfl ?_
    obtain ⟨H1, H2⟩ := H
    refine mj_acmp_ne (tgt := 61) md_U_serve_49 (by decide) (fun hx => ?_) (fun hx => ?_)
    · replace H := H1 hx
      refine mj_aload_n 1 md_U_serve_61 rfl ?_
      refine mj_getf (v := va_rf (mj_r μ b1 3)) hb2 kc_I 3 (by decide) tw_371 md_U_serve_62 ht3 rfl ?_
      refine mj_astn (i := 3) (lv' := [(3, va_rf (mj_r μ b1 3)), (1, va_rf v1)]) md_U_serve_65 rfl (by decide) (by first | rfl | (simp [mj_rfc]; done) | (simp [mj_rfc]; rfl)) ?_
      refine mj_goto (tgt := 40) md_U_serve_66 (by decide) ?_
      exact mj_lvs [1, 0] rfl H
    · replace H := H2 hx
      refine mj_aload_n 1 md_U_serve_52 rfl ?_
      refine mj_aload_n 0 md_U_serve_53 rfl ?_
      obtain ⟨b4, hb5, H⟩ := H
      obtain ⟨ht6, H⟩ := H
      refine mj_getf (v := va_rf (mj_r μ b4 3)) hb5 kc_I 3 (by decide) tw_371 md_U_serve_54 ht6 rfl ?_
      refine mj_putR hb2 kc_I 3 (by decide) rfl tw_371 md_U_serve_57 (Or.inl rfl) ht3 ?_
      exact mj_return md_U_serve_60 rfl H

set_option maxRecDepth 20000 in
theorem bk_L_init_0 {G : mj_G} {Ex : Option Value → mj_MM → Prop} {N S : Nat} {μ : mj_MM} {h0 : Nat}
    (H : Ex none μ) :
    mj_J G mY_L_init Ex N S 0 [(0, va_rf (some h0))] [] μ := by
  refine mj_aload_n 0 md_L_init_0 rfl ?_
  refine mj_objInit rfl tw_127 tw_19 tw_20 md_L_init_1 (by decide) (by first | decide | (simp only [List.map_cons, List.map_nil, List.sum_cons, List.sum_nil, mj_rfc, mj_ci, mj_cl]; done) | (simp only [List.map_cons, List.map_nil, List.sum_cons, List.sum_nil, mj_rfc, mj_ci, mj_cl]; decide)) ?_
  exact mj_return md_L_init_4 rfl H

set_option maxRecDepth 20000 in
theorem bk_L_addToQueue_0 {G : mj_G} {Ex : Option Value → mj_MM → Prop} {N S : Nat} {μ : mj_MM} {h0 : Nat} {v1 : Option Nat}
    (H : ((mj_t μ h0 = 5) ∧ mj_J G mY_L_addToQueue Ex N S 7 [(0, va_rf (some h0)), (1, va_rf v1), (2, va_rf none), (3, va_rf (mj_r μ h0 1))] [] μ)) :
    mj_J G mY_L_addToQueue Ex N S 0 [(0, va_rf (some h0)), (1, va_rf v1)] [] μ := by
  refine mj_null md_L_addToQueue_0 ?_
  refine mj_astn (i := 2) (lv' := [(2, va_rf none), (0, va_rf (some h0)), (1, va_rf v1)]) md_L_addToQueue_1 rfl (by decide) (by first | rfl | (simp [mj_rfc]; done) | (simp [mj_rfc]; rfl)) ?_
  refine mj_aload_n 1 md_L_addToQueue_2 rfl ?_
  obtain ⟨ht1, H⟩ := H
  refine mj_getf (v := va_rf (mj_r μ h0 1)) rfl kc_L 1 (by decide) tw_130 md_L_addToQueue_3 ht1 rfl ?_
  refine mj_astn (i := 3) (lv' := [(3, va_rf (mj_r μ h0 1)), (2, va_rf none), (0, va_rf (some h0)), (1, va_rf v1)]) md_L_addToQueue_6 rfl (by decide) (by first | rfl | (simp [mj_rfc]; done) | (simp [mj_rfc]; rfl)) ?_
  exact mj_lvs [2, 3, 1, 0] rfl H

set_option maxRecDepth 20000 in
theorem bk_L_addToQueue_7 {G : mj_G} {Ex : Option Value → mj_MM → Prop} {N S : Nat} {μ : mj_MM} {h0 : Nat} {v1 : Option Nat} {v2 : Option Nat} {v3 : Option Nat}
    (H : ((v3 = none → ((v2 = none → ((mj_t μ h0 = 5) ∧ Ex none (mj_pR μ h0 1 v1))) ∧ (∀ b3 : Nat, v2 = some b3 → ((mj_t μ b3 = 9) ∧ Ex none (mj_pR μ b3 18 v1))))) ∧ (∀ b1 : Nat, v3 = some b1 → ((¬ v3 = v1 → ((mj_t μ b1 = 9) ∧ mj_J G mY_L_addToQueue Ex N S 7 [(0, va_rf (some h0)), (1, va_rf v1), (2, va_rf v3), (3, va_rf (mj_r μ b1 18))] [] μ)) ∧ (v3 = v1 → Ex none μ))))) :
    mj_J G mY_L_addToQueue Ex N S 7 [(0, va_rf (some h0)), (1, va_rf v1), (2, va_rf v2), (3, va_rf v3)] [] μ := by
  refine mj_aload_n 3 md_L_addToQueue_7 rfl ?_
  obtain ⟨H1, H2⟩ := H
  refine mj_ifnull (tgt := 27) md_L_addToQueue_8 (by decide) (fun hb => ?_) (fun b1 hb2 => ?_)
  · replace H := H1 hb
    refine mj_aload_n 2 md_L_addToQueue_27 rfl ?_
    obtain ⟨H1, H2⟩ := H
    refine mj_ifnonnull (tgt := 39) md_L_addToQueue_28 (by decide) (fun b3 hb4 => ?_) (fun hb => ?_)
    · replace H := H2 b3 hb4
      refine mj_aload_n 2 md_L_addToQueue_39 rfl ?_
      refine mj_aload_n 1 md_L_addToQueue_40 rfl ?_
      obtain ⟨ht6, H⟩ := H
      refine mj_putR hb4 kc_K 18 (by decide) rfl tw_246 md_L_addToQueue_41 (Or.inl rfl) ht6 ?_
      exact mj_return md_L_addToQueue_44 rfl H
    · replace H := H1 hb
      refine mj_aload_n 0 md_L_addToQueue_31 rfl ?_
      refine mj_aload_n 1 md_L_addToQueue_32 rfl ?_
      obtain ⟨ht5, H⟩ := H
      refine mj_putR rfl kc_L 1 (by decide) rfl tw_130 md_L_addToQueue_33 (Or.inl rfl) ht5 ?_
      refine mj_goto (tgt := 44) md_L_addToQueue_36 (by decide) ?_
      exact mj_return md_L_addToQueue_44 rfl H
  · replace H := H2 b1 hb2
    refine mj_aload_n 3 md_L_addToQueue_11 rfl ?_
    refine mj_aload_n 1 md_L_addToQueue_12 rfl ?_
    obtain ⟨H1, H2⟩ := H
    refine mj_acmp_ne (tgt := 17) md_L_addToQueue_13 (by decide) (fun hx => ?_) (fun hx => ?_)
    · replace H := H1 hx
      refine mj_aload_n 3 md_L_addToQueue_17 rfl ?_
      refine mj_astn (i := 2) (lv' := [(2, va_rf v3), (0, va_rf (some h0)), (1, va_rf v1), (3, va_rf v3)]) md_L_addToQueue_18 rfl (by decide) (by first | rfl | (simp [mj_rfc]; done) | (simp [mj_rfc]; rfl)) ?_
      refine mj_aload_n 3 md_L_addToQueue_19 rfl ?_
      obtain ⟨ht7, H⟩ := H
      refine mj_getf (v := va_rf (mj_r μ b1 18)) hb2 kc_K 18 (by decide) tw_246 md_L_addToQueue_20 ht7 rfl ?_
      refine mj_astn (i := 3) (lv' := [(3, va_rf (mj_r μ b1 18)), (2, va_rf v3), (0, va_rf (some h0)), (1, va_rf v1)]) md_L_addToQueue_23 rfl (by decide) (by first | rfl | (simp [mj_rfc]; done) | (simp [mj_rfc]; rfl)) ?_
      refine mj_goto (tgt := 7) md_L_addToQueue_24 (by decide) ?_
      exact mj_lvs [2, 3, 1, 0] rfl H
    · replace H := H2 hx
      exact mj_return md_L_addToQueue_16 rfl H

set_option maxRecDepth 20000 in
theorem bk_L_firstInQueueOf_0 {G : mj_G} {Ex : Option Value → mj_MM → Prop} {N S : Nat} {μ : mj_MM} {h0 : Nat} {v1 : Option Nat}
    (H : ((mj_t μ h0 = 5) ∧ mj_J G mY_L_firstInQueueOf Ex N S 5 [(1, va_rf v1), (2, va_rf (mj_r μ h0 1))] [] μ)) :
    mj_J G mY_L_firstInQueueOf Ex N S 0 [(0, va_rf (some h0)), (1, va_rf v1)] [] μ := by
  refine mj_aload_n 0 md_L_firstInQueueOf_0 rfl ?_
  obtain ⟨ht1, H⟩ := H
  refine mj_getf (v := va_rf (mj_r μ h0 1)) rfl kc_L 1 (by decide) tw_130 md_L_firstInQueueOf_1 ht1 rfl ?_
  refine mj_astn (i := 2) (lv' := [(2, va_rf (mj_r μ h0 1)), (0, va_rf (some h0)), (1, va_rf v1)]) md_L_firstInQueueOf_4 rfl (by decide) (by first | rfl | (simp [mj_rfc]; done) | (simp [mj_rfc]; rfl)) ?_
  exact mj_lvs [2, 0] rfl H

set_option maxRecDepth 20000 in
theorem bk_L_firstInQueueOf_5 {G : mj_G} {Ex : Option Value → mj_MM → Prop} {N S : Nat} {μ : mj_MM} {v1 : Option Nat} {v2 : Option Nat}
    (H : ((v2 = none → Ex (some (va_rf none)) μ) ∧ (∀ b1 : Nat, v2 = some b1 → ((mj_t μ b1 = 9) ∧ ((¬ mj_r μ b1 2 = v1 → mj_J G mY_L_firstInQueueOf Ex N S 5 [(1, va_rf v1), (2, va_rf (mj_r μ b1 18))] [] μ) ∧ (mj_r μ b1 2 = v1 → Ex (some (va_rf v2)) μ)))))) :
    mj_J G mY_L_firstInQueueOf Ex N S 5 [(1, va_rf v1), (2, va_rf v2)] [] μ := by
  refine mj_aload_n 1 md_L_firstInQueueOf_5 rfl ?_
  obtain ⟨H1, H2⟩ := H
  refine mj_ifnull (tgt := 27) md_L_firstInQueueOf_6 (by decide) (fun hb => ?_) (fun b1 hb2 => ?_)
  · replace H := H1 hb
    refine mj_null md_L_firstInQueueOf_27 ?_
    exact mj_areturn md_L_firstInQueueOf_28 rfl (Or.inl ⟨_, rfl⟩) H
  · replace H := H2 b1 hb2
    refine mj_aload_n 1 md_L_firstInQueueOf_9 rfl ?_
    obtain ⟨ht3, H⟩ := H
    refine mj_getf (v := va_rf (mj_r μ b1 2)) hb2 kc_K 2 (by decide) tw_217 md_L_firstInQueueOf_10 ht3 rfl ?_
    refine mj_aload_n 0 md_L_firstInQueueOf_13 rfl ?_
    obtain ⟨H1, H2⟩ := H
    refine mj_acmp_ne (tgt := 19) md_L_firstInQueueOf_14 (by decide) (fun hx => ?_) (fun hx => ?_)
    · replace H := H1 hx
      refine mj_aload_n 1 md_L_firstInQueueOf_19 rfl ?_
      refine mj_getf (v := va_rf (mj_r μ b1 18)) hb2 kc_K 18 (by decide) tw_246 md_L_firstInQueueOf_20 ht3 rfl ?_
      refine mj_astn (i := 2) (lv' := [(2, va_rf (mj_r μ b1 18)), (1, va_rf v1)]) md_L_firstInQueueOf_23 rfl (by decide) (by first | rfl | (simp [mj_rfc]; done) | (simp [mj_rfc]; rfl)) ?_
      refine mj_goto (tgt := 5) md_L_firstInQueueOf_24 (by decide) ?_
      exact mj_lvs [1, 0] rfl H
    · replace H := H2 hx
      refine mj_aload_n 1 md_L_firstInQueueOf_17 rfl ?_
      exact mj_areturn md_L_firstInQueueOf_18 rfl (Or.inl ⟨_, rfl⟩) H

set_option maxRecDepth 20000 in
theorem bk_L_handOn_0 {G : mj_G} {Ex : Option Value → mj_MM → Prop} {N S : Nat} {μ : mj_MM} {h0 : Nat}
    (H : ((mj_t μ h0 = 5) ∧ ((mj_r μ h0 1 = none → Ex none (mj_pR μ h0 0 (mj_r μ h0 1))) ∧ (∀ b2 : Nat, mj_r μ h0 1 = some b2 → ((mj_t μ b2 = 9) ∧ ((mj_r μ b2 7 = none → Ex none (mj_pI (mj_pR (mj_pR (mj_pR μ h0 0 (mj_r μ h0 1)) h0 1 (mj_r μ b2 18)) b2 18 none) b2 16 ((mj_i μ b2 16) + 1))) ∧ (∀ b5 : Nat, mj_r μ b2 7 = some b5 → ((mj_t μ b5 = 7) ∧ Ex none (mj_pR (mj_pI (mj_pR (mj_pR (mj_pR μ h0 0 (mj_r μ h0 1)) h0 1 (mj_r μ b2 18)) b2 18 none) b2 16 ((mj_i μ b2 16) + 1)) b2 7 (mj_r μ b5 2)))))))))) :
    mj_J G mY_L_handOn Ex N S 0 [(0, va_rf (some h0))] [] μ := by
  refine mj_aload_n 0 md_L_handOn_0 rfl ?_
  obtain ⟨ht1, H⟩ := H
  refine mj_getf (v := va_rf (mj_r μ h0 1)) rfl kc_L 1 (by decide) tw_130 md_L_handOn_1 ht1 rfl ?_
  refine mj_astn (i := 1) (lv' := [(1, va_rf (mj_r μ h0 1)), (0, va_rf (some h0))]) md_L_handOn_4 rfl (by decide) (by first | rfl | (simp [mj_rfc]; done) | (simp [mj_rfc]; rfl)) ?_
  refine mj_aload_n 1 md_L_handOn_5 rfl ?_
  refine mj_aload_n 0 md_L_handOn_6 rfl ?_
  refine mj_putR rfl kc_L 0 (by decide) rfl tw_128 md_L_handOn_7 (Or.inl rfl) ht1 ?_
  refine mj_aload_n 0 md_L_handOn_10 rfl ?_
  obtain ⟨H1, H2⟩ := H
  refine mj_ifnonnull (tgt := 15) md_L_handOn_11 (by decide) (fun b2 hb3 => ?_) (fun hb => ?_)
  · replace H := H2 b2 hb3
    refine mj_aload_n 1 md_L_handOn_15 rfl ?_
    refine mj_aload_n 0 md_L_handOn_16 rfl ?_
    obtain ⟨ht4, H⟩ := H
    refine mj_getf (v := va_rf (mj_r μ b2 18)) hb3 kc_K 18 (by decide) tw_246 md_L_handOn_17 ht4 rfl ?_
    refine mj_putR rfl kc_L 1 (by decide) rfl tw_130 md_L_handOn_20 (Or.inl rfl) ht1 ?_
    refine mj_aload_n 0 md_L_handOn_23 rfl ?_
    refine mj_null md_L_handOn_24 ?_
    refine mj_putR hb3 kc_K 18 (by decide) rfl tw_246 md_L_handOn_25 (Or.inl rfl) ht4 ?_
    refine mj_aload_n 0 md_L_handOn_28 rfl ?_
    refine mj_dup md_L_handOn_29 (mj_rfc _) ?_
    refine mj_getf (v := .int (mj_i μ b2 16)) hb3 kc_K 16 (by decide) tw_242 md_L_handOn_30 ht4 rfl ?_
    refine mj_iconst (v := 1) md_L_handOn_33 (by decide) ?_
    refine mj_iadd md_L_handOn_34 ?_
    refine mj_putI hb3 kc_K 16 (by decide) rfl tw_242 md_L_handOn_35 (Or.inl rfl) ht4 rfl rfl ?_
    refine mj_aload_n 0 md_L_handOn_38 rfl ?_
    refine mj_getf (v := va_rf (mj_r μ b2 7)) hb3 kc_K 7 (by decide) tw_227 md_L_handOn_39 ht4 rfl ?_
    obtain ⟨H1, H2⟩ := H
    refine mj_ifnull (tgt := 56) md_L_handOn_42 (by decide) (fun hb => ?_) (fun b5 hb6 => ?_)
    · replace H := H1 hb
      exact mj_return md_L_handOn_56 rfl H
    · replace H := H2 b5 hb6
      refine mj_aload_n 0 md_L_handOn_45 rfl ?_
      refine mj_aload_n 0 md_L_handOn_46 rfl ?_
      refine mj_getf (v := va_rf (mj_r μ b2 7)) hb3 kc_K 7 (by decide) tw_227 md_L_handOn_47 ht4 rfl ?_
      obtain ⟨ht7, H⟩ := H
      refine mj_getf (v := va_rf (mj_r μ b5 2)) hb6 kc_P 2 (by decide) tw_203 md_L_handOn_50 ht7 rfl ?_
      refine mj_putR hb3 kc_K 7 (by decide) rfl tw_227 md_L_handOn_53 (Or.inl rfl) ht4 ?_
      exact mj_return md_L_handOn_56 rfl H
  · replace H := H1 hb
    exact mj_return md_L_handOn_14 rfl H

set_option maxRecDepth 20000 in
theorem bk_G_init_0 {G : mj_G} {Ex : Option Value → mj_MM → Prop} {N S : Nat} {μ : mj_MM} {h0 : Nat} {v1 : Int32}
    (H : ((mj_t μ h0 = 6) ∧ ∃ n2 : Nat, (((if 0 < v1 then v1 else 0) / 512) + 1 = nI n2 ∧ n2 * 8 ≤ 536870912) ∧ (mj_nc μ + 1 ≤ N ∧ mj_ns μ + n2 ≤ S) ∧ ∀ a5 : Nat, mj_t μ a5 = 0 → Ex none (mj_pR (mj_new (mj_pI μ h0 1 (if 0 < v1 then v1 else 0)) a5 1008 n2 n2) h0 0 (some a5)))) :
    mj_J G mY_G_init Ex N S 0 [(0, va_rf (some h0)), (1, .int v1)] [] μ := by
  refine mj_aload_n 0 md_G_init_0 rfl ?_
  refine mj_objInit rfl tw_54 tw_19 tw_20 md_G_init_1 (by decide) (by first | decide | (simp only [List.map_cons, List.map_nil, List.sum_cons, List.sum_nil, mj_rfc, mj_ci, mj_cl]; done) | (simp only [List.map_cons, List.map_nil, List.sum_cons, List.sum_nil, mj_rfc, mj_ci, mj_cl]; decide)) ?_
  refine mj_aload_n 0 md_G_init_4 rfl ?_
  refine mj_iconst (v := 0) md_G_init_5 (by decide) ?_
  refine mj_iload_n 1 md_G_init_6 rfl ?_
  refine mj_max tw_55 tw_56 tw_4 tw_57 md_G_init_7 (by decide) (by first | decide | (simp only [List.map_cons, List.map_nil, List.sum_cons, List.sum_nil, mj_rfc, mj_ci, mj_cl]; done) | (simp only [List.map_cons, List.map_nil, List.sum_cons, List.sum_nil, mj_rfc, mj_ci, mj_cl]; decide)) ?_
  obtain ⟨ht1, H⟩ := H
  refine mj_putI rfl kc_G 1 (by decide) rfl tw_61 md_G_init_10 (Or.inr ⟨rfl, rfl, rfl⟩) ht1 rfl rfl ?_
  refine mj_aload_n 0 md_G_init_13 rfl ?_
  refine mj_aload_n 0 md_G_init_14 rfl ?_
  refine mj_getf (v := .int (if 0 < v1 then v1 else 0)) rfl kc_G 1 (by decide) tw_61 md_G_init_15 ht1 (by show Value.int (mj_i (mj_pI μ h0 1 (if 0 < v1 then v1 else 0)) h0 1) = _; rw [mj_sI]) ?_
  refine mj_sipush (v := 512) md_G_init_18 (by decide) ?_
  refine mj_idiv md_G_init_21 (by decide) ?_
  refine mj_iconst (v := 1) md_G_init_22 (by decide) ?_
  refine mj_iadd md_G_init_23 ?_
  obtain ⟨n2, hq3, H⟩ := H
  obtain ⟨hn4, H⟩ := H
  refine mj_newqA (t := 8) rfl tw_58 md_G_init_24 hq3.1 (by have := hq3.2; omega) hn4.1 hn4.2 (fun a5 ha6 => ?_)
  replace H := H a5 ha6
  have ht7 : mj_t (mj_new μ a5 1008 n2 n2) h0 = 6 := mj_tk ht1 (by decide) ha6
  have ht8 : mj_t (mj_new μ a5 1008 n2 n2) a5 = 1008 := mj_tn
  refine mj_putR rfl kc_G 0 (by decide) rfl tw_60 md_G_init_27 (Or.inr ⟨rfl, rfl, rfl⟩) ht7 ?_
  exact mj_return md_G_init_30 rfl H

set_option maxRecDepth 20000 in
theorem bk_G_add_0 {G : mj_G} {Ex : Option Value → mj_MM → Prop} {N S : Nat} {μ : mj_MM} {h0 : Nat} {v1 : Int32} {v2 : Int32} {v3 : Int32}
    (H : ((mj_t μ h0 = 6) ∧ (((mj_i μ h0 2) < 0 → Ex none (mj_pI μ h0 2 ((mj_i μ h0 2) + 1))) ∧ (¬ (mj_i μ h0 2) < 0 → (((mj_i μ h0 1) ≤ (mj_i μ h0 2) → Ex none (mj_pI μ h0 2 ((mj_i μ h0 2) + 1))) ∧ (¬ (mj_i μ h0 1) ≤ (mj_i μ h0 2) → (∃ b2 : Nat, (mj_r μ h0 0 = some b2) ∧ (mj_t μ b2 = 1008) ∧ ((((mj_i μ h0 2) / 512) < (nI (mj_n μ b2)) → ((vp_in ((mj_i μ h0 2) / 512) (mj_n μ b2)) ∧ ((mj_r (mj_pI μ h0 2 ((mj_i μ h0 2) + 1)) b2 (Int32.toNatClampNeg ((mj_i μ h0 2) / 512)) = none → ((mj_nc μ + 1 ≤ N ∧ mj_ns μ + 512 ≤ S) ∧ ∀ a9 : Nat, mj_t μ a9 = 0 → (vp_in ((mj_i μ h0 2) / 512) (mj_n (mj_new μ a9 1001 512 512) b2)) ∧ ∃ b15 : Nat, (mj_r (mj_new (mj_pI μ h0 2 ((mj_i μ h0 2) + 1)) a9 1001 512 512) h0 0 = some b15) ∧ (mj_t (mj_new μ a9 1001 512 512) b15 = 1008) ∧ (vp_in ((mj_i μ h0 2) / 512) (mj_n (mj_new μ a9 1001 512 512) b15)) ∧ ∃ b19 : Nat, (mj_r (mj_pR (mj_new (mj_pI μ h0 2 ((mj_i μ h0 2) + 1)) a9 1001 512 512) b2 (Int32.toNatClampNeg ((mj_i μ h0 2) / 512)) (some a9)) b15 (Int32.toNatClampNeg ((mj_i μ h0 2) / 512)) = some b19) ∧ (mj_t (mj_new μ a9 1001 512 512) b19 = 1001) ∧ (vp_in ((mj_i μ h0 2) - (mj_i μ h0 2) / 512 * 512) (mj_n (mj_new μ a9 1001 512 512) b19)) ∧ Ex none (mj_pL (mj_pR (mj_new (mj_pI μ h0 2 ((mj_i μ h0 2) + 1)) a9 1001 512 512) b2 (Int32.toNatClampNeg ((mj_i μ h0 2) / 512)) (some a9)) b19 (Int32.toNatClampNeg ((mj_i μ h0 2) - (mj_i μ h0 2) / 512 * 512)) ((((Int32.toInt64 v1) <<< (Int32.toInt64 40 &&& 63)) ||| ((Int32.toInt64 v2) <<< (Int32.toInt64 20 &&& 63))) ||| (Int32.toInt64 v3))))) ∧ (∀ b6 : Nat, mj_r (mj_pI μ h0 2 ((mj_i μ h0 2) + 1)) b2 (Int32.toNatClampNeg ((mj_i μ h0 2) / 512)) = some b6 → ((vp_in ((mj_i μ h0 2) / 512) (mj_n μ b2)) ∧ (mj_t μ b6 = 1001) ∧ (vp_in ((mj_i μ h0 2) - (mj_i μ h0 2) / 512 * 512) (mj_n μ b6)) ∧ Ex none (mj_pL (mj_pI μ h0 2 ((mj_i μ h0 2) + 1)) b6 (Int32.toNatClampNeg ((mj_i μ h0 2) - (mj_i μ h0 2) / 512 * 512)) ((((Int32.toInt64 v1) <<< (Int32.toInt64 40 &&& 63)) ||| ((Int32.toInt64 v2) <<< (Int32.toInt64 20 &&& 63))) ||| (Int32.toInt64 v3)))))))) ∧ (¬ ((mj_i μ h0 2) / 512) < (nI (mj_n μ b2)) → Ex none (mj_pI μ h0 2 ((mj_i μ h0 2) + 1))))))))))) :
    mj_J G mY_G_add Ex N S 0 [(0, va_rf (some h0)), (1, .int v1), (2, .int v2), (3, .int v3)] [] μ := by
  refine mj_aload_n 0 md_G_add_0 rfl ?_
  obtain ⟨ht1, H⟩ := H
  refine mj_getf (v := .int (mj_i μ h0 2)) rfl kc_G 2 (by decide) tw_62 md_G_add_1 ht1 rfl ?_
  refine mj_istore (lv' := [(4, .int (mj_i μ h0 2)), (0, va_rf (some h0)), (1, .int v1), (2, .int v2), (3, .int v3)]) md_G_add_4 (by decide) (by first | rfl | (simp [mj_rfc]; done) | (simp [mj_rfc]; rfl)) ?_
  refine mj_aload_n 1 md_G_add_6 rfl ?_
  refine mj_dup md_G_add_7 (mj_rfc _) ?_
  refine mj_getf (v := .int (mj_i μ h0 2)) rfl kc_G 2 (by decide) tw_62 md_G_add_8 ht1 rfl ?_
  refine mj_iconst (v := 1) md_G_add_11 (by decide) ?_
  refine mj_iadd md_G_add_12 ?_
  refine mj_putI rfl kc_G 2 (by decide) rfl tw_62 md_G_add_13 (Or.inl rfl) ht1 rfl rfl ?_
  refine mj_iload 0 md_G_add_16 rfl ?_
  refine mj_sipush (v := 512) md_G_add_18 (by decide) ?_
  refine mj_idiv md_G_add_21 (by decide) ?_
  refine mj_istore (lv' := [(5, .int ((mj_i μ h0 2) / 512)), (4, .int (mj_i μ h0 2)), (0, va_rf (some h0)), (1, .int v1), (2, .int v2), (3, .int v3)]) md_G_add_22 (by decide) (by first | rfl | (simp [mj_rfc]; done) | (simp [mj_rfc]; rfl)) ?_
  refine mj_iload 1 md_G_add_24 rfl ?_
  obtain ⟨H1, H2⟩ := H
  refine mj_if_lt (tgt := 48) md_G_add_26 (by decide) (fun hx => ?_) (fun hx => ?_)
  · replace H := H1 hx
    exact mj_return md_G_add_48 rfl H
  · replace H := H2 hx
    refine mj_iload 1 md_G_add_29 rfl ?_
    refine mj_aload_n 2 md_G_add_31 rfl ?_
    refine mj_getf (v := .int (mj_i μ h0 1)) rfl kc_G 1 (by decide) tw_61 md_G_add_32 ht1 rfl ?_
    obtain ⟨H1, H2⟩ := H
    refine mj_icmp_ge (tgt := 48) md_G_add_35 (by decide) (fun hx => ?_) (fun hx => ?_)
    · replace H := H1 hx
      exact mj_return md_G_add_48 rfl H
    · replace H := H2 hx
      refine mj_iload 0 md_G_add_38 rfl ?_
      refine mj_aload_n 2 md_G_add_40 rfl ?_
      refine mj_getf (v := va_rf (mj_r μ h0 0)) rfl kc_G 0 (by decide) tw_60 md_G_add_41 ht1 rfl ?_
      obtain ⟨b2, hb3, H⟩ := H
      obtain ⟨ht4, H⟩ := H
      refine mj_alen (t := 8) hb3 rfl ht4 md_G_add_44 ?_
      obtain ⟨H1, H2⟩ := H
      refine mj_icmp_lt (tgt := 49) md_G_add_45 (by decide) (fun hx => ?_) (fun hx => ?_)
      · replace H := H1 hx
        refine mj_aload_n 2 md_G_add_49 rfl ?_
        refine mj_getf (v := va_rf (mj_r μ h0 0)) rfl kc_G 0 (by decide) tw_60 md_G_add_50 ht1 rfl ?_
        refine mj_iload 0 md_G_add_53 rfl ?_
        obtain ⟨hi5, H⟩ := H
        refine mj_aald (t := 8) hb3 rfl rfl ht4 hi5 md_G_add_55 ?_
        obtain ⟨H1, H2⟩ := H
        refine mj_ifnonnull (tgt := 71) md_G_add_56 (by decide) (fun b6 hb7 => ?_) (fun hb => ?_)
        · replace H := H2 b6 hb7
          refine mj_aload_n 2 md_G_add_71 rfl ?_
          refine mj_getf (v := va_rf (mj_r μ h0 0)) rfl kc_G 0 (by decide) tw_60 md_G_add_72 ht1 rfl ?_
          refine mj_iload 0 md_G_add_75 rfl ?_
          obtain ⟨hi23, H⟩ := H
          refine mj_aald (t := 8) hb3 rfl rfl ht4 hi23 md_G_add_77 ?_
          refine mj_iload 1 md_G_add_78 rfl ?_
          refine mj_sipush (v := 512) md_G_add_80 (by decide) ?_
          refine mj_irem md_G_add_83 (by decide) ?_
          refine mj_iload_n 3 md_G_add_84 rfl ?_
          refine mj_i2l md_G_add_85 ?_
          refine mj_bipush (v := 40) md_G_add_86 (by decide) ?_
          refine mj_lshl md_G_add_88 ?_
          refine mj_iload_n 4 md_G_add_89 rfl ?_
          refine mj_i2l md_G_add_90 ?_
          refine mj_bipush (v := 20) md_G_add_91 (by decide) ?_
          refine mj_lshl md_G_add_93 ?_
          refine mj_lor md_G_add_94 ?_
          refine mj_iload_n 5 md_G_add_95 rfl ?_
          refine mj_i2l md_G_add_96 ?_
          refine mj_lor md_G_add_97 ?_
          obtain ⟨ht24, H⟩ := H
          obtain ⟨hi25, H⟩ := H
          refine mj_last (t := 1) hb7 rfl ht24 hi25 md_G_add_98 ?_
          exact mj_return md_G_add_99 rfl H
        · replace H := H1 hb
          refine mj_aload_n 2 md_G_add_59 rfl ?_
          refine mj_getf (v := va_rf (mj_r μ h0 0)) rfl kc_G 0 (by decide) tw_60 md_G_add_60 ht1 rfl ?_
          refine mj_iload 0 md_G_add_63 rfl ?_
          refine mj_sipush (v := 512) md_G_add_65 (by decide) ?_
          obtain ⟨hn8, H⟩ := H
          refine mj_newa (t := 1) rfl rfl rfl tw_557 md_G_add_68 rfl (by decide) (by decide) hn8.1 hn8.2 (fun a9 ha10 => ?_)
          replace H := H a9 ha10
          have ht11 : mj_t (mj_new μ a9 1001 512 512) h0 = 6 := mj_tk ht1 (by decide) ha10
          have ht12 : mj_t (mj_new μ a9 1001 512 512) b2 = 1008 := mj_tk ht4 (by decide) ha10
          have ht13 : mj_t (mj_new μ a9 1001 512 512) a9 = 1001 := mj_tn
          obtain ⟨hi14, H⟩ := H
          refine mj_aastA (t := 8) (tv := 1) hb3 rfl rfl ht12 rfl ht13 hi14 md_G_add_70 ?_
          refine mj_aload_n 2 md_G_add_71 rfl ?_
          refine mj_getf (v := va_rf (mj_r (mj_new (mj_pI μ h0 2 ((mj_i μ h0 2) + 1)) a9 1001 512 512) h0 0)) rfl kc_G 0 (by decide) tw_60 md_G_add_72 ht11 (by show va_rf (mj_r (mj_pR (mj_new (mj_pI μ h0 2 ((mj_i μ h0 2) + 1)) a9 1001 512 512) b2 (Int32.toNatClampNeg ((mj_i μ h0 2) / 512)) (some a9)) h0 0) = _; rw [mj_kr (mj_ne ht11 ht12 (by decide))]; try rfl) ?_
          refine mj_iload 0 md_G_add_75 rfl ?_
          obtain ⟨b15, hb16, H⟩ := H
          obtain ⟨ht17, H⟩ := H
          obtain ⟨hi18, H⟩ := H
          refine mj_aald (t := 8) hb16 rfl rfl ht17 hi18 md_G_add_77 ?_
          refine mj_iload 1 md_G_add_78 rfl ?_
          refine mj_sipush (v := 512) md_G_add_80 (by decide) ?_
          refine mj_irem md_G_add_83 (by decide) ?_
          refine mj_iload_n 3 md_G_add_84 rfl ?_
          refine mj_i2l md_G_add_85 ?_
          refine mj_bipush (v := 40) md_G_add_86 (by decide) ?_
          refine mj_lshl md_G_add_88 ?_
          refine mj_iload_n 4 md_G_add_89 rfl ?_
          refine mj_i2l md_G_add_90 ?_
          refine mj_bipush (v := 20) md_G_add_91 (by decide) ?_
          refine mj_lshl md_G_add_93 ?_
          refine mj_lor md_G_add_94 ?_
          refine mj_iload_n 5 md_G_add_95 rfl ?_
          refine mj_i2l md_G_add_96 ?_
          refine mj_lor md_G_add_97 ?_
          obtain ⟨b19, hb20, H⟩ := H
          obtain ⟨ht21, H⟩ := H
          obtain ⟨hi22, H⟩ := H
          refine mj_last (t := 1) hb20 rfl ht21 hi22 md_G_add_98 ?_
          exact mj_return md_G_add_99 rfl H
      · replace H := H2 hx
        exact mj_return md_G_add_48 rfl H

set_option maxRecDepth 20000 in
theorem bk_G_answer_0 {G : mj_G} {Ex : Option Value → mj_MM → Prop} {N S : Nat} {μ : mj_MM} {h0 : Nat} {v1 : Int32} {v2 : Int32}
    (H : ((¬ v1 = (-1) → ((v1 < 0 → Ex (some (.int (-1))) μ) ∧ (¬ v1 < 0 → ((mj_t μ h0 = 6) ∧ (((mj_i μ h0 2) ≤ v1 → Ex (some (.int (-1))) μ) ∧ (¬ (mj_i μ h0 2) ≤ v1 → (((mj_i μ h0 1) ≤ v1 → Ex (some (.int (-1))) μ) ∧ (¬ (mj_i μ h0 1) ≤ v1 → (∃ b2 : Nat, (mj_r μ h0 0 = some b2) ∧ (mj_t μ b2 = 1008) ∧ (((v1 / 512) < (nI (mj_n μ b2)) → ((v2 < 0 → Ex (some (.int (-2))) μ) ∧ (¬ v2 < 0 → ((v2 ≤ 2 → ((vp_in (v1 / 512) (mj_n μ b2)) ∧ ((mj_r μ b2 (Int32.toNatClampNeg (v1 / 512)) = none → Ex (some (.int (-1))) μ) ∧ (∀ b6 : Nat, mj_r μ b2 (Int32.toNatClampNeg (v1 / 512)) = some b6 → ((mj_t μ b6 = 1001) ∧ (vp_in (v1 - v1 / 512 * 512) (mj_n μ b6)) ∧ Ex (some (.int (Int64.toInt32 (((mj_l μ b6 (Int32.toNatClampNeg (v1 - v1 / 512 * 512))) >>> (Int32.toInt64 ((2 - v2) * 20) &&& 63)) &&& 1048575)))) μ))))) ∧ (¬ v2 ≤ 2 → Ex (some (.int (-2))) μ))))) ∧ (¬ (v1 / 512) < (nI (mj_n μ b2)) → Ex (some (.int (-1))) μ))))))))))) ∧ (v1 = (-1) → ((¬ v2 = 0 → ((v1 < 0 → Ex (some (.int (-1))) μ) ∧ (¬ v1 < 0 → ((mj_t μ h0 = 6) ∧ (((mj_i μ h0 2) ≤ v1 → Ex (some (.int (-1))) μ) ∧ (¬ (mj_i μ h0 2) ≤ v1 → (((mj_i μ h0 1) ≤ v1 → Ex (some (.int (-1))) μ) ∧ (¬ (mj_i μ h0 1) ≤ v1 → (∃ b11 : Nat, (mj_r μ h0 0 = some b11) ∧ (mj_t μ b11 = 1008) ∧ (((v1 / 512) < (nI (mj_n μ b11)) → ((v2 < 0 → Ex (some (.int (-2))) μ) ∧ (¬ v2 < 0 → ((v2 ≤ 2 → ((vp_in (v1 / 512) (mj_n μ b11)) ∧ ((mj_r μ b11 (Int32.toNatClampNeg (v1 / 512)) = none → Ex (some (.int (-1))) μ) ∧ (∀ b15 : Nat, mj_r μ b11 (Int32.toNatClampNeg (v1 / 512)) = some b15 → ((mj_t μ b15 = 1001) ∧ (vp_in (v1 - v1 / 512 * 512) (mj_n μ b15)) ∧ Ex (some (.int (Int64.toInt32 (((mj_l μ b15 (Int32.toNatClampNeg (v1 - v1 / 512 * 512))) >>> (Int32.toInt64 ((2 - v2) * 20) &&& 63)) &&& 1048575)))) μ))))) ∧ (¬ v2 ≤ 2 → Ex (some (.int (-2))) μ))))) ∧ (¬ (v1 / 512) < (nI (mj_n μ b11)) → Ex (some (.int (-1))) μ))))))))))) ∧ (v2 = 0 → ((mj_t μ h0 = 6) ∧ Ex (some (.int (mj_i μ h0 2))) μ)))))) :
    mj_J G mY_G_answer Ex N S 0 [(0, va_rf (some h0)), (1, .int v1), (2, .int v2)] [] μ := by
  refine mj_iload_n 1 md_G_answer_0 rfl ?_
  refine mj_iconst (v := (-1)) md_G_answer_1 (by decide) ?_
  obtain ⟨H1, H2⟩ := H
  refine mj_icmp_ne (tgt := 14) md_G_answer_2 (by decide) (fun hx => ?_) (fun hx => ?_)
  · replace H := H1 hx
    refine mj_iload_n 1 md_G_answer_14 rfl ?_
    obtain ⟨H1, H2⟩ := H
    refine mj_if_lt (tgt := 47) md_G_answer_15 (by decide) (fun hx => ?_) (fun hx => ?_)
    · replace H := H1 hx
      refine mj_iconst (v := (-1)) md_G_answer_47 (by decide) ?_
      exact mj_ireturn md_G_answer_48 rfl rfl H
    · replace H := H2 hx
      refine mj_iload_n 1 md_G_answer_18 rfl ?_
      refine mj_aload_n 0 md_G_answer_19 rfl ?_
      obtain ⟨ht1, H⟩ := H
      refine mj_getf (v := .int (mj_i μ h0 2)) rfl kc_G 2 (by decide) tw_62 md_G_answer_20 ht1 rfl ?_
      obtain ⟨H1, H2⟩ := H
      refine mj_icmp_ge (tgt := 47) md_G_answer_23 (by decide) (fun hx => ?_) (fun hx => ?_)
      · replace H := H1 hx
        refine mj_iconst (v := (-1)) md_G_answer_47 (by decide) ?_
        exact mj_ireturn md_G_answer_48 rfl rfl H
      · replace H := H2 hx
        refine mj_iload_n 1 md_G_answer_26 rfl ?_
        refine mj_aload_n 0 md_G_answer_27 rfl ?_
        refine mj_getf (v := .int (mj_i μ h0 1)) rfl kc_G 1 (by decide) tw_61 md_G_answer_28 ht1 rfl ?_
        obtain ⟨H1, H2⟩ := H
        refine mj_icmp_ge (tgt := 47) md_G_answer_31 (by decide) (fun hx => ?_) (fun hx => ?_)
        · replace H := H1 hx
          refine mj_iconst (v := (-1)) md_G_answer_47 (by decide) ?_
          exact mj_ireturn md_G_answer_48 rfl rfl H
        · replace H := H2 hx
          refine mj_iload_n 1 md_G_answer_34 rfl ?_
          refine mj_sipush (v := 512) md_G_answer_35 (by decide) ?_
          refine mj_idiv md_G_answer_38 (by decide) ?_
          refine mj_aload_n 0 md_G_answer_39 rfl ?_
          refine mj_getf (v := va_rf (mj_r μ h0 0)) rfl kc_G 0 (by decide) tw_60 md_G_answer_40 ht1 rfl ?_
          obtain ⟨b2, hb3, H⟩ := H
          obtain ⟨ht4, H⟩ := H
          refine mj_alen (t := 8) hb3 rfl ht4 md_G_answer_43 ?_
          obtain ⟨H1, H2⟩ := H
          refine mj_icmp_lt (tgt := 49) md_G_answer_44 (by decide) (fun hx => ?_) (fun hx => ?_)
          · replace H := H1 hx
            refine mj_iload_n 2 md_G_answer_49 rfl ?_
            obtain ⟨H1, H2⟩ := H
            refine mj_if_lt (tgt := 58) md_G_answer_50 (by decide) (fun hx => ?_) (fun hx => ?_)
            · replace H := H1 hx
              refine mj_bipush (v := (-2)) md_G_answer_58 (by decide) ?_
              exact mj_ireturn md_G_answer_60 rfl rfl H
            · replace H := H2 hx
              refine mj_iload_n 2 md_G_answer_53 rfl ?_
              refine mj_iconst (v := 2) md_G_answer_54 (by decide) ?_
              obtain ⟨H1, H2⟩ := H
              refine mj_icmp_le (tgt := 61) md_G_answer_55 (by decide) (fun hx => ?_) (fun hx => ?_)
              · replace H := H1 hx
                refine mj_aload_n 0 md_G_answer_61 rfl ?_
                refine mj_getf (v := va_rf (mj_r μ h0 0)) rfl kc_G 0 (by decide) tw_60 md_G_answer_62 ht1 rfl ?_
                refine mj_iload_n 1 md_G_answer_65 rfl ?_
                refine mj_sipush (v := 512) md_G_answer_66 (by decide) ?_
                refine mj_idiv md_G_answer_69 (by decide) ?_
                obtain ⟨hi5, H⟩ := H
                refine mj_aald (t := 8) hb3 rfl rfl ht4 hi5 md_G_answer_70 ?_
                refine mj_astn (i := 3) (lv' := [(3, va_rf (mj_r μ b2 (Int32.toNatClampNeg (v1 / 512)))), (0, va_rf (some h0)), (1, .int v1), (2, .int v2)]) md_G_answer_71 rfl (by decide) (by first | rfl | (simp [mj_rfc]; done) | (simp [mj_rfc]; rfl)) ?_
                refine mj_aload_n 0 md_G_answer_72 rfl ?_
                obtain ⟨H1, H2⟩ := H
                refine mj_ifnonnull (tgt := 80) md_G_answer_73 (by decide) (fun b6 hb7 => ?_) (fun hb => ?_)
                · replace H := H2 b6 hb7
                  refine mj_aload_n 0 md_G_answer_80 rfl ?_
                  refine mj_iload_n 2 md_G_answer_81 rfl ?_
                  refine mj_sipush (v := 512) md_G_answer_82 (by decide) ?_
                  refine mj_irem md_G_answer_85 (by decide) ?_
                  obtain ⟨ht8, H⟩ := H
                  obtain ⟨hi9, H⟩ := H
                  refine mj_lald (t := 1) hb7 rfl ht8 hi9 md_G_answer_86 ?_
                  refine mj_iconst (v := 2) md_G_answer_87 (by decide) ?_
                  refine mj_iload_n 3 md_G_answer_88 rfl ?_
                  refine mj_isub md_G_answer_89 ?_
                  refine mj_bipush (v := 20) md_G_answer_90 (by decide) ?_
                  refine mj_imul md_G_answer_92 ?_
                  refine mj_lshr md_G_answer_93 ?_
                  refine mj_ldc2 (v := 1048575) tw_574 md_G_answer_94 ?_
                  refine mj_land md_G_answer_97 ?_
                  refine mj_l2i md_G_answer_98 ?_
                  exact mj_ireturn md_G_answer_99 rfl rfl H
                · replace H := H1 hb
                  refine mj_iconst (v := (-1)) md_G_answer_76 (by decide) ?_
                  refine mj_goto (tgt := 99) md_G_answer_77 (by decide) ?_
                  exact mj_ireturn md_G_answer_99 rfl rfl H
              · replace H := H2 hx
                refine mj_bipush (v := (-2)) md_G_answer_58 (by decide) ?_
                exact mj_ireturn md_G_answer_60 rfl rfl H
          · replace H := H2 hx
            refine mj_iconst (v := (-1)) md_G_answer_47 (by decide) ?_
            exact mj_ireturn md_G_answer_48 rfl rfl H
  · replace H := H2 hx
    refine mj_iload_n 2 md_G_answer_5 rfl ?_
    obtain ⟨H1, H2⟩ := H
    refine mj_if_ne (tgt := 14) md_G_answer_6 (by decide) (fun hx => ?_) (fun hx => ?_)
    · replace H := H1 hx
      refine mj_iload_n 1 md_G_answer_14 rfl ?_
      obtain ⟨H1, H2⟩ := H
      refine mj_if_lt (tgt := 47) md_G_answer_15 (by decide) (fun hx => ?_) (fun hx => ?_)
      · replace H := H1 hx
        refine mj_iconst (v := (-1)) md_G_answer_47 (by decide) ?_
        exact mj_ireturn md_G_answer_48 rfl rfl H
      · replace H := H2 hx
        refine mj_iload_n 1 md_G_answer_18 rfl ?_
        refine mj_aload_n 0 md_G_answer_19 rfl ?_
        obtain ⟨ht10, H⟩ := H
        refine mj_getf (v := .int (mj_i μ h0 2)) rfl kc_G 2 (by decide) tw_62 md_G_answer_20 ht10 rfl ?_
        obtain ⟨H1, H2⟩ := H
        refine mj_icmp_ge (tgt := 47) md_G_answer_23 (by decide) (fun hx => ?_) (fun hx => ?_)
        · replace H := H1 hx
          refine mj_iconst (v := (-1)) md_G_answer_47 (by decide) ?_
          exact mj_ireturn md_G_answer_48 rfl rfl H
        · replace H := H2 hx
          refine mj_iload_n 1 md_G_answer_26 rfl ?_
          refine mj_aload_n 0 md_G_answer_27 rfl ?_
          refine mj_getf (v := .int (mj_i μ h0 1)) rfl kc_G 1 (by decide) tw_61 md_G_answer_28 ht10 rfl ?_
          obtain ⟨H1, H2⟩ := H
          refine mj_icmp_ge (tgt := 47) md_G_answer_31 (by decide) (fun hx => ?_) (fun hx => ?_)
          · replace H := H1 hx
            refine mj_iconst (v := (-1)) md_G_answer_47 (by decide) ?_
            exact mj_ireturn md_G_answer_48 rfl rfl H
          · replace H := H2 hx
            refine mj_iload_n 1 md_G_answer_34 rfl ?_
            refine mj_sipush (v := 512) md_G_answer_35 (by decide) ?_
            refine mj_idiv md_G_answer_38 (by decide) ?_
            refine mj_aload_n 0 md_G_answer_39 rfl ?_
            refine mj_getf (v := va_rf (mj_r μ h0 0)) rfl kc_G 0 (by decide) tw_60 md_G_answer_40 ht10 rfl ?_
            obtain ⟨b11, hb12, H⟩ := H
            obtain ⟨ht13, H⟩ := H
            refine mj_alen (t := 8) hb12 rfl ht13 md_G_answer_43 ?_
            obtain ⟨H1, H2⟩ := H
            refine mj_icmp_lt (tgt := 49) md_G_answer_44 (by decide) (fun hx => ?_) (fun hx => ?_)
            · replace H := H1 hx
              refine mj_iload_n 2 md_G_answer_49 rfl ?_
              obtain ⟨H1, H2⟩ := H
              refine mj_if_lt (tgt := 58) md_G_answer_50 (by decide) (fun hx => ?_) (fun hx => ?_)
              · replace H := H1 hx
                refine mj_bipush (v := (-2)) md_G_answer_58 (by decide) ?_
                exact mj_ireturn md_G_answer_60 rfl rfl H
              · replace H := H2 hx
                refine mj_iload_n 2 md_G_answer_53 rfl ?_
                refine mj_iconst (v := 2) md_G_answer_54 (by decide) ?_
                obtain ⟨H1, H2⟩ := H
                refine mj_icmp_le (tgt := 61) md_G_answer_55 (by decide) (fun hx => ?_) (fun hx => ?_)
                · replace H := H1 hx
                  refine mj_aload_n 0 md_G_answer_61 rfl ?_
                  refine mj_getf (v := va_rf (mj_r μ h0 0)) rfl kc_G 0 (by decide) tw_60 md_G_answer_62 ht10 rfl ?_
                  refine mj_iload_n 1 md_G_answer_65 rfl ?_
                  refine mj_sipush (v := 512) md_G_answer_66 (by decide) ?_
                  refine mj_idiv md_G_answer_69 (by decide) ?_
                  obtain ⟨hi14, H⟩ := H
                  refine mj_aald (t := 8) hb12 rfl rfl ht13 hi14 md_G_answer_70 ?_
                  refine mj_astn (i := 3) (lv' := [(3, va_rf (mj_r μ b11 (Int32.toNatClampNeg (v1 / 512)))), (0, va_rf (some h0)), (1, .int v1), (2, .int v2)]) md_G_answer_71 rfl (by decide) (by first | rfl | (simp [mj_rfc]; done) | (simp [mj_rfc]; rfl)) ?_
                  refine mj_aload_n 0 md_G_answer_72 rfl ?_
                  obtain ⟨H1, H2⟩ := H
                  refine mj_ifnonnull (tgt := 80) md_G_answer_73 (by decide) (fun b15 hb16 => ?_) (fun hb => ?_)
                  · replace H := H2 b15 hb16
                    refine mj_aload_n 0 md_G_answer_80 rfl ?_
                    refine mj_iload_n 2 md_G_answer_81 rfl ?_
                    refine mj_sipush (v := 512) md_G_answer_82 (by decide) ?_
                    refine mj_irem md_G_answer_85 (by decide) ?_
                    obtain ⟨ht17, H⟩ := H
                    obtain ⟨hi18, H⟩ := H
                    refine mj_lald (t := 1) hb16 rfl ht17 hi18 md_G_answer_86 ?_
                    refine mj_iconst (v := 2) md_G_answer_87 (by decide) ?_
                    refine mj_iload_n 3 md_G_answer_88 rfl ?_
                    refine mj_isub md_G_answer_89 ?_
                    refine mj_bipush (v := 20) md_G_answer_90 (by decide) ?_
                    refine mj_imul md_G_answer_92 ?_
                    refine mj_lshr md_G_answer_93 ?_
                    refine mj_ldc2 (v := 1048575) tw_574 md_G_answer_94 ?_
                    refine mj_land md_G_answer_97 ?_
                    refine mj_l2i md_G_answer_98 ?_
                    exact mj_ireturn md_G_answer_99 rfl rfl H
                  · replace H := H1 hb
                    refine mj_iconst (v := (-1)) md_G_answer_76 (by decide) ?_
                    refine mj_goto (tgt := 99) md_G_answer_77 (by decide) ?_
                    exact mj_ireturn md_G_answer_99 rfl rfl H
                · replace H := H2 hx
                  refine mj_bipush (v := (-2)) md_G_answer_58 (by decide) ?_
                  exact mj_ireturn md_G_answer_60 rfl rfl H
            · replace H := H2 hx
              refine mj_iconst (v := (-1)) md_G_answer_47 (by decide) ?_
              exact mj_ireturn md_G_answer_48 rfl rfl H
    · replace H := H2 hx
      refine mj_aload_n 0 md_G_answer_9 rfl ?_
      obtain ⟨ht19, H⟩ := H
      refine mj_getf (v := .int (mj_i μ h0 2)) rfl kc_G 2 (by decide) tw_62 md_G_answer_10 ht19 rfl ?_
      exact mj_ireturn md_G_answer_13 rfl rfl H

set_option maxRecDepth 20000 in
theorem bk_P_init_0 {G : mj_G} {Ex : Option Value → mj_MM → Prop} {N S : Nat} {μ : mj_MM} {h0 : Nat} {v1 : Int32} {v2 : Int32}
    (H : ((mj_t μ h0 = 7) ∧ Ex none (mj_pI (mj_pI μ h0 0 v1) h0 1 v2))) :
    mj_J G mY_P_init Ex N S 0 [(0, va_rf (some h0)), (1, .int v1), (2, .int v2)] [] μ := by
  refine mj_aload_n 0 md_P_init_0 rfl ?_
  refine mj_objInit rfl tw_195 tw_19 tw_20 md_P_init_1 (by decide) (by first | decide | (simp only [List.map_cons, List.map_nil, List.sum_cons, List.sum_nil, mj_rfc, mj_ci, mj_cl]; done) | (simp only [List.map_cons, List.map_nil, List.sum_cons, List.sum_nil, mj_rfc, mj_ci, mj_cl]; decide)) ?_
  refine mj_aload_n 0 md_P_init_4 rfl ?_
  refine mj_iload_n 1 md_P_init_5 rfl ?_
  obtain ⟨ht1, H⟩ := H
  refine mj_putI rfl kc_P 0 (by decide) rfl tw_196 md_P_init_6 (Or.inr ⟨rfl, rfl, rfl⟩) ht1 rfl rfl ?_
  refine mj_aload_n 0 md_P_init_9 rfl ?_
  refine mj_iload_n 2 md_P_init_10 rfl ?_
  refine mj_putI rfl kc_P 1 (by decide) rfl tw_199 md_P_init_11 (Or.inr ⟨rfl, rfl, rfl⟩) ht1 rfl rfl ?_
  exact mj_return md_P_init_14 rfl H

set_option maxRecDepth 20000 in
theorem bk_R_init_0 {G : mj_G} {Ex : Option Value → mj_MM → Prop} {N S : Nat} {μ : mj_MM} {h0 : Nat}
    (H : Ex none μ) :
    mj_J G mY_R_init Ex N S 0 [(0, va_rf (some h0))] [] μ := by
  refine mj_aload_n 0 md_R_init_0 rfl ?_
  refine mj_objInit rfl tw_110 tw_19 tw_20 md_R_init_1 (by decide) (by first | decide | (simp only [List.map_cons, List.map_nil, List.sum_cons, List.sum_nil, mj_rfc, mj_ci, mj_cl]; done) | (simp only [List.map_cons, List.map_nil, List.sum_cons, List.sum_nil, mj_rfc, mj_ci, mj_cl]; decide)) ?_
  exact mj_return md_R_init_4 rfl H

set_option maxRecDepth 20000 in
theorem bk_K_init_0 {G : mj_G} {Ex : Option Value → mj_MM → Prop} {N S : Nat} {μ : mj_MM} {h0 : Nat} {v1 : Int32} {v2 : Int32} {v3 : Option Nat} {v4 : Int32} {v5 : Int32}
    (H : ((mj_t μ h0 = 9) ∧ (mj_nc μ + 1 ≤ N ∧ mj_ns μ + 3 ≤ S) ∧ ∀ a3 : Nat, mj_t μ a3 = 0 → (∃ P : mj_MM → Prop, mj_M G my_P_init mY_P_init [va_rf (some a3), .int 0, .int 1] (mj_nc μ + 1) (mj_ns μ + 3) (mj_new (mj_pI μ h0 5 1) a3 7 0 3) (mj_XV P) ∧ ∀ (μ' : mj_MM), P μ' → mj_nc μ' = mj_nc μ + 1 → mj_ns μ' = mj_ns μ + 3 → mj_J G mY_K_init Ex N S 19 [(0, va_rf (some h0)), (1, .int v1), (2, .int v2), (3, va_rf v3), (4, .int v4), (5, .int v5)] [va_rf (some a3), va_rf (some h0)] μ'))) :
    mj_J G mY_K_init Ex N S 0 [(0, va_rf (some h0)), (1, .int v1), (2, .int v2), (3, va_rf v3), (4, .int v4), (5, .int v5)] [] μ := by
  refine mj_aload_n 0 md_K_init_0 rfl ?_
  refine mj_objInit rfl tw_189 tw_19 tw_20 md_K_init_1 (by decide) (by first | decide | (simp only [List.map_cons, List.map_nil, List.sum_cons, List.sum_nil, mj_rfc, mj_ci, mj_cl]; done) | (simp only [List.map_cons, List.map_nil, List.sum_cons, List.sum_nil, mj_rfc, mj_ci, mj_cl]; decide)) ?_
  refine mj_aload_n 0 md_K_init_4 rfl ?_
  refine mj_iconst (v := 1) md_K_init_5 (by decide) ?_
  obtain ⟨ht1, H⟩ := H
  refine mj_putI rfl kc_K 5 (by decide) rfl tw_223 md_K_init_6 (Or.inl rfl) ht1 (by decide) (by decide) ?_
  refine mj_aload_n 0 md_K_init_9 rfl ?_
  obtain ⟨hn2, H⟩ := H
  refine mj_newO kc_P kdv_P tw_190 tw_191 tw_10 md_K_init_10 hn2.1 hn2.2 (fun a3 ha4 => ?_)
  replace H := H a3 ha4
  have ht5 : mj_t (mj_new μ a3 7 0 3) h0 = 9 := mj_tk ht1 (by decide) ha4
  have ht6 : mj_t (mj_new μ a3 7 0 3) a3 = 7 := mj_tn
  refine mj_dup md_K_init_13 (mj_rfc _) ?_
  refine mj_iconst (v := 0) md_K_init_14 (by decide) ?_
  refine mj_iconst (v := 1) md_K_init_15 (by decide) ?_
  obtain ⟨P, hM, H⟩ := H
  exact mj_callI (n := 2) (As := [.int 0, .int 1]) rfl hM ⟨tw_192, tw_10, tw_194, ⟨by decide, by decide, by decide +kernel⟩, by decide, by decide⟩ rfl rfl tw_193 rfl md_K_init_16 (by first | decide | (simp only [List.map_cons, List.map_nil, List.sum_cons, List.sum_nil, mj_rfc, mj_ci, mj_cl]; done) | (simp only [List.map_cons, List.map_nil, List.sum_cons, List.sum_nil, mj_rfc, mj_ci, mj_cl]; decide)) id (mj_kV (fun μ' hP e1 e2 => mj_lvs [0, 1, 2, 3, 4, 5] rfl (H μ' hP e1 e2)))

set_option maxRecDepth 20000 in
theorem bk_K_init_19 {G : mj_G} {Ex : Option Value → mj_MM → Prop} {N S : Nat} {μ : mj_MM} {h0 : Nat} {v1 : Int32} {v2 : Int32} {v3 : Option Nat} {v4 : Int32} {v5 : Int32} {s0 : Option Nat}
    (H : ((mj_t μ h0 = 9) ∧ (v5 = 0 ∨ v5 = 1) ∧ Ex none (mj_pI (mj_pI (mj_pR (mj_pI (mj_pI (mj_pI (mj_pR μ h0 6 s0) h0 9 0) h0 0 v1) h0 1 v2) h0 2 v3) h0 3 v4) h0 4 v5))) :
    mj_J G mY_K_init Ex N S 19 [(0, va_rf (some h0)), (1, .int v1), (2, .int v2), (3, va_rf v3), (4, .int v4), (5, .int v5)] [va_rf s0, va_rf (some h0)] μ := by
  obtain ⟨ht1, H⟩ := H
  refine mj_putR rfl kc_K 6 (by decide) rfl tw_225 md_K_init_19 (Or.inr ⟨rfl, rfl, rfl⟩) ht1 ?_
  refine mj_aload_n 0 md_K_init_22 rfl ?_
  refine mj_iconst (v := 0) md_K_init_23 (by decide) ?_
  refine mj_putI rfl kc_K 9 (by decide) rfl tw_231 md_K_init_24 (Or.inl rfl) ht1 rfl rfl ?_
  refine mj_aload_n 0 md_K_init_27 rfl ?_
  refine mj_iload_n 1 md_K_init_28 rfl ?_
  refine mj_putI rfl kc_K 0 (by decide) rfl tw_212 md_K_init_29 (Or.inr ⟨rfl, rfl, rfl⟩) ht1 rfl rfl ?_
  refine mj_aload_n 0 md_K_init_32 rfl ?_
  refine mj_iload_n 2 md_K_init_33 rfl ?_
  refine mj_putI rfl kc_K 1 (by decide) rfl tw_214 md_K_init_34 (Or.inr ⟨rfl, rfl, rfl⟩) ht1 rfl rfl ?_
  refine mj_aload_n 0 md_K_init_37 rfl ?_
  refine mj_aload_n 3 md_K_init_38 rfl ?_
  refine mj_putR rfl kc_K 2 (by decide) rfl tw_216 md_K_init_39 (Or.inr ⟨rfl, rfl, rfl⟩) ht1 ?_
  refine mj_aload_n 0 md_K_init_42 rfl ?_
  refine mj_iload 4 md_K_init_43 rfl ?_
  refine mj_putI rfl kc_K 3 (by decide) rfl tw_219 md_K_init_45 (Or.inr ⟨rfl, rfl, rfl⟩) ht1 rfl rfl ?_
  refine mj_aload_n 0 md_K_init_48 rfl ?_
  refine mj_iload 5 md_K_init_49 rfl ?_
  obtain ⟨hz2, H⟩ := H
  refine mj_putI rfl kc_K 4 (by decide) rfl tw_221 md_K_init_51 (Or.inr ⟨rfl, rfl, rfl⟩) ht1 (mj_bn hz2) (mj_bf hz2) ?_
  exact mj_return md_K_init_54 rfl H

set_option maxRecDepth 20000 in
theorem bk_K_addPart_0 {G : mj_G} {Ex : Option Value → mj_MM → Prop} {N S : Nat} {μ : mj_MM} {h0 : Nat} {v1 : Option Nat}
    (H : ((mj_t μ h0 = 9) ∧ ∃ b2 : Nat, (mj_r μ h0 6 = some b2) ∧ (mj_t μ b2 = 7) ∧ mj_J G mY_K_addPart Ex N S 16 [(1, va_rf v1), (2, .int 1), (3, va_rf (mj_r μ h0 6)), (4, va_rf (mj_r μ b2 2))] [] μ)) :
    mj_J G mY_K_addPart Ex N S 0 [(0, va_rf (some h0)), (1, va_rf v1)] [] μ := by
  refine mj_iconst (v := 1) md_K_addPart_0 (by decide) ?_
  refine mj_istn (i := 2) (lv' := [(2, .int 1), (0, va_rf (some h0)), (1, va_rf v1)]) md_K_addPart_1 rfl (by decide) (by first | rfl | (simp [mj_rfc]; done) | (simp [mj_rfc]; rfl)) ?_
  refine mj_aload_n 1 md_K_addPart_2 rfl ?_
  obtain ⟨ht1, H⟩ := H
  refine mj_getf (v := va_rf (mj_r μ h0 6)) rfl kc_K 6 (by decide) tw_225 md_K_addPart_3 ht1 rfl ?_
  refine mj_astn (i := 3) (lv' := [(3, va_rf (mj_r μ h0 6)), (2, .int 1), (0, va_rf (some h0)), (1, va_rf v1)]) md_K_addPart_6 rfl (by decide) (by first | rfl | (simp [mj_rfc]; done) | (simp [mj_rfc]; rfl)) ?_
  refine mj_aload_n 2 md_K_addPart_7 rfl ?_
  refine mj_getf (v := va_rf (mj_r μ h0 6)) rfl kc_K 6 (by decide) tw_225 md_K_addPart_8 ht1 rfl ?_
  obtain ⟨b2, hb3, H⟩ := H
  obtain ⟨ht4, H⟩ := H
  refine mj_getf (v := va_rf (mj_r μ b2 2)) hb3 kc_P 2 (by decide) tw_202 md_K_addPart_11 ht4 rfl ?_
  refine mj_astore (lv' := [(4, va_rf (mj_r μ b2 2)), (3, va_rf (mj_r μ h0 6)), (2, .int 1), (0, va_rf (some h0)), (1, va_rf v1)]) md_K_addPart_14 (by decide) (by first | rfl | (simp [mj_rfc]; done) | (simp [mj_rfc]; rfl)) ?_
  exact mj_lvs [4, 2, 1, 0] rfl H

set_option maxRecDepth 20000 in
theorem bk_K_addPart_16 {G : mj_G} {Ex : Option Value → mj_MM → Prop} {N S : Nat} {μ : mj_MM} {v1 : Option Nat} {v2 : Int32} {v3 : Option Nat} {v4 : Option Nat}
    (H : ((v4 = none → (∃ b3 : Nat, (v3 = some b3) ∧ (mj_t μ b3 = 7) ∧ Ex (some (.int v2)) (mj_pR μ b3 2 v1))) ∧ (∀ b1 : Nat, v4 = some b1 → ((mj_t μ b1 = 7) ∧ mj_J G mY_K_addPart Ex N S 16 [(1, va_rf v1), (2, .int (v2 + 1)), (3, va_rf v4), (4, va_rf (mj_r μ b1 2))] [] μ)))) :
    mj_J G mY_K_addPart Ex N S 16 [(1, va_rf v1), (2, .int v2), (3, va_rf v3), (4, va_rf v4)] [] μ := by
  refine mj_aload 3 md_K_addPart_16 rfl ?_
  obtain ⟨H1, H2⟩ := H
  refine mj_ifnull (tgt := 37) md_K_addPart_18 (by decide) (fun hb => ?_) (fun b1 hb2 => ?_)
  · replace H := H1 hb
    refine mj_aload_n 2 md_K_addPart_37 rfl ?_
    refine mj_aload_n 0 md_K_addPart_38 rfl ?_
    obtain ⟨b3, hb4, H⟩ := H
    obtain ⟨ht5, H⟩ := H
    refine mj_putR hb4 kc_P 2 (by decide) rfl tw_202 md_K_addPart_39 (Or.inl rfl) ht5 ?_
    refine mj_iload_n 1 md_K_addPart_42 rfl ?_
    exact mj_ireturn md_K_addPart_43 rfl rfl H
  · replace H := H2 b1 hb2
    refine mj_aload 3 md_K_addPart_21 rfl ?_
    refine mj_astn (i := 3) (lv' := [(3, va_rf v4), (1, va_rf v1), (2, .int v2), (4, va_rf v4)]) md_K_addPart_23 rfl (by decide) (by first | rfl | (simp [mj_rfc]; done) | (simp [mj_rfc]; rfl)) ?_
    refine mj_iinc (j := 2) (v := v2 + 1) (lv' := [(2, .int (v2 + 1)), (3, va_rf v4), (1, va_rf v1), (4, va_rf v4)]) md_K_addPart_24 rfl rfl (by decide) (by first | rfl | (simp [mj_rfc]; done) | (simp [mj_rfc]; rfl)) ?_
    refine mj_aload 3 md_K_addPart_27 rfl ?_
    obtain ⟨ht6, H⟩ := H
    refine mj_getf (v := va_rf (mj_r μ b1 2)) hb2 kc_P 2 (by decide) tw_202 md_K_addPart_29 ht6 rfl ?_
    refine mj_astore (lv' := [(4, va_rf (mj_r μ b1 2)), (2, .int (v2 + 1)), (3, va_rf v4), (1, va_rf v1)]) md_K_addPart_32 (by decide) (by first | rfl | (simp [mj_rfc]; done) | (simp [mj_rfc]; rfl)) ?_
    refine mj_goto (tgt := 16) md_K_addPart_34 (by decide) ?_
    exact mj_lvs [3, 1, 2, 0] rfl H

set_option maxRecDepth 20000 in
theorem bk_K_mayBeSet_0 {G : mj_G} {Ex : Option Value → mj_MM → Prop} {N S : Nat} {μ : mj_MM} {h0 : Nat}
    (H : ((mj_t μ h0 = 9) ∧ (((mj_i μ h0 4) = 0 → Ex (some (.int 0)) μ) ∧ (¬ (mj_i μ h0 4) = 0 → (((mj_i μ h0 9) = 0 → Ex (some (.int 0)) μ) ∧ (¬ (mj_i μ h0 9) = 0 → Ex (some (.int 1)) μ)))))) :
    mj_J G mY_K_mayBeSet Ex N S 0 [(0, va_rf (some h0))] [] μ := by
  refine mj_aload_n 0 md_K_mayBeSet_0 rfl ?_
  obtain ⟨ht1, H⟩ := H
  refine mj_getf (v := .int (mj_i μ h0 4)) rfl kc_K 4 (by decide) tw_221 md_K_mayBeSet_1 ht1 rfl ?_
  obtain ⟨H1, H2⟩ := H
  refine mj_if_eq (tgt := 18) md_K_mayBeSet_4 (by decide) (fun hx => ?_) (fun hx => ?_)
  · replace H := H1 hx
    refine mj_iconst (v := 0) md_K_mayBeSet_18 (by decide) ?_
    exact mj_ireturn md_K_mayBeSet_19 rfl (by decide) H
  · replace H := H2 hx
    refine mj_aload_n 0 md_K_mayBeSet_7 rfl ?_
    refine mj_getf (v := .int (mj_i μ h0 9)) rfl kc_K 9 (by decide) tw_231 md_K_mayBeSet_8 ht1 rfl ?_
    obtain ⟨H1, H2⟩ := H
    refine mj_if_eq (tgt := 18) md_K_mayBeSet_11 (by decide) (fun hx => ?_) (fun hx => ?_)
    · replace H := H1 hx
      refine mj_iconst (v := 0) md_K_mayBeSet_18 (by decide) ?_
      exact mj_ireturn md_K_mayBeSet_19 rfl (by decide) H
    · replace H := H2 hx
      refine mj_iconst (v := 1) md_K_mayBeSet_14 (by decide) ?_
      refine mj_goto (tgt := 19) md_K_mayBeSet_15 (by decide) ?_
      exact mj_ireturn md_K_mayBeSet_19 rfl (by decide) H

set_option maxRecDepth 20000 in
theorem bk_K_height_0 {G : mj_G} {Ex : Option Value → mj_MM → Prop} {N S : Nat} {μ : mj_MM} {h0 : Nat}
    (H : ((mj_t μ h0 = 9) ∧ mj_J G mY_K_height Ex N S 10 [(1, .int (mj_i μ h0 1)), (2, va_rf (mj_r μ h0 15))] [] μ)) :
    mj_J G mY_K_height Ex N S 0 [(0, va_rf (some h0))] [] μ := by
  refine mj_aload_n 0 md_K_height_0 rfl ?_
  obtain ⟨ht1, H⟩ := H
  refine mj_getf (v := .int (mj_i μ h0 1)) rfl kc_K 1 (by decide) tw_214 md_K_height_1 ht1 rfl ?_
  refine mj_istn (i := 1) (lv' := [(1, .int (mj_i μ h0 1)), (0, va_rf (some h0))]) md_K_height_4 rfl (by decide) (by first | rfl | (simp [mj_rfc]; done) | (simp [mj_rfc]; rfl)) ?_
  refine mj_aload_n 1 md_K_height_5 rfl ?_
  refine mj_getf (v := va_rf (mj_r μ h0 15)) rfl kc_K 15 (by decide) tw_240 md_K_height_6 ht1 rfl ?_
  refine mj_astn (i := 2) (lv' := [(2, va_rf (mj_r μ h0 15)), (1, .int (mj_i μ h0 1)), (0, va_rf (some h0))]) md_K_height_9 rfl (by decide) (by first | rfl | (simp [mj_rfc]; done) | (simp [mj_rfc]; rfl)) ?_
  exact mj_lvs [1, 0] rfl H

set_option maxRecDepth 20000 in
theorem bk_K_height_10 {G : mj_G} {Ex : Option Value → mj_MM → Prop} {N S : Nat} {μ : mj_MM} {v1 : Int32} {v2 : Option Nat}
    (H : ((v2 = none → Ex (some (.int v1)) μ) ∧ (∀ b1 : Nat, v2 = some b1 → ((mj_t μ b1 = 8) ∧ mj_J G mY_K_height Ex N S 10 [(1, .int (if v1 < (mj_i μ b1 0) then (mj_i μ b1 0) else v1)), (2, va_rf (mj_r μ b1 2))] [] μ)))) :
    mj_J G mY_K_height Ex N S 10 [(1, .int v1), (2, va_rf v2)] [] μ := by
  refine mj_aload_n 1 md_K_height_10 rfl ?_
  obtain ⟨H1, H2⟩ := H
  refine mj_ifnull (tgt := 31) md_K_height_11 (by decide) (fun hb => ?_) (fun b1 hb2 => ?_)
  · replace H := H1 hb
    refine mj_iload_n 0 md_K_height_31 rfl ?_
    exact mj_ireturn md_K_height_32 rfl rfl H
  · replace H := H2 b1 hb2
    refine mj_iload_n 0 md_K_height_14 rfl ?_
    refine mj_aload_n 1 md_K_height_15 rfl ?_
    obtain ⟨ht3, H⟩ := H
    refine mj_getf (v := .int (mj_i μ b1 0)) hb2 kc_R 0 (by decide) tw_112 md_K_height_16 ht3 rfl ?_
    refine mj_max tw_437 tw_56 tw_4 tw_57 md_K_height_19 (by decide) (by first | decide | (simp only [List.map_cons, List.map_nil, List.sum_cons, List.sum_nil, mj_rfc, mj_ci, mj_cl]; done) | (simp only [List.map_cons, List.map_nil, List.sum_cons, List.sum_nil, mj_rfc, mj_ci, mj_cl]; decide)) ?_
    refine mj_istn (i := 1) (lv' := [(1, .int (if v1 < (mj_i μ b1 0) then (mj_i μ b1 0) else v1)), (2, va_rf v2)]) md_K_height_22 rfl (by decide) (by first | rfl | (simp [mj_rfc]; done) | (simp [mj_rfc]; rfl)) ?_
    refine mj_aload_n 1 md_K_height_23 rfl ?_
    refine mj_getf (v := va_rf (mj_r μ b1 2)) hb2 kc_R 2 (by decide) tw_114 md_K_height_24 ht3 rfl ?_
    refine mj_astn (i := 2) (lv' := [(2, va_rf (mj_r μ b1 2)), (1, .int (if v1 < (mj_i μ b1 0) then (mj_i μ b1 0) else v1))]) md_K_height_27 rfl (by decide) (by first | rfl | (simp [mj_rfc]; done) | (simp [mj_rfc]; rfl)) ?_
    refine mj_goto (tgt := 10) md_K_height_28 (by decide) ?_
    exact mj_lvs [1, 0] rfl H

set_option maxRecDepth 20000 in
theorem bk_K_comesBefore_0 {G : mj_G} {Ex : Option Value → mj_MM → Prop} {N S : Nat} {μ : mj_MM} {h0 : Nat} {v1 : Option Nat}
    (H : ((mj_t μ h0 = 9) ∧ (∃ P : Int32 → mj_MM → Prop, mj_M G my_K_height mY_K_height [va_rf (some h0)] (mj_nc μ) (mj_ns μ) μ (mj_XI P) ∧ ∀ (x : Int32) (μ' : mj_MM), P x μ' → mj_nc μ' = mj_nc μ → mj_ns μ' = mj_ns μ → mj_J G mY_K_comesBefore Ex N S 4 [(0, va_rf (some h0)), (1, va_rf v1)] [.int x] μ'))) :
    mj_J G mY_K_comesBefore Ex N S 0 [(0, va_rf (some h0)), (1, va_rf v1)] [] μ := by
  refine mj_aload_n 0 md_K_comesBefore_0 rfl ?_
  obtain ⟨ht1, H⟩ := H
  obtain ⟨P, hM, H⟩ := H
  exact mj_callV (n := 0) (As := []) rfl hM kc_K ht1 ⟨tw_433, tw_9, tw_436, ⟨by decide, by decide, by decide +kernel⟩, by decide, by decide⟩ tw_434 tw_435 rfl md_K_comesBefore_1 (by first | decide | (simp only [List.map_cons, List.map_nil, List.sum_cons, List.sum_nil, mj_rfc, mj_ci, mj_cl]; done) | (simp only [List.map_cons, List.map_nil, List.sum_cons, List.sum_nil, mj_rfc, mj_ci, mj_cl]; decide)) id (mj_kI (fun x μ' hP e1 e2 => mj_lvs [0, 1] rfl (H x μ' hP e1 e2)))

set_option maxRecDepth 20000 in
theorem bk_K_comesBefore_4 {G : mj_G} {Ex : Option Value → mj_MM → Prop} {N S : Nat} {μ : mj_MM} {h0 : Nat} {v1 : Option Nat} {s0 : Int32}
    (H : (∃ b1 : Nat, (v1 = some b1) ∧ (mj_t μ b1 = 9) ∧ (∃ P : Int32 → mj_MM → Prop, mj_M G my_K_height mY_K_height [va_rf (some b1)] (mj_nc μ) (mj_ns μ) μ (mj_XI P) ∧ ∀ (x : Int32) (μ' : mj_MM), P x μ' → mj_nc μ' = mj_nc μ → mj_ns μ' = mj_ns μ → mj_J G mY_K_comesBefore Ex N S 9 [(0, va_rf (some h0)), (1, va_rf v1), (2, .int s0)] [.int x] μ'))) :
    mj_J G mY_K_comesBefore Ex N S 4 [(0, va_rf (some h0)), (1, va_rf v1)] [.int s0] μ := by
  refine mj_istn (i := 2) (lv' := [(2, .int s0), (0, va_rf (some h0)), (1, va_rf v1)]) md_K_comesBefore_4 rfl (by decide) (by first | rfl | (simp [mj_rfc]; done) | (simp [mj_rfc]; rfl)) ?_
  refine mj_aload_n 2 md_K_comesBefore_5 rfl ?_
  obtain ⟨b1, hb2, H⟩ := H
  obtain ⟨ht3, H⟩ := H
  obtain ⟨P, hM, H⟩ := H
  exact mj_callV (n := 0) (As := []) hb2 hM kc_K ht3 ⟨tw_433, tw_9, tw_436, ⟨by decide, by decide, by decide +kernel⟩, by decide, by decide⟩ tw_434 tw_435 rfl md_K_comesBefore_6 (by first | decide | (simp only [List.map_cons, List.map_nil, List.sum_cons, List.sum_nil, mj_rfc, mj_ci, mj_cl]; done) | (simp only [List.map_cons, List.map_nil, List.sum_cons, List.sum_nil, mj_rfc, mj_ci, mj_cl]; decide)) id (mj_kI (fun x μ' hP e1 e2 => mj_lvs [1, 2, 0] rfl (H x μ' hP e1 e2)))

set_option maxRecDepth 20000 in
theorem bk_K_comesBefore_9 {G : mj_G} {Ex : Option Value → mj_MM → Prop} {N S : Nat} {μ : mj_MM} {h0 : Nat} {v1 : Option Nat} {v2 : Int32} {s0 : Int32}
    (H : ((s0 < v2 → Ex (some (.int 1)) μ) ∧ (¬ s0 < v2 → ((¬ v2 = s0 → Ex (some (.int 0)) μ) ∧ (v2 = s0 → (∃ b1 : Nat, (v1 = some b1) ∧ (mj_t μ b1 = 9) ∧ (((mj_i μ b1 9) = 2 → Ex (some (.int 0)) μ) ∧ (¬ (mj_i μ b1 9) = 2 → ((mj_t μ h0 = 9) ∧ (((mj_i μ b1 10) ≤ (mj_i μ h0 10) → Ex (some (.int 0)) μ) ∧ (¬ (mj_i μ b1 10) ≤ (mj_i μ h0 10) → Ex (some (.int 1)) μ))))))))))) :
    mj_J G mY_K_comesBefore Ex N S 9 [(0, va_rf (some h0)), (1, va_rf v1), (2, .int v2)] [.int s0] μ := by
  refine mj_istn (i := 3) (lv' := [(3, .int s0), (0, va_rf (some h0)), (1, va_rf v1), (2, .int v2)]) md_K_comesBefore_9 rfl (by decide) (by first | rfl | (simp [mj_rfc]; done) | (simp [mj_rfc]; rfl)) ?_
  refine mj_iload_n 3 md_K_comesBefore_10 rfl ?_
  refine mj_iload_n 0 md_K_comesBefore_11 rfl ?_
  obtain ⟨H1, H2⟩ := H
  refine mj_icmp_gt (tgt := 39) md_K_comesBefore_12 (by decide) (fun hx => ?_) (fun hx => ?_)
  · replace H := H1 hx
    refine mj_iconst (v := 1) md_K_comesBefore_39 (by decide) ?_
    refine mj_goto (tgt := 44) md_K_comesBefore_40 (by decide) ?_
    exact mj_ireturn md_K_comesBefore_44 rfl (by decide) H
  · replace H := H2 hx
    refine mj_iload_n 3 md_K_comesBefore_15 rfl ?_
    refine mj_iload_n 0 md_K_comesBefore_16 rfl ?_
    obtain ⟨H1, H2⟩ := H
    refine mj_icmp_ne (tgt := 43) md_K_comesBefore_17 (by decide) (fun hx => ?_) (fun hx => ?_)
    · replace H := H1 hx
      refine mj_iconst (v := 0) md_K_comesBefore_43 (by decide) ?_
      exact mj_ireturn md_K_comesBefore_44 rfl (by decide) H
    · replace H := H2 hx
      refine mj_aload_n 2 md_K_comesBefore_20 rfl ?_
      obtain ⟨b1, hb2, H⟩ := H
      obtain ⟨ht3, H⟩ := H
      refine mj_getf (v := .int (mj_i μ b1 9)) hb2 kc_K 9 (by decide) tw_231 md_K_comesBefore_21 ht3 rfl ?_
      refine mj_iconst (v := 2) md_K_comesBefore_24 (by decide) ?_
      obtain ⟨H1, H2⟩ := H
      refine mj_icmp_eq (tgt := 43) md_K_comesBefore_25 (by decide) (fun hx => ?_) (fun hx => ?_)
      · replace H := H1 hx
        refine mj_iconst (v := 0) md_K_comesBefore_43 (by decide) ?_
        exact mj_ireturn md_K_comesBefore_44 rfl (by decide) H
      · replace H := H2 hx
        refine mj_aload_n 1 md_K_comesBefore_28 rfl ?_
        obtain ⟨ht4, H⟩ := H
        refine mj_getf (v := .int (mj_i μ h0 10)) rfl kc_K 10 (by decide) tw_233 md_K_comesBefore_29 ht4 rfl ?_
        refine mj_aload_n 2 md_K_comesBefore_32 rfl ?_
        refine mj_getf (v := .int (mj_i μ b1 10)) hb2 kc_K 10 (by decide) tw_233 md_K_comesBefore_33 ht3 rfl ?_
        obtain ⟨H1, H2⟩ := H
        refine mj_icmp_ge (tgt := 43) md_K_comesBefore_36 (by decide) (fun hx => ?_) (fun hx => ?_)
        · replace H := H1 hx
          refine mj_iconst (v := 0) md_K_comesBefore_43 (by decide) ?_
          exact mj_ireturn md_K_comesBefore_44 rfl (by decide) H
        · replace H := H2 hx
          refine mj_iconst (v := 1) md_K_comesBefore_39 (by decide) ?_
          refine mj_goto (tgt := 44) md_K_comesBefore_40 (by decide) ?_
          exact mj_ireturn md_K_comesBefore_44 rfl (by decide) H

set_option maxRecDepth 20000 in
theorem bk_K_leftOfPart_0 {G : mj_G} {Ex : Option Value → mj_MM → Prop} {N S : Nat} {μ : mj_MM} {h0 : Nat}
    (H : ((mj_t μ h0 = 9) ∧ ((mj_r μ h0 7 = none → Ex (some (.int 1000000)) μ) ∧ (∀ b2 : Nat, mj_r μ h0 7 = some b2 → ((mj_t μ b2 = 7) ∧ ((¬ (mj_i μ b2 0) = 0 → Ex (some (.int 1000000)) μ) ∧ ((mj_i μ b2 0) = 0 → Ex (some (.int ((mj_i μ b2 1) - (mj_i μ h0 8)))) μ))))))) :
    mj_J G mY_K_leftOfPart Ex N S 0 [(0, va_rf (some h0))] [] μ := by
  refine mj_aload_n 0 md_K_leftOfPart_0 rfl ?_
  obtain ⟨ht1, H⟩ := H
  refine mj_getf (v := va_rf (mj_r μ h0 7)) rfl kc_K 7 (by decide) tw_228 md_K_leftOfPart_1 ht1 rfl ?_
  obtain ⟨H1, H2⟩ := H
  refine mj_ifnull (tgt := 32) md_K_leftOfPart_4 (by decide) (fun hb => ?_) (fun b2 hb3 => ?_)
  · replace H := H1 hb
    refine mj_ldc (v := 1000000) tw_539 md_K_leftOfPart_32 ?_
    exact mj_ireturn md_K_leftOfPart_34 rfl rfl H
  · replace H := H2 b2 hb3
    refine mj_aload_n 0 md_K_leftOfPart_7 rfl ?_
    refine mj_getf (v := va_rf (mj_r μ h0 7)) rfl kc_K 7 (by decide) tw_228 md_K_leftOfPart_8 ht1 rfl ?_
    obtain ⟨ht4, H⟩ := H
    refine mj_getf (v := .int (mj_i μ b2 0)) hb3 kc_P 0 (by decide) tw_197 md_K_leftOfPart_11 ht4 rfl ?_
    obtain ⟨H1, H2⟩ := H
    refine mj_if_ne (tgt := 32) md_K_leftOfPart_14 (by decide) (fun hx => ?_) (fun hx => ?_)
    · replace H := H1 hx
      refine mj_ldc (v := 1000000) tw_539 md_K_leftOfPart_32 ?_
      exact mj_ireturn md_K_leftOfPart_34 rfl rfl H
    · replace H := H2 hx
      refine mj_aload_n 0 md_K_leftOfPart_17 rfl ?_
      refine mj_getf (v := va_rf (mj_r μ h0 7)) rfl kc_K 7 (by decide) tw_228 md_K_leftOfPart_18 ht1 rfl ?_
      refine mj_getf (v := .int (mj_i μ b2 1)) hb3 kc_P 1 (by decide) tw_200 md_K_leftOfPart_21 ht4 rfl ?_
      refine mj_aload_n 0 md_K_leftOfPart_24 rfl ?_
      refine mj_getf (v := .int (mj_i μ h0 8)) rfl kc_K 8 (by decide) tw_230 md_K_leftOfPart_25 ht1 rfl ?_
      refine mj_isub md_K_leftOfPart_28 ?_
      refine mj_goto (tgt := 34) md_K_leftOfPart_29 (by decide) ?_
      exact mj_ireturn md_K_leftOfPart_34 rfl rfl H

set_option maxRecDepth 20000 in
theorem bk_K_spend_0 {G : mj_G} {Ex : Option Value → mj_MM → Prop} {N S : Nat} {μ : mj_MM} {h0 : Nat} {v1 : Int32}
    (H : ((mj_t μ h0 = 9) ∧ ((mj_r μ h0 7 = none → Ex none (mj_pI μ h0 14 ((mj_i μ h0 14) + v1))) ∧ (∀ b2 : Nat, mj_r μ h0 7 = some b2 → ((mj_t μ b2 = 7) ∧ (((mj_i μ b2 0) = 0 → ((((mj_i μ h0 8) + v1) < (mj_i μ b2 1) → Ex none (mj_pI (mj_pI μ h0 14 ((mj_i μ h0 14) + v1)) h0 8 ((mj_i μ h0 8) + v1))) ∧ (¬ ((mj_i μ h0 8) + v1) < (mj_i μ b2 1) → Ex none (mj_pI (mj_pR (mj_pI (mj_pI μ h0 14 ((mj_i μ h0 14) + v1)) h0 8 ((mj_i μ h0 8) + v1)) h0 7 (mj_r μ b2 2)) h0 8 0)))) ∧ (¬ (mj_i μ b2 0) = 0 → Ex none (mj_pI μ h0 14 ((mj_i μ h0 14) + v1))))))))) :
    mj_J G mY_K_spend Ex N S 0 [(0, va_rf (some h0)), (1, .int v1)] [] μ := by
  refine mj_aload_n 0 md_K_spend_0 rfl ?_
  refine mj_dup md_K_spend_1 (mj_rfc _) ?_
  obtain ⟨ht1, H⟩ := H
  refine mj_getf (v := .int (mj_i μ h0 14)) rfl kc_K 14 (by decide) tw_238 md_K_spend_2 ht1 rfl ?_
  refine mj_iload_n 1 md_K_spend_5 rfl ?_
  refine mj_iadd md_K_spend_6 ?_
  refine mj_putI rfl kc_K 14 (by decide) rfl tw_238 md_K_spend_7 (Or.inl rfl) ht1 rfl rfl ?_
  refine mj_aload_n 0 md_K_spend_10 rfl ?_
  refine mj_getf (v := va_rf (mj_r μ h0 7)) rfl kc_K 7 (by decide) tw_228 md_K_spend_11 ht1 rfl ?_
  obtain ⟨H1, H2⟩ := H
  refine mj_ifnull (tgt := 27) md_K_spend_14 (by decide) (fun hb => ?_) (fun b2 hb3 => ?_)
  · replace H := H1 hb
    exact mj_return md_K_spend_27 rfl H
  · replace H := H2 b2 hb3
    refine mj_aload_n 0 md_K_spend_17 rfl ?_
    refine mj_getf (v := va_rf (mj_r μ h0 7)) rfl kc_K 7 (by decide) tw_228 md_K_spend_18 ht1 rfl ?_
    obtain ⟨ht4, H⟩ := H
    refine mj_getf (v := .int (mj_i μ b2 0)) hb3 kc_P 0 (by decide) tw_197 md_K_spend_21 ht4 rfl ?_
    obtain ⟨H1, H2⟩ := H
    refine mj_if_eq (tgt := 28) md_K_spend_24 (by decide) (fun hx => ?_) (fun hx => ?_)
    · replace H := H1 hx
      refine mj_aload_n 0 md_K_spend_28 rfl ?_
      refine mj_dup md_K_spend_29 (mj_rfc _) ?_
      refine mj_getf (v := .int (mj_i μ h0 8)) rfl kc_K 8 (by decide) tw_230 md_K_spend_30 ht1 rfl ?_
      refine mj_iload_n 1 md_K_spend_33 rfl ?_
      refine mj_iadd md_K_spend_34 ?_
      refine mj_putI rfl kc_K 8 (by decide) rfl tw_230 md_K_spend_35 (Or.inl rfl) ht1 rfl rfl ?_
      refine mj_aload_n 0 md_K_spend_38 rfl ?_
      refine mj_getf (v := .int ((mj_i μ h0 8) + v1)) rfl kc_K 8 (by decide) tw_230 md_K_spend_39 ht1 (by show Value.int (mj_i (mj_pI (mj_pI μ h0 14 ((mj_i μ h0 14) + v1)) h0 8 ((mj_i μ h0 8) + v1)) h0 8) = _; rw [mj_sI]) ?_
      refine mj_aload_n 0 md_K_spend_42 rfl ?_
      refine mj_getf (v := va_rf (mj_r μ h0 7)) rfl kc_K 7 (by decide) tw_228 md_K_spend_43 ht1 rfl ?_
      refine mj_getf (v := .int (mj_i μ b2 1)) hb3 kc_P 1 (by decide) tw_200 md_K_spend_46 ht4 rfl ?_
      obtain ⟨H1, H2⟩ := H
      refine mj_icmp_lt (tgt := 68) md_K_spend_49 (by decide) (fun hx => ?_) (fun hx => ?_)
      · replace H := H1 hx
        exact mj_return md_K_spend_68 rfl H
      · replace H := H2 hx
        refine mj_aload_n 0 md_K_spend_52 rfl ?_
        refine mj_aload_n 0 md_K_spend_53 rfl ?_
        refine mj_getf (v := va_rf (mj_r μ h0 7)) rfl kc_K 7 (by decide) tw_228 md_K_spend_54 ht1 rfl ?_
        refine mj_getf (v := va_rf (mj_r μ b2 2)) hb3 kc_P 2 (by decide) tw_202 md_K_spend_57 ht4 rfl ?_
        refine mj_putR rfl kc_K 7 (by decide) rfl tw_228 md_K_spend_60 (Or.inl rfl) ht1 ?_
        refine mj_aload_n 0 md_K_spend_63 rfl ?_
        refine mj_iconst (v := 0) md_K_spend_64 (by decide) ?_
        refine mj_putI rfl kc_K 8 (by decide) rfl tw_230 md_K_spend_65 (Or.inl rfl) ht1 rfl rfl ?_
        exact mj_return md_K_spend_68 rfl H
    · replace H := H2 hx
      exact mj_return md_K_spend_27 rfl H

set_option maxRecDepth 20000 in
theorem bk_E_init_0 {G : mj_G} {Ex : Option Value → mj_MM → Prop} {N S : Nat} {μ : mj_MM} {h0 : Nat} {v1 : Option Nat} {v2 : Int32}
    (H : ((mj_t μ h0 = 10) ∧ Ex none (mj_pI (mj_pR μ h0 0 v1) h0 1 v2))) :
    mj_J G mY_E_init Ex N S 0 [(0, va_rf (some h0)), (1, va_rf v1), (2, .int v2)] [] μ := by
  refine mj_aload_n 0 md_E_init_0 rfl ?_
  refine mj_objInit rfl tw_335 tw_19 tw_20 md_E_init_1 (by decide) (by first | decide | (simp only [List.map_cons, List.map_nil, List.sum_cons, List.sum_nil, mj_rfc, mj_ci, mj_cl]; done) | (simp only [List.map_cons, List.map_nil, List.sum_cons, List.sum_nil, mj_rfc, mj_ci, mj_cl]; decide)) ?_
  refine mj_aload_n 0 md_E_init_4 rfl ?_
  refine mj_aload_n 1 md_E_init_5 rfl ?_
  obtain ⟨ht1, H⟩ := H
  refine mj_putR rfl kc_E 0 (by decide) rfl tw_336 md_E_init_6 (Or.inr ⟨rfl, rfl, rfl⟩) ht1 ?_
  refine mj_aload_n 0 md_E_init_9 rfl ?_
  refine mj_iload_n 2 md_E_init_10 rfl ?_
  refine mj_putI rfl kc_E 1 (by decide) rfl tw_338 md_E_init_11 (Or.inr ⟨rfl, rfl, rfl⟩) ht1 rfl rfl ?_
  exact mj_return md_E_init_14 rfl H
