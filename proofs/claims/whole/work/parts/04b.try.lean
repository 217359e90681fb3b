set_option maxRecDepth 20000 in
theorem bk_T_taskOf_0 {G : mj_G} {Ex : Option Value → mj_MM → Prop} {N S : Nat} {μ : mj_MM} {h0 : Nat} {v1 : Int32}
    (H : ((v1 < 1 → Ex (some (va_rf none)) μ) ∧ (¬ v1 < 1 → ((mj_t μ h0 = 1) ∧ ∃ b2 : Nat, (mj_r μ h0 0 = some b2) ∧ (mj_t μ b2 = 1004) ∧ ((v1 < (nI (mj_n μ b2)) → ((vp_in v1 (mj_n μ b2)) ∧ Ex (some (va_rf (mj_r μ b2 (Int32.toNatClampNeg v1)))) μ)) ∧ (¬ v1 < (nI (mj_n μ b2)) → Ex (some (va_rf none)) μ)))))) :
    mj_J G mY_T_taskOf Ex N S 0 [(0, va_rf (some h0)), (1, .int v1)] [] μ := by
  refine mj_iload_n 1 md_T_taskOf_0 rfl ?_
  refine mj_iconst (v := 1) md_T_taskOf_1 (by decide) ?_
  obtain ⟨H1, H2⟩ := H
  refine mj_icmp_lt (tgt := 14) md_T_taskOf_2 (by decide) (fun hx => ?_) (fun hx => ?_)
  · replace H := H1 hx
    refine mj_null md_T_taskOf_14 ?_
    refine mj_goto (tgt := 24) md_T_taskOf_15 (by decide) ?_
    exact mj_areturn md_T_taskOf_24 rfl (Or.inl ⟨_, rfl⟩) H
  · replace H := H2 hx
    refine mj_iload_n 1 md_T_taskOf_5 rfl ?_
    refine mj_aload_n 0 md_T_taskOf_6 rfl ?_
    obtain ⟨ht1, H⟩ := H
    refine mj_getf (v := va_rf (mj_r μ h0 0)) rfl kc_T 0 (by decide) tw_137 md_T_taskOf_7 ht1 rfl ?_
    obtain ⟨b2, hb3, H⟩ := H
    obtain ⟨ht4, H⟩ := H
    refine mj_alen (t := 4) hb3 rfl ht4 md_T_taskOf_10 ?_
    obtain ⟨H1, H2⟩ := H
    refine mj_icmp_lt (tgt := 18) md_T_taskOf_11 (by decide) (fun hx => ?_) (fun hx => ?_)
    · replace H := H1 hx
      refine mj_aload_n 0 md_T_taskOf_18 rfl ?_
      refine mj_getf (v := va_rf (mj_r μ h0 0)) rfl kc_T 0 (by decide) tw_137 md_T_taskOf_19 ht1 rfl ?_
      refine mj_iload_n 1 md_T_taskOf_22 rfl ?_
      obtain ⟨hi5, H⟩ := H
      refine mj_aald (t := 4) hb3 rfl rfl ht4 hi5 md_T_taskOf_23 ?_
      exact mj_areturn md_T_taskOf_24 rfl (Or.inl ⟨_, rfl⟩) H
    · replace H := H2 hx
      refine mj_null md_T_taskOf_14 ?_
      refine mj_goto (tgt := 24) md_T_taskOf_15 (by decide) ?_
      exact mj_areturn md_T_taskOf_24 rfl (Or.inl ⟨_, rfl⟩) H

set_option maxRecDepth 20000 in
theorem bk_T_choose_0 {G : mj_G} {Ex : Option Value → mj_MM → Prop} {N S : Nat} {μ : mj_MM} {h0 : Nat} {v1 : Option Nat}
    (H : (∃ b1 : Nat, (v1 = some b1) ∧ (mj_t μ b1 = 2) ∧ ((mj_r μ b1 4 = none → mj_J G mY_T_choose Ex N S 37 [(1, va_rf v1), (2, va_rf (mj_r μ b1 4)), (3, va_rf (mj_r μ b1 4)), (4, va_rf (mj_r μ b1 2))] [] (mj_pI μ b1 6 0)) ∧ (∀ b4 : Nat, mj_r μ b1 4 = some b4 → ((mj_t μ b4 = 9) ∧ ((¬ (mj_i μ b4 5) = 0 → mj_J G mY_T_choose Ex N S 37 [(1, va_rf v1), (2, va_rf (mj_r μ b1 4)), (3, va_rf (mj_r μ b1 4)), (4, va_rf (mj_r μ b1 2))] [] (mj_pI μ b1 6 0)) ∧ ((mj_i μ b4 5) = 0 → ((¬ (mj_i μ b1 6) = 0 → mj_J G mY_T_choose Ex N S 37 [(1, va_rf v1), (2, va_rf (mj_r μ b1 4)), (3, va_rf (mj_r μ b1 4)), (4, va_rf (mj_r μ b1 2))] [] (mj_pI μ b1 6 0)) ∧ ((mj_i μ b1 6) = 0 → Ex none μ))))))))) :
    mj_J G mY_T_choose Ex N S 0 [(0, va_rf (some h0)), (1, va_rf v1)] [] μ := by
  refine mj_aload_n 1 md_T_choose_0 rfl ?_
  obtain ⟨b1, hb2, H⟩ := H
  obtain ⟨ht3, H⟩ := H
  refine mj_getf (v := va_rf (mj_r μ b1 4)) hb2 kc_C 4 (by decide) tw_87 md_T_choose_1 ht3 rfl ?_
  refine mj_astn (i := 2) (lv' := [(2, va_rf (mj_r μ b1 4)), (0, va_rf (some h0)), (1, va_rf v1)]) md_T_choose_4 rfl (by decide) (by first | rfl | simp [mj_rfc]) ?_
  refine mj_aload_n 0 md_T_choose_5 rfl ?_
  obtain ⟨H1, H2⟩ := H
  refine mj_ifnull (tgt := 24) md_T_choose_6 (by decide) (fun hb => ?_) (fun b4 hb5 => ?_)
  · replace H := H1 hb
    refine mj_aload_n 2 md_T_choose_24 rfl ?_
    refine mj_iconst (v := 0) md_T_choose_25 (by decide) ?_
    refine mj_putI hb2 kc_C 6 (by decide) rfl tw_90 md_T_choose_26 (Or.inl rfl) ht3 (by decide) (by decide) ?_
    refine mj_aload_n 0 md_T_choose_29 rfl ?_
    refine mj_astn (i := 3) (lv' := [(3, va_rf (mj_r μ b1 4)), (2, va_rf (mj_r μ b1 4)), (0, va_rf (some h0)), (1, va_rf v1)]) md_T_choose_30 rfl (by decide) (by first | rfl | simp [mj_rfc]) ?_
    refine mj_aload_n 3 md_T_choose_31 rfl ?_
    refine mj_getf (v := va_rf (mj_r μ b1 2)) hb2 kc_C 2 (by decide) tw_85 md_T_choose_32 ht3 rfl ?_
    refine mj_astore (lv' := [(4, va_rf (mj_r μ b1 2)), (3, va_rf (mj_r μ b1 4)), (2, va_rf (mj_r μ b1 4)), (0, va_rf (some h0)), (1, va_rf v1)]) md_T_choose_35 (by decide) (by first | rfl | simp [mj_rfc]) ?_
    exact mj_lvs [4, 2, 1, 0] rfl H
  · replace H := H2 b4 hb5
    refine mj_aload_n 0 md_T_choose_9 rfl ?_
    obtain ⟨ht6, H⟩ := H
    refine mj_getf (v := .int (mj_i μ b4 5)) hb5 kc_K 5 (by decide) tw_224 md_T_choose_10 ht6 rfl ?_
    obtain ⟨H1, H2⟩ := H
    refine mj_if_ne (tgt := 24) md_T_choose_13 (by decide) (fun hx => ?_) (fun hx => ?_)
    · replace H := H1 hx
      refine mj_aload_n 2 md_T_choose_24 rfl ?_
      refine mj_iconst (v := 0) md_T_choose_25 (by decide) ?_
      refine mj_putI hb2 kc_C 6 (by decide) rfl tw_90 md_T_choose_26 (Or.inl rfl) ht3 (by decide) (by decide) ?_
      refine mj_aload_n 0 md_T_choose_29 rfl ?_
      refine mj_astn (i := 3) (lv' := [(3, va_rf (mj_r μ b1 4)), (2, va_rf (mj_r μ b1 4)), (0, va_rf (some h0)), (1, va_rf v1)]) md_T_choose_30 rfl (by decide) (by first | rfl | simp [mj_rfc]) ?_
      refine mj_aload_n 3 md_T_choose_31 rfl ?_
      refine mj_getf (v := va_rf (mj_r μ b1 2)) hb2 kc_C 2 (by decide) tw_85 md_T_choose_32 ht3 rfl ?_
      refine mj_astore (lv' := [(4, va_rf (mj_r μ b1 2)), (3, va_rf (mj_r μ b1 4)), (2, va_rf (mj_r μ b1 4)), (0, va_rf (some h0)), (1, va_rf v1)]) md_T_choose_35 (by decide) (by first | rfl | simp [mj_rfc]) ?_
      exact mj_lvs [4, 2, 1, 0] rfl H
    · replace H := H2 hx
      refine mj_aload_n 2 md_T_choose_16 rfl ?_
      refine mj_getf (v := .int (mj_i μ b1 6)) hb2 kc_C 6 (by decide) tw_90 md_T_choose_17 ht3 rfl ?_
      obtain ⟨H1, H2⟩ := H
      refine mj_if_ne (tgt := 24) md_T_choose_20 (by decide) (fun hx => ?_) (fun hx => ?_)
      · replace H := H1 hx
        refine mj_aload_n 2 md_T_choose_24 rfl ?_
        refine mj_iconst (v := 0) md_T_choose_25 (by decide) ?_
        refine mj_putI hb2 kc_C 6 (by decide) rfl tw_90 md_T_choose_26 (Or.inl rfl) ht3 (by decide) (by decide) ?_
        refine mj_aload_n 0 md_T_choose_29 rfl ?_
        refine mj_astn (i := 3) (lv' := [(3, va_rf (mj_r μ b1 4)), (2, va_rf (mj_r μ b1 4)), (0, va_rf (some h0)), (1, va_rf v1)]) md_T_choose_30 rfl (by decide) (by first | rfl | simp [mj_rfc]) ?_
        refine mj_aload_n 3 md_T_choose_31 rfl ?_
        refine mj_getf (v := va_rf (mj_r μ b1 2)) hb2 kc_C 2 (by decide) tw_85 md_T_choose_32 ht3 rfl ?_
        refine mj_astore (lv' := [(4, va_rf (mj_r μ b1 2)), (3, va_rf (mj_r μ b1 4)), (2, va_rf (mj_r μ b1 4)), (0, va_rf (some h0)), (1, va_rf v1)]) md_T_choose_35 (by decide) (by first | rfl | simp [mj_rfc]) ?_
        exact mj_lvs [4, 2, 1, 0] rfl H
      · replace H := H2 hx
        exact mj_return md_T_choose_23 rfl H

set_option maxRecDepth 20000 in
theorem bk_T_choose_37 {G : mj_G} {Ex : Option Value → mj_MM → Prop} {N S : Nat} {μ : mj_MM} {v1 : Option Nat} {v2 : Option Nat} {v3 : Option Nat} {v4 : Option Nat}
    (H : ((v4 = none → ((v3 = none → Ex none μ) ∧ (∀ b3 : Nat, v3 = some b3 → ((¬ v3 = v2 → ((v2 = none → ((mj_t μ b3 = 9) ∧ ∃ b8 : Nat, (v1 = some b8) ∧ (mj_t μ b8 = 2) ∧ Ex none (mj_pR (mj_pI μ b3 9 2) b8 4 v3))) ∧ (∀ b5 : Nat, v2 = some b5 → ((mj_t μ b5 = 9) ∧ (mj_t μ b3 = 9) ∧ ∃ b13 : Nat, (v1 = some b13) ∧ (mj_t μ b13 = 2) ∧ Ex none (mj_pR (mj_pI (mj_pI μ b5 9 1) b3 9 2) b13 4 v3))))) ∧ (v3 = v2 → Ex none μ))))) ∧ (∀ b1 : Nat, v4 = some b1 → ((mj_t μ b1 = 9) ∧ ((¬ (mj_i μ b1 9) = 1 → mj_J G mY_T_choose Ex N S 37 [(1, va_rf v1), (2, va_rf v2), (3, va_rf v3), (4, va_rf (mj_r μ b1 17))] [] μ) ∧ ((mj_i μ b1 9) = 1 → ((v3 = none → mj_J G mY_T_choose Ex N S 37 [(1, va_rf v1), (2, va_rf v2), (3, va_rf v4), (4, va_rf (mj_r μ b1 17))] [] μ) ∧ (∀ b17 : Nat, v3 = some b17 → (∃ P : Int32 → mj_MM → Prop, mj_M G my_K_comesBefore mY_K_comesBefore [va_rf (some b1), va_rf v3] (mj_nc μ) (mj_ns μ) μ (mj_XI P) ∧ ∀ (x : Int32) (μ' : mj_MM), P x μ' → mj_nc μ' = mj_nc μ → mj_ns μ' = mj_ns μ → mj_J G mY_T_choose Ex N S 61 [(1, va_rf v1), (2, va_rf v2), (3, va_rf v3), (4, va_rf v4)] [.int x] μ'))))))))) :
    mj_J G mY_T_choose Ex N S 37 [(1, va_rf v1), (2, va_rf v2), (3, va_rf v3), (4, va_rf v4)] [] μ := by
  refine mj_aload 3 md_T_choose_37 rfl ?_
  obtain ⟨H1, H2⟩ := H
  refine mj_ifnull (tgt := 77) md_T_choose_39 (by decide) (fun hb => ?_) (fun b1 hb2 => ?_)
  · replace H := H1 hb
    refine mj_aload_n 2 md_T_choose_77 rfl ?_
    obtain ⟨H1, H2⟩ := H
    refine mj_ifnull (tgt := 86) md_T_choose_78 (by decide) (fun hb => ?_) (fun b3 hb4 => ?_)
    · replace H := H1 hb
      exact mj_return md_T_choose_86 rfl H
    · replace H := H2 b3 hb4
      refine mj_aload_n 2 md_T_choose_81 rfl ?_
      refine mj_aload_n 1 md_T_choose_82 rfl ?_
      obtain ⟨H1, H2⟩ := H
      refine mj_acmp_ne (tgt := 87) md_T_choose_83 (by decide) (fun hx => ?_) (fun hx => ?_)
      · replace H := H1 hx
        refine mj_aload_n 1 md_T_choose_87 rfl ?_
        obtain ⟨H1, H2⟩ := H
        refine mj_ifnull (tgt := 96) md_T_choose_88 (by decide) (fun hb => ?_) (fun b5 hb6 => ?_)
        · replace H := H1 hb
          refine mj_aload_n 2 md_T_choose_96 rfl ?_
          refine mj_iconst (v := 2) md_T_choose_97 (by decide) ?_
          obtain ⟨ht7, H⟩ := H
          refine mj_putI hb4 kc_K 9 (by decide) rfl tw_232 md_T_choose_98 (Or.inl rfl) ht7 rfl rfl ?_
          refine mj_aload_n 0 md_T_choose_101 rfl ?_
          refine mj_aload_n 2 md_T_choose_102 rfl ?_
          obtain ⟨b8, hb9, H⟩ := H
          obtain ⟨ht10, H⟩ := H
          refine mj_putR hb9 kc_C 4 (by decide) rfl tw_87 md_T_choose_103 (Or.inl rfl) ht10 ?_
          exact mj_return md_T_choose_106 rfl H
        · replace H := H2 b5 hb6
          refine mj_aload_n 1 md_T_choose_91 rfl ?_
          refine mj_iconst (v := 1) md_T_choose_92 (by decide) ?_
          obtain ⟨ht11, H⟩ := H
          refine mj_putI hb6 kc_K 9 (by decide) rfl tw_232 md_T_choose_93 (Or.inl rfl) ht11 rfl rfl ?_
          refine mj_aload_n 2 md_T_choose_96 rfl ?_
          refine mj_iconst (v := 2) md_T_choose_97 (by decide) ?_
          obtain ⟨ht12, H⟩ := H
          refine mj_putI hb4 kc_K 9 (by decide) rfl tw_232 md_T_choose_98 (Or.inl rfl) ht12 rfl rfl ?_
          refine mj_aload_n 0 md_T_choose_101 rfl ?_
          refine mj_aload_n 2 md_T_choose_102 rfl ?_
          obtain ⟨b13, hb14, H⟩ := H
          obtain ⟨ht15, H⟩ := H
          refine mj_putR hb14 kc_C 4 (by decide) rfl tw_87 md_T_choose_103 (Or.inl rfl) ht15 ?_
          exact mj_return md_T_choose_106 rfl H
      · replace H := H2 hx
        exact mj_return md_T_choose_86 rfl H
  · replace H := H2 b1 hb2
    refine mj_aload 3 md_T_choose_42 rfl ?_
    obtain ⟨ht16, H⟩ := H
    refine mj_getf (v := .int (mj_i μ b1 9)) hb2 kc_K 9 (by decide) tw_232 md_T_choose_44 ht16 rfl ?_
    refine mj_iconst (v := 1) md_T_choose_47 (by decide) ?_
    obtain ⟨H1, H2⟩ := H
    refine mj_icmp_ne (tgt := 67) md_T_choose_48 (by decide) (fun hx => ?_) (fun hx => ?_)
    · replace H := H1 hx
      refine mj_aload 3 md_T_choose_67 rfl ?_
      refine mj_getf (v := va_rf (mj_r μ b1 17)) hb2 kc_K 17 (by decide) tw_245 md_T_choose_69 ht16 rfl ?_
      refine mj_astore (lv' := [(4, va_rf (mj_r μ b1 17)), (1, va_rf v1), (2, va_rf v2), (3, va_rf v3)]) md_T_choose_72 (by decide) (by first | rfl | simp [mj_rfc]) ?_
      refine mj_goto (tgt := 37) md_T_choose_74 (by decide) ?_
      exact mj_lvs [1, 2, 3, 0] rfl H
    · replace H := H2 hx
      refine mj_aload_n 2 md_T_choose_51 rfl ?_
      obtain ⟨H1, H2⟩ := H
      refine mj_ifnull (tgt := 64) md_T_choose_52 (by decide) (fun hb => ?_) (fun b17 hb18 => ?_)
      · replace H := H1 hb
        refine mj_aload 3 md_T_choose_64 rfl ?_
        refine mj_astn (i := 3) (lv' := [(3, va_rf v4), (1, va_rf v1), (2, va_rf v2), (4, va_rf v4)]) md_T_choose_66 rfl (by decide) (by first | rfl | simp [mj_rfc]) ?_
        refine mj_aload 3 md_T_choose_67 rfl ?_
        refine mj_getf (v := va_rf (mj_r μ b1 17)) hb2 kc_K 17 (by decide) tw_245 md_T_choose_69 ht16 rfl ?_
        refine mj_astore (lv' := [(4, va_rf (mj_r μ b1 17)), (3, va_rf v4), (1, va_rf v1), (2, va_rf v2)]) md_T_choose_72 (by decide) (by first | rfl | simp [mj_rfc]) ?_
        refine mj_goto (tgt := 37) md_T_choose_74 (by decide) ?_
        exact mj_lvs [2, 3, 1, 0] rfl H
      · replace H := H2 b17 hb18
        refine mj_aload 3 md_T_choose_55 rfl ?_
        refine mj_aload_n 2 md_T_choose_57 rfl ?_
        obtain ⟨P, hM, H⟩ := H
        exact mj_callV (n := 1) (As := [va_rf v3]) hb2 hM kc_K ht16 ⟨tw_429, tw_9, tw_432, ⟨by decide, by decide, by decide +kernel⟩, by decide, by decide⟩ tw_430 tw_431 rfl md_T_choose_58 (by first | decide | simp [mj_rfc, Value.category]) id (mj_kI (fun x μ' hP e1 e2 => mj_lvs [0, 1, 2, 3] rfl (H x μ' hP e1 e2)))

set_option maxRecDepth 20000 in
theorem bk_T_choose_61 {G : mj_G} {Ex : Option Value → mj_MM → Prop} {N S : Nat} {μ : mj_MM} {v1 : Option Nat} {v2 : Option Nat} {v3 : Option Nat} {v4 : Option Nat} {s0 : Int32}
    (H : ((s0 = 0 → (∃ b1 : Nat, (v4 = some b1) ∧ (mj_t μ b1 = 9) ∧ mj_J G mY_T_choose Ex N S 37 [(1, va_rf v1), (2, va_rf v2), (3, va_rf v3), (4, va_rf (mj_r μ b1 17))] [] μ)) ∧ (¬ s0 = 0 → (∃ b4 : Nat, (v4 = some b4) ∧ (mj_t μ b4 = 9) ∧ mj_J G mY_T_choose Ex N S 37 [(1, va_rf v1), (2, va_rf v2), (3, va_rf v4), (4, va_rf (mj_r μ b4 17))] [] μ)))) :
    mj_J G mY_T_choose Ex N S 61 [(1, va_rf v1), (2, va_rf v2), (3, va_rf v3), (4, va_rf v4)] [.int s0] μ := by
  obtain ⟨H1, H2⟩ := H
  refine mj_if_eq (tgt := 67) md_T_choose_61 (by decide) (fun hx => ?_) (fun hx => ?_)
  · replace H := H1 hx
    refine mj_aload 3 md_T_choose_67 rfl ?_
    obtain ⟨b1, hb2, H⟩ := H
    obtain ⟨ht3, H⟩ := H
    refine mj_getf (v := va_rf (mj_r μ b1 17)) hb2 kc_K 17 (by decide) tw_245 md_T_choose_69 ht3 rfl ?_
    refine mj_astore (lv' := [(4, va_rf (mj_r μ b1 17)), (1, va_rf v1), (2, va_rf v2), (3, va_rf v3)]) md_T_choose_72 (by decide) (by first | rfl | simp [mj_rfc]) ?_
    refine mj_goto (tgt := 37) md_T_choose_74 (by decide) ?_
    exact mj_lvs [1, 2, 3, 0] rfl H
  · replace H := H2 hx
    refine mj_aload 3 md_T_choose_64 rfl ?_
    refine mj_astn (i := 3) (lv' := [(3, va_rf v4), (1, va_rf v1), (2, va_rf v2), (4, va_rf v4)]) md_T_choose_66 rfl (by decide) (by first | rfl | simp [mj_rfc]) ?_
    refine mj_aload 3 md_T_choose_67 rfl ?_
    obtain ⟨b4, hb5, H⟩ := H
    obtain ⟨ht6, H⟩ := H
    refine mj_getf (v := va_rf (mj_r μ b4 17)) hb5 kc_K 17 (by decide) tw_245 md_T_choose_69 ht6 rfl ?_
    refine mj_astore (lv' := [(4, va_rf (mj_r μ b4 17)), (3, va_rf v4), (1, va_rf v1), (2, va_rf v2)]) md_T_choose_72 (by decide) (by first | rfl | simp [mj_rfc]) ?_
    refine mj_goto (tgt := 37) md_T_choose_74 (by decide) ?_
    exact mj_lvs [2, 3, 1, 0] rfl H

set_option maxRecDepth 20000 in
theorem bk_M_no_0 {G : mj_G} {Ex : Option Value → mj_MM → Prop} {N S : Nat} {μ : mj_MM} {h0 : Nat} {v1 : Int32}
    (H : ((v1 < 1 → Ex (some (.int 1)) μ) ∧ (¬ v1 < 1 → ((mj_t μ h0 = 11) ∧ ((v1 ≤ (mj_i μ h0 1) → Ex (some (.int 0)) μ) ∧ (¬ v1 ≤ (mj_i μ h0 1) → Ex (some (.int 1)) μ)))))) :
    mj_J G mY_M_no Ex N S 0 [(0, va_rf (some h0)), (1, .int v1)] [] μ := by
  refine mj_iload_n 1 md_M_no_0 rfl ?_
  refine mj_iconst (v := 1) md_M_no_1 (by decide) ?_
  obtain ⟨H1, H2⟩ := H
  refine mj_icmp_lt (tgt := 13) md_M_no_2 (by decide) (fun hx => ?_) (fun hx => ?_)
  · replace H := H1 hx
    refine mj_iconst (v := 1) md_M_no_13 (by decide) ?_
    refine mj_goto (tgt := 18) md_M_no_14 (by decide) ?_
    exact mj_ireturn md_M_no_18 rfl (by decide) H
  · replace H := H2 hx
    refine mj_iload_n 1 md_M_no_5 rfl ?_
    refine mj_aload_n 0 md_M_no_6 rfl ?_
    obtain ⟨ht1, H⟩ := H
    refine mj_getf (v := .int (mj_i μ h0 1)) rfl kc_M 1 (by decide) tw_624 md_M_no_7 ht1 rfl ?_
    obtain ⟨H1, H2⟩ := H
    refine mj_icmp_le (tgt := 17) md_M_no_10 (by decide) (fun hx => ?_) (fun hx => ?_)
    · replace H := H1 hx
      refine mj_iconst (v := 0) md_M_no_17 (by decide) ?_
      exact mj_ireturn md_M_no_18 rfl (by decide) H
    · replace H := H2 hx
      refine mj_iconst (v := 1) md_M_no_13 (by decide) ?_
      refine mj_goto (tgt := 18) md_M_no_14 (by decide) ?_
      exact mj_ireturn md_M_no_18 rfl (by decide) H

set_option maxRecDepth 20000 in
theorem bk_M_tell_0 {G : mj_G} {Ex : Option Value → mj_MM → Prop} {N S : Nat} {μ : mj_MM} {h0 : Nat} {v1 : Int32} {v2 : Int32}
    (H : ((mj_t μ h0 = 11) ∧ ((1000 ≤ (mj_i μ h0 39) → Ex none (mj_pI μ h0 39 ((mj_i μ h0 39) + 1))) ∧ (¬ 1000 ≤ (mj_i μ h0 39) → (∃ b2 : Nat, (mj_r μ h0 40 = some b2) ∧ (mj_t μ b2 = 1000) ∧ (vp_in (mj_i μ h0 39) (mj_n μ b2)) ∧ ∃ b6 : Nat, (mj_r μ h0 41 = some b6) ∧ (mj_t μ b6 = 1000) ∧ (vp_in (mj_i (mj_pI μ b2 (Int32.toNatClampNeg (mj_i μ h0 39)) v1) h0 39) (mj_n μ b6)) ∧ ∃ b10 : Nat, (mj_r μ h0 42 = some b10) ∧ (mj_t μ b10 = 1001) ∧ (vp_in (mj_i (mj_pI (mj_pI μ b2 (Int32.toNatClampNeg (mj_i μ h0 39)) v1) b6 (Int32.toNatClampNeg (mj_i (mj_pI μ b2 (Int32.toNatClampNeg (mj_i μ h0 39)) v1) h0 39)) v2) h0 39) (mj_n μ b10)) ∧ Ex none (mj_pI (mj_pL (mj_pI (mj_pI μ b2 (Int32.toNatClampNeg (mj_i μ h0 39)) v1) b6 (Int32.toNatClampNeg (mj_i (mj_pI μ b2 (Int32.toNatClampNeg (mj_i μ h0 39)) v1) h0 39)) v2) b10 (Int32.toNatClampNeg (mj_i (mj_pI (mj_pI μ b2 (Int32.toNatClampNeg (mj_i μ h0 39)) v1) b6 (Int32.toNatClampNeg (mj_i (mj_pI μ b2 (Int32.toNatClampNeg (mj_i μ h0 39)) v1) h0 39)) v2) h0 39)) (mj_l μ h0 43)) h0 39 ((mj_i (mj_pI (mj_pI μ b2 (Int32.toNatClampNeg (mj_i μ h0 39)) v1) b6 (Int32.toNatClampNeg (mj_i (mj_pI μ b2 (Int32.toNatClampNeg (mj_i μ h0 39)) v1) h0 39)) v2) h0 39) + 1))))))) :
    mj_J G mY_M_tell Ex N S 0 [(0, va_rf (some h0)), (1, .int v1), (2, .int v2)] [] μ := by
  refine mj_aload_n 0 md_M_tell_0 rfl ?_
  obtain ⟨ht1, H⟩ := H
  refine mj_getf (v := .int (mj_i μ h0 39)) rfl kc_M 39 (by decide) tw_662 md_M_tell_1 ht1 rfl ?_
  refine mj_sipush (v := 1000) md_M_tell_4 (by decide) ?_
  obtain ⟨H1, H2⟩ := H
  refine mj_icmp_ge (tgt := 43) md_M_tell_7 (by decide) (fun hx => ?_) (fun hx => ?_)
  · replace H := H1 hx
    refine mj_aload_n 0 md_M_tell_43 rfl ?_
    refine mj_dup md_M_tell_44 (mj_rfc _) ?_
    refine mj_getf (v := .int (mj_i μ h0 39)) rfl kc_M 39 (by decide) tw_662 md_M_tell_45 ht1 rfl ?_
    refine mj_iconst (v := 1) md_M_tell_48 (by decide) ?_
    refine mj_iadd md_M_tell_49 ?_
    refine mj_putI rfl kc_M 39 (by decide) rfl tw_662 md_M_tell_50 (Or.inl rfl) ht1 rfl rfl ?_
    exact mj_return md_M_tell_53 rfl H
  · replace H := H2 hx
    refine mj_aload_n 0 md_M_tell_10 rfl ?_
    refine mj_getf (v := va_rf (mj_r μ h0 40)) rfl kc_M 40 (by decide) tw_663 md_M_tell_11 ht1 rfl ?_
    refine mj_aload_n 0 md_M_tell_14 rfl ?_
    refine mj_getf (v := .int (mj_i μ h0 39)) rfl kc_M 39 (by decide) tw_662 md_M_tell_15 ht1 rfl ?_
    refine mj_iload_n 1 md_M_tell_18 rfl ?_
    obtain ⟨b2, hb3, H⟩ := H
    obtain ⟨ht4, H⟩ := H
    obtain ⟨hi5, H⟩ := H
    refine mj_iast (t := 0) hb3 rfl ht4 hi5 md_M_tell_19 ?_
    refine mj_aload_n 0 md_M_tell_20 rfl ?_
    refine mj_getf (v := va_rf (mj_r μ h0 41)) rfl kc_M 41 (by decide) tw_664 md_M_tell_21 ht1 rfl ?_
    refine mj_aload_n 0 md_M_tell_24 rfl ?_
    refine mj_getf (v := .int (mj_i (mj_pI μ b2 (Int32.toNatClampNeg (mj_i μ h0 39)) v1) h0 39)) rfl kc_M 39 (by decide) tw_662 md_M_tell_25 ht1 rfl ?_
    refine mj_iload_n 2 md_M_tell_28 rfl ?_
    obtain ⟨b6, hb7, H⟩ := H
    obtain ⟨ht8, H⟩ := H
    obtain ⟨hi9, H⟩ := H
    refine mj_iast (t := 0) hb7 rfl ht8 hi9 md_M_tell_29 ?_
    refine mj_aload_n 0 md_M_tell_30 rfl ?_
    refine mj_getf (v := va_rf (mj_r μ h0 42)) rfl kc_M 42 (by decide) tw_665 md_M_tell_31 ht1 rfl ?_
    refine mj_aload_n 0 md_M_tell_34 rfl ?_
    refine mj_getf (v := .int (mj_i (mj_pI (mj_pI μ b2 (Int32.toNatClampNeg (mj_i μ h0 39)) v1) b6 (Int32.toNatClampNeg (mj_i (mj_pI μ b2 (Int32.toNatClampNeg (mj_i μ h0 39)) v1) h0 39)) v2) h0 39)) rfl kc_M 39 (by decide) tw_662 md_M_tell_35 ht1 rfl ?_
    refine mj_aload_n 0 md_M_tell_38 rfl ?_
    refine mj_getf (v := .long (mj_l μ h0 43)) rfl kc_M 43 (by decide) tw_666 md_M_tell_39 ht1 rfl ?_
    obtain ⟨b10, hb11, H⟩ := H
    obtain ⟨ht12, H⟩ := H
    obtain ⟨hi13, H⟩ := H
    refine mj_last (t := 1) hb11 rfl ht12 hi13 md_M_tell_42 ?_
    refine mj_aload_n 0 md_M_tell_43 rfl ?_
    refine mj_dup md_M_tell_44 (mj_rfc _) ?_
    refine mj_getf (v := .int (mj_i (mj_pI (mj_pI μ b2 (Int32.toNatClampNeg (mj_i μ h0 39)) v1) b6 (Int32.toNatClampNeg (mj_i (mj_pI μ b2 (Int32.toNatClampNeg (mj_i μ h0 39)) v1) h0 39)) v2) h0 39)) rfl kc_M 39 (by decide) tw_662 md_M_tell_45 ht1 rfl ?_
    refine mj_iconst (v := 1) md_M_tell_48 (by decide) ?_
    refine mj_iadd md_M_tell_49 ?_
    refine mj_putI rfl kc_M 39 (by decide) rfl tw_662 md_M_tell_50 (Or.inl rfl) ht1 rfl rfl ?_
    exact mj_return md_M_tell_53 rfl H

set_option maxRecDepth 20000 in
theorem bk_M_ready_0 {G : mj_G} {Ex : Option Value → mj_MM → Prop} {N S : Nat} {μ : mj_MM} {h0 : Nat} {v1 : Int32}
    (H : ((mj_t μ h0 = 11) ∧ ∃ b2 : Nat, (mj_r μ h0 12 = some b2) ∧ (mj_t μ b2 = 1001) ∧ (vp_in v1 (mj_n μ b2)) ∧ ∃ b6 : Nat, (mj_r μ h0 11 = some b6) ∧ (mj_t μ b6 = 1000) ∧ (vp_in v1 (mj_n μ b6)) ∧ Ex none (mj_pI (mj_pL (mj_pL μ h0 21 ((mj_l μ h0 21) + 1)) b2 (Int32.toNatClampNeg v1) ((mj_l μ h0 21) + 1)) b6 (Int32.toNatClampNeg v1) 1))) :
    mj_J G mY_M_ready Ex N S 0 [(0, va_rf (some h0)), (1, .int v1)] [] μ := by
  refine mj_aload_n 0 md_M_ready_0 rfl ?_
  refine mj_dup md_M_ready_1 (mj_rfc _) ?_
  obtain ⟨ht1, H⟩ := H
  refine mj_getf (v := .long (mj_l μ h0 21)) rfl kc_M 21 (by decide) tw_644 md_M_ready_2 ht1 rfl ?_
  refine mj_lconst (v := 1) md_M_ready_5 (by decide) ?_
  refine mj_ladd md_M_ready_6 ?_
  refine mj_putL rfl kc_M 21 (by decide) rfl tw_644 md_M_ready_7 (Or.inl rfl) ht1 ?_
  refine mj_aload_n 0 md_M_ready_10 rfl ?_
  refine mj_getf (v := va_rf (mj_r μ h0 12)) rfl kc_M 12 (by decide) tw_635 md_M_ready_11 ht1 rfl ?_
  refine mj_iload_n 1 md_M_ready_14 rfl ?_
  refine mj_aload_n 0 md_M_ready_15 rfl ?_
  refine mj_getf (v := .long ((mj_l μ h0 21) + 1)) rfl kc_M 21 (by decide) tw_644 md_M_ready_16 ht1 (by show Value.long (mj_l (mj_pL μ h0 21 ((mj_l μ h0 21) + 1)) h0 21) = _; rw [mj_sL]) ?_
  obtain ⟨b2, hb3, H⟩ := H
  obtain ⟨ht4, H⟩ := H
  obtain ⟨hi5, H⟩ := H
  refine mj_last (t := 1) hb3 rfl ht4 hi5 md_M_ready_19 ?_
  refine mj_aload_n 0 md_M_ready_20 rfl ?_
  refine mj_getf (v := va_rf (mj_r μ h0 11)) rfl kc_M 11 (by decide) tw_634 md_M_ready_21 ht1 rfl ?_
  refine mj_iload_n 1 md_M_ready_24 rfl ?_
  refine mj_iconst (v := 1) md_M_ready_25 (by decide) ?_
  obtain ⟨b6, hb7, H⟩ := H
  obtain ⟨ht8, H⟩ := H
  obtain ⟨hi9, H⟩ := H
  refine mj_iast (t := 0) hb7 rfl ht8 hi9 md_M_ready_26 ?_
  exact mj_return md_M_ready_27 rfl H

set_option maxRecDepth 20000 in
theorem bk_U_atHand_0 {G : mj_G} {Ex : Option Value → mj_MM → Prop} {N S : Nat} {μ : mj_MM} {h0 : Nat} {v1 : Int32}
    (H : ((mj_t μ h0 = 4) ∧ mj_J G mY_U_atHand Ex N S 5 [(0, va_rf (some h0)), (1, .int v1), (2, va_rf (mj_r μ h0 0))] [] μ)) :
    mj_J G mY_U_atHand Ex N S 0 [(0, va_rf (some h0)), (1, .int v1)] [] μ := by
  refine mj_aload_n 0 md_U_atHand_0 rfl ?_
  obtain ⟨ht1, H⟩ := H
  refine mj_getf (v := va_rf (mj_r μ h0 0)) rfl kc_U 0 (by decide) tw_33 md_U_atHand_1 ht1 rfl ?_
  refine mj_astn (i := 2) (lv' := [(2, va_rf (mj_r μ h0 0)), (0, va_rf (some h0)), (1, .int v1)]) md_U_atHand_4 rfl (by decide) (by first | rfl | simp [mj_rfc]) ?_
  exact mj_lvs [1, 2, 0] rfl H

set_option maxRecDepth 20000 in
theorem bk_U_atHand_5 {G : mj_G} {Ex : Option Value → mj_MM → Prop} {N S : Nat} {μ : mj_MM} {h0 : Nat} {v1 : Int32} {v2 : Option Nat}
    (H : ((v2 = none → Ex (some (va_rf none)) μ) ∧ (∀ b1 : Nat, v2 = some b1 → ((mj_t μ b1 = 3) ∧ ((v1 < (mj_i μ b1 1) → mj_J G mY_U_atHand Ex N S 5 [(0, va_rf (some h0)), (1, .int v1), (2, va_rf (mj_r μ b1 3))] [] μ) ∧ (¬ v1 < (mj_i μ b1 1) → ((mj_t μ h0 = 4) ∧ ((mj_r μ h0 2 = none → Ex (some (va_rf v2)) μ) ∧ (∀ b5 : Nat, mj_r μ h0 2 = some b5 → (((mj_i μ b1 0) ≤ 7 → mj_J G mY_U_atHand Ex N S 5 [(0, va_rf (some h0)), (1, .int v1), (2, va_rf (mj_r μ b1 3))] [] μ) ∧ (¬ (mj_i μ b1 0) ≤ 7 → Ex (some (va_rf v2)) μ))))))))))) :
    mj_J G mY_U_atHand Ex N S 5 [(0, va_rf (some h0)), (1, .int v1), (2, va_rf v2)] [] μ := by
  refine mj_aload_n 2 md_U_atHand_5 rfl ?_
  obtain ⟨H1, H2⟩ := H
  refine mj_ifnull (tgt := 43) md_U_atHand_6 (by decide) (fun hb => ?_) (fun b1 hb2 => ?_)
  · replace H := H1 hb
    refine mj_null md_U_atHand_43 ?_
    exact mj_areturn md_U_atHand_44 rfl (Or.inl ⟨_, rfl⟩) H
  · replace H := H2 b1 hb2
    refine mj_aload_n 2 md_U_atHand_9 rfl ?_
    obtain ⟨ht3, H⟩ := H
    refine mj_getf (v := .int (mj_i μ b1 1)) hb2 kc_I 1 (by decide) tw_367 md_U_atHand_10 ht3 rfl ?_
    refine mj_iload_n 1 md_U_atHand_13 rfl ?_
    obtain ⟨H1, H2⟩ := H
    refine mj_icmp_gt (tgt := 35) md_U_atHand_14 (by decide) (fun hx => ?_) (fun hx => ?_)
    · replace H := H1 hx
      refine mj_aload_n 2 md_U_atHand_35 rfl ?_
      refine mj_getf (v := va_rf (mj_r μ b1 3)) hb2 kc_I 3 (by decide) tw_371 md_U_atHand_36 ht3 rfl ?_
      refine mj_astn (i := 2) (lv' := [(2, va_rf (mj_r μ b1 3)), (0, va_rf (some h0)), (1, .int v1)]) md_U_atHand_39 rfl (by decide) (by first | rfl | simp [mj_rfc]) ?_
      refine mj_goto (tgt := 5) md_U_atHand_40 (by decide) ?_
      exact mj_lvs [1, 2, 0] rfl H
    · replace H := H2 hx
      refine mj_aload_n 0 md_U_atHand_17 rfl ?_
      obtain ⟨ht4, H⟩ := H
      refine mj_getf (v := va_rf (mj_r μ h0 2)) rfl kc_U 2 (by decide) tw_36 md_U_atHand_18 ht4 rfl ?_
      obtain ⟨H1, H2⟩ := H
      refine mj_ifnull (tgt := 33) md_U_atHand_21 (by decide) (fun hb => ?_) (fun b5 hb6 => ?_)
      · replace H := H1 hb
        refine mj_aload_n 2 md_U_atHand_33 rfl ?_
        exact mj_areturn md_U_atHand_34 rfl (Or.inl ⟨_, rfl⟩) H
      · replace H := H2 b5 hb6
        refine mj_aload_n 2 md_U_atHand_24 rfl ?_
        refine mj_getf (v := .int (mj_i μ b1 0)) hb2 kc_I 0 (by decide) tw_364 md_U_atHand_25 ht3 rfl ?_
        refine mj_bipush (v := 7) md_U_atHand_28 (by decide) ?_
        obtain ⟨H1, H2⟩ := H
        refine mj_icmp_le (tgt := 35) md_U_atHand_30 (by decide) (fun hx => ?_) (fun hx => ?_)
        · replace H := H1 hx
          refine mj_aload_n 2 md_U_atHand_35 rfl ?_
          refine mj_getf (v := va_rf (mj_r μ b1 3)) hb2 kc_I 3 (by decide) tw_371 md_U_atHand_36 ht3 rfl ?_
          refine mj_astn (i := 2) (lv' := [(2, va_rf (mj_r μ b1 3)), (0, va_rf (some h0)), (1, .int v1)]) md_U_atHand_39 rfl (by decide) (by first | rfl | simp [mj_rfc]) ?_
          refine mj_goto (tgt := 5) md_U_atHand_40 (by decide) ?_
          exact mj_lvs [1, 2, 0] rfl H
        · replace H := H2 hx
          refine mj_aload_n 2 md_U_atHand_33 rfl ?_
          exact mj_areturn md_U_atHand_34 rfl (Or.inl ⟨_, rfl⟩) H

set_option maxRecDepth 20000 in
theorem bk_G_add_0 {G : mj_G} {Ex : Option Value → mj_MM → Prop} {N S : Nat} {μ : mj_MM} {h0 : Nat} {v1 : Int32} {v2 : Int32} {v3 : Int32}
    (H : ((mj_t μ h0 = 6) ∧ (((mj_i μ h0 2) < 0 → Ex none (mj_pI μ h0 2 ((mj_i μ h0 2) + 1))) ∧ (¬ (mj_i μ h0 2) < 0 → (((mj_i μ h0 1) ≤ (mj_i μ h0 2) → Ex none (mj_pI μ h0 2 ((mj_i μ h0 2) + 1))) ∧ (¬ (mj_i μ h0 1) ≤ (mj_i μ h0 2) → (∃ b2 : Nat, (mj_r μ h0 0 = some b2) ∧ (mj_t μ b2 = 1008) ∧ ((((mj_i μ h0 2) / 512) < (nI (mj_n μ b2)) → ((vp_in ((mj_i μ h0 2) / 512) (mj_n μ b2)) ∧ ((mj_r (mj_pI μ h0 2 ((mj_i μ h0 2) + 1)) b2 (Int32.toNatClampNeg ((mj_i μ h0 2) / 512)) = none → ((mj_nc μ + 1 ≤ N ∧ mj_ns μ + 512 ≤ S) ∧ ∀ a9 : Nat, mj_t μ a9 = 0 → (vp_in ((mj_i μ h0 2) / 512) (mj_n (mj_new μ a9 1001 512 512) b2)) ∧ ∃ b15 : Nat, (mj_r (mj_pR (mj_new (mj_pI μ h0 2 ((mj_i μ h0 2) + 1)) a9 1001 512 512) b2 (Int32.toNatClampNeg ((mj_i μ h0 2) / 512)) (some a9)) h0 0 = some b15) ∧ (mj_t (mj_new μ a9 1001 512 512) b15 = 1008) ∧ (vp_in ((mj_i μ h0 2) / 512) (mj_n (mj_new μ a9 1001 512 512) b15)) ∧ ∃ b19 : Nat, (mj_r (mj_pR (mj_new (mj_pI μ h0 2 ((mj_i μ h0 2) + 1)) a9 1001 512 512) b2 (Int32.toNatClampNeg ((mj_i μ h0 2) / 512)) (some a9)) b15 (Int32.toNatClampNeg ((mj_i μ h0 2) / 512)) = some b19) ∧ (mj_t (mj_new μ a9 1001 512 512) b19 = 1001) ∧ (vp_in ((mj_i μ h0 2) - (mj_i μ h0 2) / 512 * 512) (mj_n (mj_new μ a9 1001 512 512) b19)) ∧ Ex none (mj_pL (mj_pR (mj_new (mj_pI μ h0 2 ((mj_i μ h0 2) + 1)) a9 1001 512 512) b2 (Int32.toNatClampNeg ((mj_i μ h0 2) / 512)) (some a9)) b19 (Int32.toNatClampNeg ((mj_i μ h0 2) - (mj_i μ h0 2) / 512 * 512)) ((((Int32.toInt64 v1) <<< (Int32.toInt64 40 &&& 63)) ||| ((Int32.toInt64 v2) <<< (Int32.toInt64 20 &&& 63))) ||| (Int32.toInt64 v3))))) ∧ (∀ b6 : Nat, mj_r (mj_pI μ h0 2 ((mj_i μ h0 2) + 1)) b2 (Int32.toNatClampNeg ((mj_i μ h0 2) / 512)) = some b6 → ((vp_in ((mj_i μ h0 2) / 512) (mj_n μ b2)) ∧ (mj_t μ b6 = 1001) ∧ (vp_in ((mj_i μ h0 2) - (mj_i μ h0 2) / 512 * 512) (mj_n μ b6)) ∧ Ex none (mj_pL (mj_pI μ h0 2 ((mj_i μ h0 2) + 1)) b6 (Int32.toNatClampNeg ((mj_i μ h0 2) - (mj_i μ h0 2) / 512 * 512)) ((((Int32.toInt64 v1) <<< (Int32.toInt64 40 &&& 63)) ||| ((Int32.toInt64 v2) <<< (Int32.toInt64 20 &&& 63))) ||| (Int32.toInt64 v3)))))))) ∧ (¬ ((mj_i μ h0 2) / 512) < (nI (mj_n μ b2)) → Ex none (mj_pI μ h0 2 ((mj_i μ h0 2) + 1))))))))))) :
    mj_J G mY_G_add Ex N S 0 [(0, va_rf (some h0)), (1, .int v1), (2, .int v2), (3, .int v3)] [] μ := by
  refine mj_aload_n 0 md_G_add_0 rfl ?_
  obtain ⟨ht1, H⟩ := H
  refine mj_getf (v := .int (mj_i μ h0 2)) rfl kc_G 2 (by decide) tw_62 md_G_add_1 ht1 rfl ?_
  refine mj_istore (lv' := [(4, .int (mj_i μ h0 2)), (0, va_rf (some h0)), (1, .int v1), (2, .int v2), (3, .int v3)]) md_G_add_4 (by decide) (by first | rfl | simp [mj_rfc]) ?_
  refine mj_aload_n 1 md_G_add_6 rfl ?_
  refine mj_dup md_G_add_7 (mj_rfc _) ?_
  refine mj_getf (v := .int (mj_i μ h0 2)) rfl kc_G 2 (by decide) tw_62 md_G_add_8 ht1 rfl ?_
  refine mj_iconst (v := 1) md_G_add_11 (by decide) ?_
  refine mj_iadd md_G_add_12 ?_
  refine mj_putI rfl kc_G 2 (by decide) rfl tw_62 md_G_add_13 (Or.inl rfl) ht1 rfl rfl ?_
  refine mj_iload 0 md_G_add_16 rfl ?_
  refine mj_sipush (v := 512) md_G_add_18 (by decide) ?_
  refine mj_idiv md_G_add_21 (by decide) ?_
  refine mj_istore (lv' := [(5, .int ((mj_i μ h0 2) / 512)), (4, .int (mj_i μ h0 2)), (0, va_rf (some h0)), (1, .int v1), (2, .int v2), (3, .int v3)]) md_G_add_22 (by decide) (by first | rfl | simp [mj_rfc]) ?_
  refine mj_iload 1 md_G_add_24 rfl ?_
  obtain ⟨H1, H2⟩ := H
  refine mj_if_lt (tgt := 48) md_G_add_26 (by decide) (fun hx => ?_) (fun hx => ?_)
  · replace H := H1 hx
    exact mj_return md_G_add_48 rfl H
  · replace H := H2 hx
    refine mj_iload 1 md_G_add_29 rfl ?_
    refine mj_aload_n 2 md_G_add_31 rfl ?_
    refine mj_getf (v := .int (mj_i μ h0 1)) rfl kc_G 1 (by decide) tw_61 md_G_add_32 ht1 rfl ?_
    obtain ⟨H1, H2⟩ := H
    refine mj_icmp_ge (tgt := 48) md_G_add_35 (by decide) (fun hx => ?_) (fun hx => ?_)
    · replace H := H1 hx
      exact mj_return md_G_add_48 rfl H
    · replace H := H2 hx
      refine mj_iload 0 md_G_add_38 rfl ?_
      refine mj_aload_n 2 md_G_add_40 rfl ?_
      refine mj_getf (v := va_rf (mj_r μ h0 0)) rfl kc_G 0 (by decide) tw_60 md_G_add_41 ht1 rfl ?_
      obtain ⟨b2, hb3, H⟩ := H
      obtain ⟨ht4, H⟩ := H
      refine mj_alen (t := 8) hb3 rfl ht4 md_G_add_44 ?_
      obtain ⟨H1, H2⟩ := H
      refine mj_icmp_lt (tgt := 49) md_G_add_45 (by decide) (fun hx => ?_) (fun hx => ?_)
      · replace H := H1 hx
        refine mj_aload_n 2 md_G_add_49 rfl ?_
        refine mj_getf (v := va_rf (mj_r μ h0 0)) rfl kc_G 0 (by decide) tw_60 md_G_add_50 ht1 rfl ?_
        refine mj_iload 0 md_G_add_53 rfl ?_
        obtain ⟨hi5, H⟩ := H
        refine mj_aald (t := 8) hb3 rfl rfl ht4 hi5 md_G_add_55 ?_
        obtain ⟨H1, H2⟩ := H
        refine mj_ifnonnull (tgt := 71) md_G_add_56 (by decide) (fun b6 hb7 => ?_) (fun hb => ?_)
        · replace H := H2 b6 hb7
          refine mj_aload_n 2 md_G_add_71 rfl ?_
          refine mj_getf (v := va_rf (mj_r μ h0 0)) rfl kc_G 0 (by decide) tw_60 md_G_add_72 ht1 rfl ?_
          refine mj_iload 0 md_G_add_75 rfl ?_
          obtain ⟨hi23, H⟩ := H
          refine mj_aald (t := 8) hb3 rfl rfl ht4 hi23 md_G_add_77 ?_
          refine mj_iload 1 md_G_add_78 rfl ?_
          refine mj_sipush (v := 512) md_G_add_80 (by decide) ?_
          refine mj_irem md_G_add_83 (by decide) ?_
          refine mj_iload_n 3 md_G_add_84 rfl ?_
          refine mj_i2l md_G_add_85 ?_
          refine mj_bipush (v := 40) md_G_add_86 (by decide) ?_
          refine mj_lshl md_G_add_88 ?_
          refine mj_iload_n 4 md_G_add_89 rfl ?_
          refine mj_i2l md_G_add_90 ?_
          refine mj_bipush (v := 20) md_G_add_91 (by decide) ?_
          refine mj_lshl md_G_add_93 ?_
          refine mj_lor md_G_add_94 ?_
          refine mj_iload_n 5 md_G_add_95 rfl ?_
          refine mj_i2l md_G_add_96 ?_
          refine mj_lor md_G_add_97 ?_
          obtain ⟨ht24, H⟩ := H
          obtain ⟨hi25, H⟩ := H
          refine mj_last (t := 1) hb7 rfl ht24 hi25 md_G_add_98 ?_
          exact mj_return md_G_add_99 rfl H
        · replace H := H1 hb
          refine mj_aload_n 2 md_G_add_59 rfl ?_
          refine mj_getf (v := va_rf (mj_r μ h0 0)) rfl kc_G 0 (by decide) tw_60 md_G_add_60 ht1 rfl ?_
          refine mj_iload 0 md_G_add_63 rfl ?_
          refine mj_sipush (v := 512) md_G_add_65 (by decide) ?_
          obtain ⟨hn8, H⟩ := H
          refine mj_newa (t := 1) rfl rfl rfl tw_557 md_G_add_68 rfl (by decide) (by decide) hn8.1 hn8.2 (fun a9 ha10 => ?_)
          replace H := H a9 ha10
          have ht11 : mj_t (mj_new μ a9 1001 512 512) h0 = 6 := mj_tk ht1 (by decide) ha10
          have ht12 : mj_t (mj_new μ a9 1001 512 512) b2 = 1008 := mj_tk ht4 (by decide) ha10
          have ht13 : mj_t (mj_new μ a9 1001 512 512) a9 = 1001 := mj_tn
          obtain ⟨hi14, H⟩ := H
          refine mj_aastA (t := 8) (tv := 1) hb3 rfl rfl ht12 rfl ht13 hi14 md_G_add_70 ?_
          refine mj_aload_n 2 md_G_add_71 rfl ?_
          refine mj_getf (v := va_rf (mj_r (mj_pR (mj_new (mj_pI μ h0 2 ((mj_i μ h0 2) + 1)) a9 1001 512 512) b2 (Int32.toNatClampNeg ((mj_i μ h0 2) / 512)) (some a9)) h0 0)) rfl kc_G 0 (by decide) tw_60 md_G_add_72 ht11 rfl ?_
          refine mj_iload 0 md_G_add_75 rfl ?_
          obtain ⟨b15, hb16, H⟩ := H
          obtain ⟨ht17, H⟩ := H
          obtain ⟨hi18, H⟩ := H
          refine mj_aald (t := 8) hb16 rfl rfl ht17 hi18 md_G_add_77 ?_
          refine mj_iload 1 md_G_add_78 rfl ?_
          refine mj_sipush (v := 512) md_G_add_80 (by decide) ?_
          refine mj_irem md_G_add_83 (by decide) ?_
          refine mj_iload_n 3 md_G_add_84 rfl ?_
          refine mj_i2l md_G_add_85 ?_
          refine mj_bipush (v := 40) md_G_add_86 (by decide) ?_
          refine mj_lshl md_G_add_88 ?_
          refine mj_iload_n 4 md_G_add_89 rfl ?_
          refine mj_i2l md_G_add_90 ?_
          refine mj_bipush (v := 20) md_G_add_91 (by decide) ?_
          refine mj_lshl md_G_add_93 ?_
          refine mj_lor md_G_add_94 ?_
          refine mj_iload_n 5 md_G_add_95 rfl ?_
          refine mj_i2l md_G_add_96 ?_
          refine mj_lor md_G_add_97 ?_
          obtain ⟨b19, hb20, H⟩ := H
          obtain ⟨ht21, H⟩ := H
          obtain ⟨hi22, H⟩ := H
          refine mj_last (t := 1) hb20 rfl ht21 hi22 md_G_add_98 ?_
          exact mj_return md_G_add_99 rfl H
      · replace H := H2 hx
        exact mj_return md_G_add_48 rfl H

set_option maxRecDepth 20000 in
theorem bk_K_addPart_0 {G : mj_G} {Ex : Option Value → mj_MM → Prop} {N S : Nat} {μ : mj_MM} {h0 : Nat} {v1 : Option Nat}
    (H : ((mj_t μ h0 = 9) ∧ ∃ b2 : Nat, (mj_r μ h0 6 = some b2) ∧ (mj_t μ b2 = 7) ∧ mj_J G mY_K_addPart Ex N S 16 [(1, va_rf v1), (2, .int 1), (3, va_rf (mj_r μ h0 6)), (4, va_rf (mj_r μ b2 2))] [] μ)) :
    mj_J G mY_K_addPart Ex N S 0 [(0, va_rf (some h0)), (1, va_rf v1)] [] μ := by
  refine mj_iconst (v := 1) md_K_addPart_0 (by decide) ?_
  refine mj_istn (i := 2) (lv' := [(2, .int 1), (0, va_rf (some h0)), (1, va_rf v1)]) md_K_addPart_1 rfl (by decide) (by first | rfl | simp [mj_rfc]) ?_
  refine mj_aload_n 1 md_K_addPart_2 rfl ?_
  obtain ⟨ht1, H⟩ := H
  refine mj_getf (v := va_rf (mj_r μ h0 6)) rfl kc_K 6 (by decide) tw_225 md_K_addPart_3 ht1 rfl ?_
  refine mj_astn (i := 3) (lv' := [(3, va_rf (mj_r μ h0 6)), (2, .int 1), (0, va_rf (some h0)), (1, va_rf v1)]) md_K_addPart_6 rfl (by decide) (by first | rfl | simp [mj_rfc]) ?_
  refine mj_aload_n 2 md_K_addPart_7 rfl ?_
  refine mj_getf (v := va_rf (mj_r μ h0 6)) rfl kc_K 6 (by decide) tw_225 md_K_addPart_8 ht1 rfl ?_
  obtain ⟨b2, hb3, H⟩ := H
  obtain ⟨ht4, H⟩ := H
  refine mj_getf (v := va_rf (mj_r μ b2 2)) hb3 kc_P 2 (by decide) tw_202 md_K_addPart_11 ht4 rfl ?_
  refine mj_astore (lv' := [(4, va_rf (mj_r μ b2 2)), (3, va_rf (mj_r μ h0 6)), (2, .int 1), (0, va_rf (some h0)), (1, va_rf v1)]) md_K_addPart_14 (by decide) (by first | rfl | simp [mj_rfc]) ?_
  exact mj_lvs [4, 2, 1, 0] rfl H

set_option maxRecDepth 20000 in
theorem bk_K_addPart_16 {G : mj_G} {Ex : Option Value → mj_MM → Prop} {N S : Nat} {μ : mj_MM} {v1 : Option Nat} {v2 : Int32} {v3 : Option Nat} {v4 : Option Nat}
    (H : ((v4 = none → (∃ b3 : Nat, (v3 = some b3) ∧ (mj_t μ b3 = 7) ∧ Ex (some (.int v2)) (mj_pR μ b3 2 v1))) ∧ (∀ b1 : Nat, v4 = some b1 → ((mj_t μ b1 = 7) ∧ mj_J G mY_K_addPart Ex N S 16 [(1, va_rf v1), (2, .int (v2 + 1)), (3, va_rf v4), (4, va_rf (mj_r μ b1 2))] [] μ)))) :
    mj_J G mY_K_addPart Ex N S 16 [(1, va_rf v1), (2, .int v2), (3, va_rf v3), (4, va_rf v4)] [] μ := by
  refine mj_aload 3 md_K_addPart_16 rfl ?_
  obtain ⟨H1, H2⟩ := H
  refine mj_ifnull (tgt := 37) md_K_addPart_18 (by decide) (fun hb => ?_) (fun b1 hb2 => ?_)
  · replace H := H1 hb
    refine mj_aload_n 2 md_K_addPart_37 rfl ?_
    refine mj_aload_n 0 md_K_addPart_38 rfl ?_
    obtain ⟨b3, hb4, H⟩ := H
    obtain ⟨ht5, H⟩ := H
    refine mj_putR hb4 kc_P 2 (by decide) rfl tw_202 md_K_addPart_39 (Or.inl rfl) ht5 ?_
    refine mj_iload_n 1 md_K_addPart_42 rfl ?_
    exact mj_ireturn md_K_addPart_43 rfl rfl H
  · replace H := H2 b1 hb2
    refine mj_aload 3 md_K_addPart_21 rfl ?_
    refine mj_astn (i := 3) (lv' := [(3, va_rf v4), (1, va_rf v1), (2, .int v2), (4, va_rf v4)]) md_K_addPart_23 rfl (by decide) (by first | rfl | simp [mj_rfc]) ?_
    refine mj_iinc (j := 2) (v := v2 + 1) (lv' := [(2, .int (v2 + 1)), (3, va_rf v4), (1, va_rf v1), (4, va_rf v4)]) md_K_addPart_24 rfl rfl (by decide) (by first | rfl | simp [mj_rfc]) ?_
    refine mj_aload 3 md_K_addPart_27 rfl ?_
    obtain ⟨ht6, H⟩ := H
    refine mj_getf (v := va_rf (mj_r μ b1 2)) hb2 kc_P 2 (by decide) tw_202 md_K_addPart_29 ht6 rfl ?_
    refine mj_astore (lv' := [(4, va_rf (mj_r μ b1 2)), (2, .int (v2 + 1)), (3, va_rf v4), (1, va_rf v1)]) md_K_addPart_32 (by decide) (by first | rfl | simp [mj_rfc]) ?_
    refine mj_goto (tgt := 16) md_K_addPart_34 (by decide) ?_
    exact mj_lvs [3, 1, 2, 0] rfl H

set_option maxRecDepth 20000 in
theorem bk_K_mayBeSet_0 {G : mj_G} {Ex : Option Value → mj_MM → Prop} {N S : Nat} {μ : mj_MM} {h0 : Nat}
    (H : ((mj_t μ h0 = 9) ∧ (((mj_i μ h0 4) = 0 → Ex (some (.int 0)) μ) ∧ (¬ (mj_i μ h0 4) = 0 → (((mj_i μ h0 9) = 0 → Ex (some (.int 0)) μ) ∧ (¬ (mj_i μ h0 9) = 0 → Ex (some (.int 1)) μ)))))) :
    mj_J G mY_K_mayBeSet Ex N S 0 [(0, va_rf (some h0))] [] μ := by
  refine mj_aload_n 0 md_K_mayBeSet_0 rfl ?_
  obtain ⟨ht1, H⟩ := H
  refine mj_getf (v := .int (mj_i μ h0 4)) rfl kc_K 4 (by decide) tw_221 md_K_mayBeSet_1 ht1 rfl ?_
  obtain ⟨H1, H2⟩ := H
  refine mj_if_eq (tgt := 18) md_K_mayBeSet_4 (by decide) (fun hx => ?_) (fun hx => ?_)
  · replace H := H1 hx
    refine mj_iconst (v := 0) md_K_mayBeSet_18 (by decide) ?_
    exact mj_ireturn md_K_mayBeSet_19 rfl (by decide) H
  · replace H := H2 hx
    refine mj_aload_n 0 md_K_mayBeSet_7 rfl ?_
    refine mj_getf (v := .int (mj_i μ h0 9)) rfl kc_K 9 (by decide) tw_231 md_K_mayBeSet_8 ht1 rfl ?_
    obtain ⟨H1, H2⟩ := H
    refine mj_if_eq (tgt := 18) md_K_mayBeSet_11 (by decide) (fun hx => ?_) (fun hx => ?_)
    · replace H := H1 hx
      refine mj_iconst (v := 0) md_K_mayBeSet_18 (by decide) ?_
      exact mj_ireturn md_K_mayBeSet_19 rfl (by decide) H
    · replace H := H2 hx
      refine mj_iconst (v := 1) md_K_mayBeSet_14 (by decide) ?_
      refine mj_goto (tgt := 19) md_K_mayBeSet_15 (by decide) ?_
      exact mj_ireturn md_K_mayBeSet_19 rfl (by decide) H

set_option maxRecDepth 20000 in
theorem bk_K_height_0 {G : mj_G} {Ex : Option Value → mj_MM → Prop} {N S : Nat} {μ : mj_MM} {h0 : Nat}
    (H : ((mj_t μ h0 = 9) ∧ mj_J G mY_K_height Ex N S 10 [(1, .int (mj_i μ h0 1)), (2, va_rf (mj_r μ h0 15))] [] μ)) :
    mj_J G mY_K_height Ex N S 0 [(0, va_rf (some h0))] [] μ := by
  refine mj_aload_n 0 md_K_height_0 rfl ?_
  obtain ⟨ht1, H⟩ := H
  refine mj_getf (v := .int (mj_i μ h0 1)) rfl kc_K 1 (by decide) tw_214 md_K_height_1 ht1 rfl ?_
  refine mj_istn (i := 1) (lv' := [(1, .int (mj_i μ h0 1)), (0, va_rf (some h0))]) md_K_height_4 rfl (by decide) (by first | rfl | simp [mj_rfc]) ?_
  refine mj_aload_n 1 md_K_height_5 rfl ?_
  refine mj_getf (v := va_rf (mj_r μ h0 15)) rfl kc_K 15 (by decide) tw_240 md_K_height_6 ht1 rfl ?_
  refine mj_astn (i := 2) (lv' := [(2, va_rf (mj_r μ h0 15)), (1, .int (mj_i μ h0 1)), (0, va_rf (some h0))]) md_K_height_9 rfl (by decide) (by first | rfl | simp [mj_rfc]) ?_
  exact mj_lvs [1, 0] rfl H

set_option maxRecDepth 20000 in
theorem bk_K_height_10 {G : mj_G} {Ex : Option Value → mj_MM → Prop} {N S : Nat} {μ : mj_MM} {v1 : Int32} {v2 : Option Nat}
    (H : ((v2 = none → Ex (some (.int v1)) μ) ∧ (∀ b1 : Nat, v2 = some b1 → ((mj_t μ b1 = 8) ∧ mj_J G mY_K_height Ex N S 10 [(1, .int (if v1 < (mj_i μ b1 0) then (mj_i μ b1 0) else v1)), (2, va_rf (mj_r μ b1 2))] [] μ)))) :
    mj_J G mY_K_height Ex N S 10 [(1, .int v1), (2, va_rf v2)] [] μ := by
  refine mj_aload_n 1 md_K_height_10 rfl ?_
  obtain ⟨H1, H2⟩ := H
  refine mj_ifnull (tgt := 31) md_K_height_11 (by decide) (fun hb => ?_) (fun b1 hb2 => ?_)
  · replace H := H1 hb
    refine mj_iload_n 0 md_K_height_31 rfl ?_
    exact mj_ireturn md_K_height_32 rfl rfl H
  · replace H := H2 b1 hb2
    refine mj_iload_n 0 md_K_height_14 rfl ?_
    refine mj_aload_n 1 md_K_height_15 rfl ?_
    obtain ⟨ht3, H⟩ := H
    refine mj_getf (v := .int (mj_i μ b1 0)) hb2 kc_R 0 (by decide) tw_112 md_K_height_16 ht3 rfl ?_
    refine mj_max tw_437 tw_56 tw_4 tw_57 md_K_height_19 (by decide) (by first | decide | simp [mj_rfc, Value.category]) ?_
    refine mj_istn (i := 1) (lv' := [(1, .int (if v1 < (mj_i μ b1 0) then (mj_i μ b1 0) else v1)), (2, va_rf v2)]) md_K_height_22 rfl (by decide) (by first | rfl | simp [mj_rfc]) ?_
    refine mj_aload_n 1 md_K_height_23 rfl ?_
    refine mj_getf (v := va_rf (mj_r μ b1 2)) hb2 kc_R 2 (by decide) tw_114 md_K_height_24 ht3 rfl ?_
    refine mj_astn (i := 2) (lv' := [(2, va_rf (mj_r μ b1 2)), (1, .int (if v1 < (mj_i μ b1 0) then (mj_i μ b1 0) else v1))]) md_K_height_27 rfl (by decide) (by first | rfl | simp [mj_rfc]) ?_
    refine mj_goto (tgt := 10) md_K_height_28 (by decide) ?_
    exact mj_lvs [1, 0] rfl H

set_option maxRecDepth 20000 in
theorem bk_K_comesBefore_0 {G : mj_G} {Ex : Option Value → mj_MM → Prop} {N S : Nat} {μ : mj_MM} {h0 : Nat} {v1 : Option Nat}
    (H : ((mj_t μ h0 = 9) ∧ (∃ P : Int32 → mj_MM → Prop, mj_M G my_K_height mY_K_height [va_rf (some h0)] (mj_nc μ) (mj_ns μ) μ (mj_XI P) ∧ ∀ (x : Int32) (μ' : mj_MM), P x μ' → mj_nc μ' = mj_nc μ → mj_ns μ' = mj_ns μ → mj_J G mY_K_comesBefore Ex N S 4 [(0, va_rf (some h0)), (1, va_rf v1)] [.int x] μ'))) :
    mj_J G mY_K_comesBefore Ex N S 0 [(0, va_rf (some h0)), (1, va_rf v1)] [] μ := by
  refine mj_aload_n 0 md_K_comesBefore_0 rfl ?_
  obtain ⟨ht1, H⟩ := H
  obtain ⟨P, hM, H⟩ := H
  exact mj_callV (n := 0) (As := []) rfl hM kc_K ht1 ⟨tw_433, tw_9, tw_436, ⟨by decide, by decide, by decide +kernel⟩, by decide, by decide⟩ tw_434 tw_435 rfl md_K_comesBefore_1 (by first | decide | simp [mj_rfc, Value.category]) id (mj_kI (fun x μ' hP e1 e2 => mj_lvs [0, 1] rfl (H x μ' hP e1 e2)))

set_option maxRecDepth 20000 in
theorem bk_K_comesBefore_4 {G : mj_G} {Ex : Option Value → mj_MM → Prop} {N S : Nat} {μ : mj_MM} {h0 : Nat} {v1 : Option Nat} {s0 : Int32}
    (H : (∃ b1 : Nat, (v1 = some b1) ∧ (mj_t μ b1 = 9) ∧ (∃ P : Int32 → mj_MM → Prop, mj_M G my_K_height mY_K_height [va_rf (some b1)] (mj_nc μ) (mj_ns μ) μ (mj_XI P) ∧ ∀ (x : Int32) (μ' : mj_MM), P x μ' → mj_nc μ' = mj_nc μ → mj_ns μ' = mj_ns μ → mj_J G mY_K_comesBefore Ex N S 9 [(0, va_rf (some h0)), (1, va_rf v1), (2, .int s0)] [.int x] μ'))) :
    mj_J G mY_K_comesBefore Ex N S 4 [(0, va_rf (some h0)), (1, va_rf v1)] [.int s0] μ := by
  refine mj_istn (i := 2) (lv' := [(2, .int s0), (0, va_rf (some h0)), (1, va_rf v1)]) md_K_comesBefore_4 rfl (by decide) (by first | rfl | simp [mj_rfc]) ?_
  refine mj_aload_n 2 md_K_comesBefore_5 rfl ?_
  obtain ⟨b1, hb2, H⟩ := H
  obtain ⟨ht3, H⟩ := H
  obtain ⟨P, hM, H⟩ := H
  exact mj_callV (n := 0) (As := []) hb2 hM kc_K ht3 ⟨tw_433, tw_9, tw_436, ⟨by decide, by decide, by decide +kernel⟩, by decide, by decide⟩ tw_434 tw_435 rfl md_K_comesBefore_6 (by first | decide | simp [mj_rfc, Value.category]) id (mj_kI (fun x μ' hP e1 e2 => mj_lvs [1, 2, 0] rfl (H x μ' hP e1 e2)))

set_option maxRecDepth 20000 in
theorem bk_K_comesBefore_9 {G : mj_G} {Ex : Option Value → mj_MM → Prop} {N S : Nat} {μ : mj_MM} {h0 : Nat} {v1 : Option Nat} {v2 : Int32} {s0 : Int32}
    (H : ((s0 < v2 → Ex (some (.int 1)) μ) ∧ (¬ s0 < v2 → ((¬ v2 = s0 → Ex (some (.int 0)) μ) ∧ (v2 = s0 → (∃ b1 : Nat, (v1 = some b1) ∧ (mj_t μ b1 = 9) ∧ (((mj_i μ b1 9) = 2 → Ex (some (.int 0)) μ) ∧ (¬ (mj_i μ b1 9) = 2 → ((mj_t μ h0 = 9) ∧ (((mj_i μ b1 10) ≤ (mj_i μ h0 10) → Ex (some (.int 0)) μ) ∧ (¬ (mj_i μ b1 10) ≤ (mj_i μ h0 10) → Ex (some (.int 1)) μ))))))))))) :
    mj_J G mY_K_comesBefore Ex N S 9 [(0, va_rf (some h0)), (1, va_rf v1), (2, .int v2)] [.int s0] μ := by
  refine mj_istn (i := 3) (lv' := [(3, .int s0), (0, va_rf (some h0)), (1, va_rf v1), (2, .int v2)]) md_K_comesBefore_9 rfl (by decide) (by first | rfl | simp [mj_rfc]) ?_
  refine mj_iload_n 3 md_K_comesBefore_10 rfl ?_
  refine mj_iload_n 0 md_K_comesBefore_11 rfl ?_
  obtain ⟨H1, H2⟩ := H
  refine mj_icmp_gt (tgt := 39) md_K_comesBefore_12 (by decide) (fun hx => ?_) (fun hx => ?_)
  · replace H := H1 hx
    refine mj_iconst (v := 1) md_K_comesBefore_39 (by decide) ?_
    refine mj_goto (tgt := 44) md_K_comesBefore_40 (by decide) ?_
    exact mj_ireturn md_K_comesBefore_44 rfl (by decide) H
  · replace H := H2 hx
    refine mj_iload_n 3 md_K_comesBefore_15 rfl ?_
    refine mj_iload_n 0 md_K_comesBefore_16 rfl ?_
    obtain ⟨H1, H2⟩ := H
    refine mj_icmp_ne (tgt := 43) md_K_comesBefore_17 (by decide) (fun hx => ?_) (fun hx => ?_)
    · replace H := H1 hx
      refine mj_iconst (v := 0) md_K_comesBefore_43 (by decide) ?_
      exact mj_ireturn md_K_comesBefore_44 rfl (by decide) H
    · replace H := H2 hx
      refine mj_aload_n 2 md_K_comesBefore_20 rfl ?_
      obtain ⟨b1, hb2, H⟩ := H
      obtain ⟨ht3, H⟩ := H
      refine mj_getf (v := .int (mj_i μ b1 9)) hb2 kc_K 9 (by decide) tw_231 md_K_comesBefore_21 ht3 rfl ?_
      refine mj_iconst (v := 2) md_K_comesBefore_24 (by decide) ?_
      obtain ⟨H1, H2⟩ := H
      refine mj_icmp_eq (tgt := 43) md_K_comesBefore_25 (by decide) (fun hx => ?_) (fun hx => ?_)
      · replace H := H1 hx
        refine mj_iconst (v := 0) md_K_comesBefore_43 (by decide) ?_
        exact mj_ireturn md_K_comesBefore_44 rfl (by decide) H
      · replace H := H2 hx
        refine mj_aload_n 1 md_K_comesBefore_28 rfl ?_
        obtain ⟨ht4, H⟩ := H
        refine mj_getf (v := .int (mj_i μ h0 10)) rfl kc_K 10 (by decide) tw_233 md_K_comesBefore_29 ht4 rfl ?_
        refine mj_aload_n 2 md_K_comesBefore_32 rfl ?_
        refine mj_getf (v := .int (mj_i μ b1 10)) hb2 kc_K 10 (by decide) tw_233 md_K_comesBefore_33 ht3 rfl ?_
        obtain ⟨H1, H2⟩ := H
        refine mj_icmp_ge (tgt := 43) md_K_comesBefore_36 (by decide) (fun hx => ?_) (fun hx => ?_)
        · replace H := H1 hx
          refine mj_iconst (v := 0) md_K_comesBefore_43 (by decide) ?_
          exact mj_ireturn md_K_comesBefore_44 rfl (by decide) H
        · replace H := H2 hx
          refine mj_iconst (v := 1) md_K_comesBefore_39 (by decide) ?_
          refine mj_goto (tgt := 44) md_K_comesBefore_40 (by decide) ?_
          exact mj_ireturn md_K_comesBefore_44 rfl (by decide) H

set_option maxRecDepth 20000 in
theorem bk_K_leftOfPart_0 {G : mj_G} {Ex : Option Value → mj_MM → Prop} {N S : Nat} {μ : mj_MM} {h0 : Nat}
    (H : ((mj_t μ h0 = 9) ∧ ((mj_r μ h0 7 = none → Ex (some (.int 1000000)) μ) ∧ (∀ b2 : Nat, mj_r μ h0 7 = some b2 → ((mj_t μ b2 = 7) ∧ ((¬ (mj_i μ b2 0) = 0 → Ex (some (.int 1000000)) μ) ∧ ((mj_i μ b2 0) = 0 → Ex (some (.int ((mj_i μ b2 1) - (mj_i μ h0 8)))) μ))))))) :
    mj_J G mY_K_leftOfPart Ex N S 0 [(0, va_rf (some h0))] [] μ := by
  refine mj_aload_n 0 md_K_leftOfPart_0 rfl ?_
  obtain ⟨ht1, H⟩ := H
  refine mj_getf (v := va_rf (mj_r μ h0 7)) rfl kc_K 7 (by decide) tw_228 md_K_leftOfPart_1 ht1 rfl ?_
  obtain ⟨H1, H2⟩ := H
  refine mj_ifnull (tgt := 32) md_K_leftOfPart_4 (by decide) (fun hb => ?_) (fun b2 hb3 => ?_)
  · replace H := H1 hb
    refine mj_ldc (v := 1000000) tw_539 md_K_leftOfPart_32 ?_
    exact mj_ireturn md_K_leftOfPart_34 rfl rfl H
  · replace H := H2 b2 hb3
    refine mj_aload_n 0 md_K_leftOfPart_7 rfl ?_
    refine mj_getf (v := va_rf (mj_r μ h0 7)) rfl kc_K 7 (by decide) tw_228 md_K_leftOfPart_8 ht1 rfl ?_
    obtain ⟨ht4, H⟩ := H
    refine mj_getf (v := .int (mj_i μ b2 0)) hb3 kc_P 0 (by decide) tw_197 md_K_leftOfPart_11 ht4 rfl ?_
    obtain ⟨H1, H2⟩ := H
    refine mj_if_ne (tgt := 32) md_K_leftOfPart_14 (by decide) (fun hx => ?_) (fun hx => ?_)
    · replace H := H1 hx
      refine mj_ldc (v := 1000000) tw_539 md_K_leftOfPart_32 ?_
      exact mj_ireturn md_K_leftOfPart_34 rfl rfl H
    · replace H := H2 hx
      refine mj_aload_n 0 md_K_leftOfPart_17 rfl ?_
      refine mj_getf (v := va_rf (mj_r μ h0 7)) rfl kc_K 7 (by decide) tw_228 md_K_leftOfPart_18 ht1 rfl ?_
      refine mj_getf (v := .int (mj_i μ b2 1)) hb3 kc_P 1 (by decide) tw_200 md_K_leftOfPart_21 ht4 rfl ?_
      refine mj_aload_n 0 md_K_leftOfPart_24 rfl ?_
      refine mj_getf (v := .int (mj_i μ h0 8)) rfl kc_K 8 (by decide) tw_230 md_K_leftOfPart_25 ht1 rfl ?_
      refine mj_isub md_K_leftOfPart_28 ?_
      refine mj_goto (tgt := 34) md_K_leftOfPart_29 (by decide) ?_
      exact mj_ireturn md_K_leftOfPart_34 rfl rfl H

set_option maxRecDepth 20000 in
theorem bk_K_spend_0 {G : mj_G} {Ex : Option Value → mj_MM → Prop} {N S : Nat} {μ : mj_MM} {h0 : Nat} {v1 : Int32}
    (H : ((mj_t μ h0 = 9) ∧ ((mj_r μ h0 7 = none → Ex none (mj_pI μ h0 14 ((mj_i μ h0 14) + v1))) ∧ (∀ b2 : Nat, mj_r μ h0 7 = some b2 → ((mj_t μ b2 = 7) ∧ (((mj_i μ b2 0) = 0 → ((((mj_i μ h0 8) + v1) < (mj_i μ b2 1) → Ex none (mj_pI (mj_pI μ h0 14 ((mj_i μ h0 14) + v1)) h0 8 ((mj_i μ h0 8) + v1))) ∧ (¬ ((mj_i μ h0 8) + v1) < (mj_i μ b2 1) → Ex none (mj_pI (mj_pR (mj_pI (mj_pI μ h0 14 ((mj_i μ h0 14) + v1)) h0 8 ((mj_i μ h0 8) + v1)) h0 7 (mj_r μ b2 2)) h0 8 0)))) ∧ (¬ (mj_i μ b2 0) = 0 → Ex none (mj_pI μ h0 14 ((mj_i μ h0 14) + v1))))))))) :
    mj_J G mY_K_spend Ex N S 0 [(0, va_rf (some h0)), (1, .int v1)] [] μ := by
  refine mj_aload_n 0 md_K_spend_0 rfl ?_
  refine mj_dup md_K_spend_1 (mj_rfc _) ?_
  obtain ⟨ht1, H⟩ := H
  refine mj_getf (v := .int (mj_i μ h0 14)) rfl kc_K 14 (by decide) tw_238 md_K_spend_2 ht1 rfl ?_
  refine mj_iload_n 1 md_K_spend_5 rfl ?_
  refine mj_iadd md_K_spend_6 ?_
  refine mj_putI rfl kc_K 14 (by decide) rfl tw_238 md_K_spend_7 (Or.inl rfl) ht1 rfl rfl ?_
  refine mj_aload_n 0 md_K_spend_10 rfl ?_
  refine mj_getf (v := va_rf (mj_r μ h0 7)) rfl kc_K 7 (by decide) tw_228 md_K_spend_11 ht1 rfl ?_
  obtain ⟨H1, H2⟩ := H
  refine mj_ifnull (tgt := 27) md_K_spend_14 (by decide) (fun hb => ?_) (fun b2 hb3 => ?_)
  · replace H := H1 hb
    exact mj_return md_K_spend_27 rfl H
  · replace H := H2 b2 hb3
    refine mj_aload_n 0 md_K_spend_17 rfl ?_
    refine mj_getf (v := va_rf (mj_r μ h0 7)) rfl kc_K 7 (by decide) tw_228 md_K_spend_18 ht1 rfl ?_
    obtain ⟨ht4, H⟩ := H
    refine mj_getf (v := .int (mj_i μ b2 0)) hb3 kc_P 0 (by decide) tw_197 md_K_spend_21 ht4 rfl ?_
    obtain ⟨H1, H2⟩ := H
    refine mj_if_eq (tgt := 28) md_K_spend_24 (by decide) (fun hx => ?_) (fun hx => ?_)
    · replace H := H1 hx
      refine mj_aload_n 0 md_K_spend_28 rfl ?_
      refine mj_dup md_K_spend_29 (mj_rfc _) ?_
      refine mj_getf (v := .int (mj_i μ h0 8)) rfl kc_K 8 (by decide) tw_230 md_K_spend_30 ht1 rfl ?_
      refine mj_iload_n 1 md_K_spend_33 rfl ?_
      refine mj_iadd md_K_spend_34 ?_
      refine mj_putI rfl kc_K 8 (by decide) rfl tw_230 md_K_spend_35 (Or.inl rfl) ht1 rfl rfl ?_
      refine mj_aload_n 0 md_K_spend_38 rfl ?_
      refine mj_getf (v := .int ((mj_i μ h0 8) + v1)) rfl kc_K 8 (by decide) tw_230 md_K_spend_39 ht1 (by show Value.int (mj_i (mj_pI (mj_pI μ h0 14 ((mj_i μ h0 14) + v1)) h0 8 ((mj_i μ h0 8) + v1)) h0 8) = _; rw [mj_sI]) ?_
      refine mj_aload_n 0 md_K_spend_42 rfl ?_
      refine mj_getf (v := va_rf (mj_r μ h0 7)) rfl kc_K 7 (by decide) tw_228 md_K_spend_43 ht1 rfl ?_
      refine mj_getf (v := .int (mj_i μ b2 1)) hb3 kc_P 1 (by decide) tw_200 md_K_spend_46 ht4 rfl ?_
      obtain ⟨H1, H2⟩ := H
      refine mj_icmp_lt (tgt := 68) md_K_spend_49 (by decide) (fun hx => ?_) (fun hx => ?_)
      · replace H := H1 hx
        exact mj_return md_K_spend_68 rfl H
      · replace H := H2 hx
        refine mj_aload_n 0 md_K_spend_52 rfl ?_
        refine mj_aload_n 0 md_K_spend_53 rfl ?_
        refine mj_getf (v := va_rf (mj_r μ h0 7)) rfl kc_K 7 (by decide) tw_228 md_K_spend_54 ht1 rfl ?_
        refine mj_getf (v := va_rf (mj_r μ b2 2)) hb3 kc_P 2 (by decide) tw_202 md_K_spend_57 ht4 rfl ?_
        refine mj_putR rfl kc_K 7 (by decide) rfl tw_228 md_K_spend_60 (Or.inl rfl) ht1 ?_
        refine mj_aload_n 0 md_K_spend_63 rfl ?_
        refine mj_iconst (v := 0) md_K_spend_64 (by decide) ?_
        refine mj_putI rfl kc_K 8 (by decide) rfl tw_230 md_K_spend_65 (Or.inl rfl) ht1 rfl rfl ?_
        exact mj_return md_K_spend_68 rfl H
    · replace H := H2 hx
      exact mj_return md_K_spend_27 rfl H
