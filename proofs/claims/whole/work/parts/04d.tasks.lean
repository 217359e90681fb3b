set_option maxRecDepth 20000 in
theorem bk_T_init_0 {G : mj_G} {Ex : Option Value → mj_MM → Prop} {N S : Nat} {μ : mj_MM} {h0 : Nat} {v1 : Int32}
    (H : ((mj_nc μ + 1 ≤ N ∧ mj_ns μ + 101 ≤ S) ∧ ∀ a2 : Nat, mj_t μ a2 = 0 → (mj_t (mj_new μ a2 1004 101 101) h0 = 1) ∧ (mj_nc μ + 1 + 1 ≤ N ∧ mj_ns μ + 101 + 33 ≤ S) ∧ ∀ a7 : Nat, mj_t (mj_new μ a2 1004 101 101) a7 = 0 → (mj_nc μ + 1 + 1 + 1 ≤ N ∧ mj_ns μ + 101 + 33 + 17 ≤ S) ∧ ∀ a13 : Nat, mj_t (mj_new (mj_new μ a2 1004 101 101) a7 1006 33 33) a13 = 0 → (mj_nc μ + 1 + 1 + 1 + 1 ≤ N ∧ mj_ns μ + 101 + 33 + 17 + 4 ≤ S) ∧ ∀ a20 : Nat, mj_t (mj_new (mj_new (mj_new μ a2 1004 101 101) a7 1006 33 33) a13 1007 17 17) a20 = 0 → (∃ P : mj_MM → Prop, mj_M G my_U_init mY_U_init [va_rf (some a20)] (mj_nc μ + 1 + 1 + 1 + 1) (mj_ns μ + 101 + 33 + 17 + 4) (mj_new (mj_pR (mj_new (mj_pR (mj_new (mj_pR (mj_new μ a2 1004 101 101) h0 0 (some a2)) a7 1006 33 33) h0 2 (some a7)) a13 1007 17 17) h0 3 (some a13)) a20 4 0 4) (mj_XV P) ∧ ∀ (μ' : mj_MM), P μ' → mj_nc μ' = mj_nc μ + 1 + 1 + 1 + 1 → mj_ns μ' = mj_ns μ + 101 + 33 + 17 + 4 → mj_J G mY_T_init Ex N S 39 [(0, va_rf (some h0)), (1, .int v1)] [va_rf (some a20), va_rf (some h0)] μ'))) :
    mj_J G mY_T_init Ex N S 0 [(0, va_rf (some h0)), (1, .int v1)] [] μ := by
  refine mj_aload_n 0 md_T_init_0 rfl ?_
  refine mj_objInit rfl tw_18 tw_19 tw_20 md_T_init_1 (by decide) (by first | decide | (simp only [List.map_cons, List.map_nil, List.sum_cons, List.sum_nil, mj_rfc, mj_ci, mj_cl]; done) | (simp only [List.map_cons, List.map_nil, List.sum_cons, List.sum_nil, mj_rfc, mj_ci, mj_cl]; decide)) ?_
  refine mj_aload_n 0 md_T_init_4 rfl ?_
  refine mj_bipush (v := 101) md_T_init_5 (by decide) ?_
  obtain ⟨hn1, H⟩ := H
  refine mj_newq (t := 4) rfl tw_21 md_T_init_7 rfl (by decide) hn1.1 hn1.2 (fun a2 ha3 => ?_)
  replace H := H a2 ha3
  have ht4 : mj_t (mj_new μ a2 1004 101 101) a2 = 1004 := mj_tn
  obtain ⟨ht5, H⟩ := H
  refine mj_putR rfl kc_T 0 (by decide) rfl tw_137 md_T_init_10 (Or.inr ⟨rfl, rfl, rfl⟩) ht5 ?_
  refine mj_aload_n 0 md_T_init_13 rfl ?_
  refine mj_bipush (v := 33) md_T_init_14 (by decide) ?_
  obtain ⟨hn6, H⟩ := H
  refine mj_newq (t := 6) rfl tw_23 md_T_init_16 rfl (by decide) hn6.1 hn6.2 (fun a7 ha8 => ?_)
  replace H := H a7 ha8
  have ht9 : mj_t (mj_new (mj_new μ a2 1004 101 101) a7 1006 33 33) a2 = 1004 := mj_tk ht4 (by decide) ha8
  have ht10 : mj_t (mj_new (mj_new μ a2 1004 101 101) a7 1006 33 33) h0 = 1 := mj_tk ht5 (by decide) ha8
  have ht11 : mj_t (mj_new (mj_new μ a2 1004 101 101) a7 1006 33 33) a7 = 1006 := mj_tn
  refine mj_putR rfl kc_T 2 (by decide) rfl tw_139 md_T_init_19 (Or.inr ⟨rfl, rfl, rfl⟩) ht10 ?_
  refine mj_aload_n 0 md_T_init_22 rfl ?_
  refine mj_bipush (v := 17) md_T_init_23 (by decide) ?_
  obtain ⟨hn12, H⟩ := H
  refine mj_newq (t := 7) rfl tw_25 md_T_init_25 rfl (by decide) hn12.1 hn12.2 (fun a13 ha14 => ?_)
  replace H := H a13 ha14
  have ht15 : mj_t (mj_new (mj_new (mj_new μ a2 1004 101 101) a7 1006 33 33) a13 1007 17 17) a2 = 1004 := mj_tk ht9 (by decide) ha14
  have ht16 : mj_t (mj_new (mj_new (mj_new μ a2 1004 101 101) a7 1006 33 33) a13 1007 17 17) h0 = 1 := mj_tk ht10 (by decide) ha14
  have ht17 : mj_t (mj_new (mj_new (mj_new μ a2 1004 101 101) a7 1006 33 33) a13 1007 17 17) a7 = 1006 := mj_tk ht11 (by decide) ha14
  have ht18 : mj_t (mj_new (mj_new (mj_new μ a2 1004 101 101) a7 1006 33 33) a13 1007 17 17) a13 = 1007 := mj_tn
  refine mj_putR rfl kc_T 3 (by decide) rfl tw_140 md_T_init_28 (Or.inr ⟨rfl, rfl, rfl⟩) ht16 ?_
  refine mj_aload_n 0 md_T_init_31 rfl ?_
  obtain ⟨hn19, H⟩ := H
  refine mj_newO kc_U kdv_U tw_27 tw_28 tw_2 md_T_init_32 hn19.1 hn19.2 (fun a20 ha21 => ?_)
  replace H := H a20 ha21
  have ht22 : mj_t (mj_new (mj_new (mj_new (mj_new μ a2 1004 101 101) a7 1006 33 33) a13 1007 17 17) a20 4 0 4) a2 = 1004 := mj_tk ht15 (by decide) ha21
  have ht23 : mj_t (mj_new (mj_new (mj_new (mj_new μ a2 1004 101 101) a7 1006 33 33) a13 1007 17 17) a20 4 0 4) h0 = 1 := mj_tk ht16 (by decide) ha21
  have ht24 : mj_t (mj_new (mj_new (mj_new (mj_new μ a2 1004 101 101) a7 1006 33 33) a13 1007 17 17) a20 4 0 4) a7 = 1006 := mj_tk ht17 (by decide) ha21
  have ht25 : mj_t (mj_new (mj_new (mj_new (mj_new μ a2 1004 101 101) a7 1006 33 33) a13 1007 17 17) a20 4 0 4) a13 = 1007 := mj_tk ht18 (by decide) ha21
  have ht26 : mj_t (mj_new (mj_new (mj_new (mj_new μ a2 1004 101 101) a7 1006 33 33) a13 1007 17 17) a20 4 0 4) a20 = 4 := mj_tn
  refine mj_dup md_T_init_35 (mj_rfc _) ?_
  obtain ⟨P, hM, H⟩ := H
  exact mj_callIN (n := 0) (As := []) rfl hM (by decide +kernel) tw_2 tw_31 ⟨by decide, by decide, by decide +kernel⟩ (by decide) (by decide) rfl rfl tw_30 rfl md_T_init_36 (by first | decide | (simp only [List.map_cons, List.map_nil, List.sum_cons, List.sum_nil, mj_rfc, mj_ci, mj_cl]; done) | (simp only [List.map_cons, List.map_nil, List.sum_cons, List.sum_nil, mj_rfc, mj_ci, mj_cl]; decide)) id (mj_kV (fun μ' hP e1 e2 => mj_lvs [0, 1] rfl (H μ' hP e1 e2)))

set_option maxRecDepth 20000 in
theorem bk_T_init_39 {G : mj_G} {Ex : Option Value → mj_MM → Prop} {N S : Nat} {μ : mj_MM} {h0 : Nat} {v1 : Int32} {s0 : Option Nat}
    (H : ((mj_t μ h0 = 1) ∧ (mj_nc μ + 1 ≤ N ∧ mj_ns μ + 3 ≤ S) ∧ ∀ a3 : Nat, mj_t μ a3 = 0 → (∃ (N' S' : Nat) (P : mj_MM → Prop), mj_M G my_G_init mY_G_init [va_rf (some a3), .int 1000] N' S' (mj_new (mj_pR μ h0 4 s0) a3 6 0 3) (mj_XV P) ∧ (N' ≤ N ∧ S' ≤ S) ∧ ∀ (μ' : mj_MM), P μ' → mj_nc μ' = N' → mj_ns μ' = S' → mj_J G mY_T_init Ex N S 53 [(0, va_rf (some h0)), (1, .int v1)] [va_rf (some a3), va_rf (some h0)] μ'))) :
    mj_J G mY_T_init Ex N S 39 [(0, va_rf (some h0)), (1, .int v1)] [va_rf s0, va_rf (some h0)] μ := by
  obtain ⟨ht1, H⟩ := H
  refine mj_putR rfl kc_T 4 (by decide) rfl tw_141 md_T_init_39 (Or.inr ⟨rfl, rfl, rfl⟩) ht1 ?_
  refine mj_aload_n 0 md_T_init_42 rfl ?_
  obtain ⟨hn2, H⟩ := H
  refine mj_newO kc_G kdv_G tw_49 tw_50 tw_3 md_T_init_43 hn2.1 hn2.2 (fun a3 ha4 => ?_)
  replace H := H a3 ha4
  have ht5 : mj_t (mj_new μ a3 6 0 3) h0 = 1 := mj_tk ht1 (by decide) ha4
  have ht6 : mj_t (mj_new μ a3 6 0 3) a3 = 6 := mj_tn
  refine mj_dup md_T_init_46 (mj_rfc _) ?_
  refine mj_sipush (v := 1000) md_T_init_47 (by decide) ?_
  obtain ⟨N', S', P, hM, hNS, H⟩ := H
  exact mj_callI (n := 1) (As := [.int 1000]) rfl hM ⟨tw_51, tw_3, tw_53, ⟨by decide, by decide, by decide +kernel⟩, by decide, by decide⟩ rfl rfl tw_52 rfl md_T_init_50 (by first | decide | (simp only [List.map_cons, List.map_nil, List.sum_cons, List.sum_nil, mj_rfc, mj_ci, mj_cl]; done) | (simp only [List.map_cons, List.map_nil, List.sum_cons, List.sum_nil, mj_rfc, mj_ci, mj_cl]; decide)) (fun _ => hNS) (mj_kV (fun μ' hP e1 e2 => mj_lvs [0, 1] rfl (H μ' hP e1 e2)))

set_option maxRecDepth 20000 in
theorem bk_T_init_53 {G : mj_G} {Ex : Option Value → mj_MM → Prop} {N S : Nat} {μ : mj_MM} {h0 : Nat} {v1 : Int32} {s0 : Option Nat}
    (H : ((mj_t μ h0 = 1) ∧ ((v1 < 1 → ((mj_nc μ + 1 ≤ N ∧ mj_ns μ + 1 ≤ S) ∧ ∀ a3 : Nat, mj_t μ a3 = 0 → mj_J G mY_T_init Ex N S 83 [(0, va_rf (some h0)), (2, .int 1), (3, .int 0)] [] (mj_pR (mj_new (mj_pR μ h0 5 s0) a3 1005 1 1) h0 1 (some a3)))) ∧ (¬ v1 < 1 → ((v1 ≤ 8 → (∃ n7 : Nat, (v1 = nI n7 ∧ n7 * 8 ≤ 536870912) ∧ (mj_nc μ + 1 ≤ N ∧ mj_ns μ + n7 ≤ S) ∧ ∀ a10 : Nat, mj_t μ a10 = 0 → mj_J G mY_T_init Ex N S 83 [(0, va_rf (some h0)), (2, .int v1), (3, .int 0)] [] (mj_pR (mj_new (mj_pR μ h0 5 s0) a10 1005 n7 n7) h0 1 (some a10)))) ∧ (¬ v1 ≤ 8 → ((mj_nc μ + 1 ≤ N ∧ mj_ns μ + 1 ≤ S) ∧ ∀ a15 : Nat, mj_t μ a15 = 0 → mj_J G mY_T_init Ex N S 83 [(0, va_rf (some h0)), (2, .int 1), (3, .int 0)] [] (mj_pR (mj_new (mj_pR μ h0 5 s0) a15 1005 1 1) h0 1 (some a15))))))))) :
    mj_J G mY_T_init Ex N S 53 [(0, va_rf (some h0)), (1, .int v1)] [va_rf s0, va_rf (some h0)] μ := by
  obtain ⟨ht1, H⟩ := H
  refine mj_putR rfl kc_T 5 (by decide) rfl tw_142 md_T_init_53 (Or.inr ⟨rfl, rfl, rfl⟩) ht1 ?_
  refine mj_iload_n 1 md_T_init_56 rfl ?_
  refine mj_iconst (v := 1) md_T_init_57 (by decide) ?_
  obtain ⟨H1, H2⟩ := H
  refine mj_icmp_lt (tgt := 67) md_T_init_58 (by decide) (fun hx => ?_) (fun hx => ?_)
  · replace H := H1 hx
    refine mj_iconst (v := 1) md_T_init_67 (by decide) ?_
    refine mj_goto (tgt := 72) md_T_init_68 (by decide) ?_
    refine mj_istn (i := 2) (lv' := [(2, .int 1), (0, va_rf (some h0)), (1, .int v1)]) md_T_init_72 rfl (by decide) (by first | rfl | (simp [mj_rfc]; done) | (simp [mj_rfc]; rfl)) ?_
    refine mj_aload_n 1 md_T_init_73 rfl ?_
    refine mj_iload_n 0 md_T_init_74 rfl ?_
    obtain ⟨hn2, H⟩ := H
    refine mj_newq (t := 5) rfl tw_71 md_T_init_75 rfl (by decide) hn2.1 hn2.2 (fun a3 ha4 => ?_)
    replace H := H a3 ha4
    have ht5 : mj_t (mj_new μ a3 1005 1 1) h0 = 1 := mj_tk ht1 (by decide) ha4
    have ht6 : mj_t (mj_new μ a3 1005 1 1) a3 = 1005 := mj_tn
    refine mj_putR rfl kc_T 1 (by decide) rfl tw_138 md_T_init_78 (Or.inr ⟨rfl, rfl, rfl⟩) ht5 ?_
    refine mj_iconst (v := 0) md_T_init_81 (by decide) ?_
    refine mj_istn (i := 3) (lv' := [(3, .int 0), (2, .int 1), (0, va_rf (some h0)), (1, .int v1)]) md_T_init_82 rfl (by decide) (by first | rfl | (simp [mj_rfc]; done) | (simp [mj_rfc]; rfl)) ?_
    exact mj_lvs [2, 1, 0] rfl H
  · replace H := H2 hx
    refine mj_iload_n 1 md_T_init_61 rfl ?_
    refine mj_bipush (v := 8) md_T_init_62 (by decide) ?_
    obtain ⟨H1, H2⟩ := H
    refine mj_icmp_le (tgt := 71) md_T_init_64 (by decide) (fun hx => ?_) (fun hx => ?_)
    · replace H := H1 hx
      refine mj_iload_n 1 md_T_init_71 rfl ?_
      refine mj_istn (i := 2) (lv' := [(2, .int v1), (0, va_rf (some h0)), (1, .int v1)]) md_T_init_72 rfl (by decide) (by first | rfl | (simp [mj_rfc]; done) | (simp [mj_rfc]; rfl)) ?_
      refine mj_aload_n 1 md_T_init_73 rfl ?_
      refine mj_iload_n 0 md_T_init_74 rfl ?_
      obtain ⟨n7, hq8, H⟩ := H
      obtain ⟨hn9, H⟩ := H
      refine mj_newq (t := 5) rfl tw_71 md_T_init_75 hq8.1 (by have := hq8.2; omega) hn9.1 hn9.2 (fun a10 ha11 => ?_)
      replace H := H a10 ha11
      have ht12 : mj_t (mj_new μ a10 1005 n7 n7) h0 = 1 := mj_tk ht1 (by decide) ha11
      have ht13 : mj_t (mj_new μ a10 1005 n7 n7) a10 = 1005 := mj_tn
      refine mj_putR rfl kc_T 1 (by decide) rfl tw_138 md_T_init_78 (Or.inr ⟨rfl, rfl, rfl⟩) ht12 ?_
      refine mj_iconst (v := 0) md_T_init_81 (by decide) ?_
      refine mj_istn (i := 3) (lv' := [(3, .int 0), (2, .int v1), (0, va_rf (some h0)), (1, .int v1)]) md_T_init_82 rfl (by decide) (by first | rfl | (simp [mj_rfc]; done) | (simp [mj_rfc]; rfl)) ?_
      exact mj_lvs [2, 1, 0] rfl H
    · replace H := H2 hx
      refine mj_iconst (v := 1) md_T_init_67 (by decide) ?_
      refine mj_goto (tgt := 72) md_T_init_68 (by decide) ?_
      refine mj_istn (i := 2) (lv' := [(2, .int 1), (0, va_rf (some h0)), (1, .int v1)]) md_T_init_72 rfl (by decide) (by first | rfl | (simp [mj_rfc]; done) | (simp [mj_rfc]; rfl)) ?_
      refine mj_aload_n 1 md_T_init_73 rfl ?_
      refine mj_iload_n 0 md_T_init_74 rfl ?_
      obtain ⟨hn14, H⟩ := H
      refine mj_newq (t := 5) rfl tw_71 md_T_init_75 rfl (by decide) hn14.1 hn14.2 (fun a15 ha16 => ?_)
      replace H := H a15 ha16
      have ht17 : mj_t (mj_new μ a15 1005 1 1) h0 = 1 := mj_tk ht1 (by decide) ha16
      have ht18 : mj_t (mj_new μ a15 1005 1 1) a15 = 1005 := mj_tn
      refine mj_putR rfl kc_T 1 (by decide) rfl tw_138 md_T_init_78 (Or.inr ⟨rfl, rfl, rfl⟩) ht17 ?_
      refine mj_iconst (v := 0) md_T_init_81 (by decide) ?_
      refine mj_istn (i := 3) (lv' := [(3, .int 0), (2, .int 1), (0, va_rf (some h0)), (1, .int v1)]) md_T_init_82 rfl (by decide) (by first | rfl | (simp [mj_rfc]; done) | (simp [mj_rfc]; rfl)) ?_
      exact mj_lvs [2, 1, 0] rfl H

set_option maxRecDepth 20000 in
theorem bk_T_init_83 {G : mj_G} {Ex : Option Value → mj_MM → Prop} {N S : Nat} {μ : mj_MM} {h0 : Nat} {v2 : Int32} {v3 : Int32}
    (H : ((v2 ≤ v3 → mj_J G mY_T_init Ex N S 110 [(0, va_rf (some h0)), (2, .int v2), (3, .int 0)] [] μ) ∧ (¬ v2 ≤ v3 → ((mj_t μ h0 = 1) ∧ (mj_nc μ + 1 ≤ N ∧ mj_ns μ + 7 ≤ S) ∧ ∀ a3 : Nat, mj_t μ a3 = 0 → (∃ (N' S' : Nat) (P : mj_MM → Prop), mj_M G my_C_init mY_C_init [va_rf (some a3), .int v3] N' S' (mj_new μ a3 2 0 7) (mj_XV P) ∧ (N' ≤ N ∧ S' ≤ S) ∧ ∀ (μ' : mj_MM), P μ' → mj_nc μ' = N' → mj_ns μ' = S' → mj_J G mY_T_init Ex N S 101 [(0, va_rf (some h0)), (2, .int v2), (3, .int v3)] [va_rf (some a3), .int v3, va_rf (mj_r μ h0 1)] μ'))))) :
    mj_J G mY_T_init Ex N S 83 [(0, va_rf (some h0)), (2, .int v2), (3, .int v3)] [] μ := by
  refine mj_iload_n 2 md_T_init_83 rfl ?_
  refine mj_iload_n 1 md_T_init_84 rfl ?_
  obtain ⟨H1, H2⟩ := H
  refine mj_icmp_ge (tgt := 108) md_T_init_85 (by decide) (fun hx => ?_) (fun hx => ?_)
  · replace H := H1 hx
    refine mj_iconst (v := 0) md_T_init_108 (by decide) ?_
    refine mj_istn (i := 3) (lv' := [(3, .int 0), (0, va_rf (some h0)), (2, .int v2)]) md_T_init_109 rfl (by decide) (by first | rfl | (simp [mj_rfc]; done) | (simp [mj_rfc]; rfl)) ?_
    exact mj_lvs [1, 2, 0] rfl H
  · replace H := H2 hx
    refine mj_aload_n 0 md_T_init_88 rfl ?_
    obtain ⟨ht1, H⟩ := H
    refine mj_getf (v := va_rf (mj_r μ h0 1)) rfl kc_T 1 (by decide) tw_138 md_T_init_89 ht1 rfl ?_
    refine mj_iload_n 2 md_T_init_92 rfl ?_
    obtain ⟨hn2, H⟩ := H
    refine mj_newO kc_C kdv_C tw_71 tw_73 tw_5 md_T_init_93 hn2.1 hn2.2 (fun a3 ha4 => ?_)
    replace H := H a3 ha4
    have ht5 : mj_t (mj_new μ a3 2 0 7) h0 = 1 := mj_tk ht1 (by decide) ha4
    have ht6 : mj_t (mj_new μ a3 2 0 7) a3 = 2 := mj_tn
    refine mj_dup md_T_init_96 (mj_rfc _) ?_
    refine mj_iload_n 2 md_T_init_97 rfl ?_
    obtain ⟨N', S', P, hM, hNS, H⟩ := H
    exact mj_callI (n := 1) (As := [.int v3]) rfl hM ⟨tw_74, tw_5, tw_76, ⟨by decide, by decide, by decide +kernel⟩, by decide, by decide⟩ rfl rfl tw_75 rfl md_T_init_98 (by first | decide | (simp only [List.map_cons, List.map_nil, List.sum_cons, List.sum_nil, mj_rfc, mj_ci, mj_cl]; done) | (simp only [List.map_cons, List.map_nil, List.sum_cons, List.sum_nil, mj_rfc, mj_ci, mj_cl]; decide)) (fun _ => hNS) (mj_kV (fun μ' hP e1 e2 => mj_lvs [0, 1, 2] rfl (H μ' hP e1 e2)))

set_option maxRecDepth 20000 in
theorem bk_T_init_110 {G : mj_G} {Ex : Option Value → mj_MM → Prop} {N S : Nat} {μ : mj_MM} {h0 : Nat} {v2 : Int32} {v3 : Int32}
    (H : ((mj_t μ h0 = 1) ∧ ∃ b2 : Nat, (mj_r μ h0 2 = some b2) ∧ (mj_t μ b2 = 1006) ∧ (((nI (mj_n μ b2)) ≤ v3 → mj_J G mY_T_init Ex N S 140 [(0, va_rf (some h0)), (2, .int v2), (3, .int 0)] [] μ) ∧ (¬ (nI (mj_n μ b2)) ≤ v3 → ((mj_nc μ + 1 ≤ N ∧ mj_ns μ + 3 ≤ S) ∧ ∀ a6 : Nat, mj_t μ a6 = 0 → (∃ P : mj_MM → Prop, mj_M G my_R_init mY_R_init [va_rf (some a6)] (mj_nc μ + 1) (mj_ns μ + 3) (mj_new μ a6 8 0 3) (mj_XV P) ∧ ∀ (μ' : mj_MM), P μ' → mj_nc μ' = mj_nc μ + 1 → mj_ns μ' = mj_ns μ + 3 → mj_J G mY_T_init Ex N S 131 [(0, va_rf (some h0)), (2, .int v2), (3, .int v3)] [va_rf (some a6), .int v3, va_rf (mj_r μ h0 2)] μ')))))) :
    mj_J G mY_T_init Ex N S 110 [(0, va_rf (some h0)), (2, .int v2), (3, .int v3)] [] μ := by
  refine mj_iload_n 2 md_T_init_110 rfl ?_
  refine mj_aload_n 0 md_T_init_111 rfl ?_
  obtain ⟨ht1, H⟩ := H
  refine mj_getf (v := va_rf (mj_r μ h0 2)) rfl kc_T 2 (by decide) tw_139 md_T_init_112 ht1 rfl ?_
  obtain ⟨b2, hb3, H⟩ := H
  obtain ⟨ht4, H⟩ := H
  refine mj_alen (t := 6) hb3 rfl ht4 md_T_init_115 ?_
  obtain ⟨H1, H2⟩ := H
  refine mj_icmp_ge (tgt := 138) md_T_init_116 (by decide) (fun hx => ?_) (fun hx => ?_)
  · replace H := H1 hx
    refine mj_iconst (v := 0) md_T_init_138 (by decide) ?_
    refine mj_istn (i := 3) (lv' := [(3, .int 0), (0, va_rf (some h0)), (2, .int v2)]) md_T_init_139 rfl (by decide) (by first | rfl | (simp [mj_rfc]; done) | (simp [mj_rfc]; rfl)) ?_
    exact mj_lvs [1, 2, 0] rfl H
  · replace H := H2 hx
    refine mj_aload_n 0 md_T_init_119 rfl ?_
    refine mj_getf (v := va_rf (mj_r μ h0 2)) rfl kc_T 2 (by decide) tw_139 md_T_init_120 ht1 rfl ?_
    refine mj_iload_n 2 md_T_init_123 rfl ?_
    obtain ⟨hn5, H⟩ := H
    refine mj_newO kc_R kdv_R tw_23 tw_106 tw_6 md_T_init_124 hn5.1 hn5.2 (fun a6 ha7 => ?_)
    replace H := H a6 ha7
    have ht8 : mj_t (mj_new μ a6 8 0 3) h0 = 1 := mj_tk ht1 (by decide) ha7
    have ht9 : mj_t (mj_new μ a6 8 0 3) b2 = 1006 := mj_tk ht4 (by decide) ha7
    have ht10 : mj_t (mj_new μ a6 8 0 3) a6 = 8 := mj_tn
    refine mj_dup md_T_init_127 (mj_rfc _) ?_
    obtain ⟨P, hM, H⟩ := H
    exact mj_callIN (n := 0) (As := []) rfl hM (by decide +kernel) tw_6 tw_109 ⟨by decide, by decide, by decide +kernel⟩ (by decide) (by decide) rfl rfl tw_108 rfl md_T_init_128 (by first | decide | (simp only [List.map_cons, List.map_nil, List.sum_cons, List.sum_nil, mj_rfc, mj_ci, mj_cl]; done) | (simp only [List.map_cons, List.map_nil, List.sum_cons, List.sum_nil, mj_rfc, mj_ci, mj_cl]; decide)) id (mj_kV (fun μ' hP e1 e2 => mj_lvs [0, 1, 2] rfl (H μ' hP e1 e2)))

set_option maxRecDepth 20000 in
theorem bk_T_init_101 {G : mj_G} {Ex : Option Value → mj_MM → Prop} {N S : Nat} {μ : mj_MM} {h0 : Nat} {v2 : Int32} {v3 : Int32} {s0 : Option Nat} {s1 : Int32} {s2 : Option Nat}
    (H : (∃ b1 : Nat, (s2 = some b1) ∧ (mj_t μ b1 = 1005) ∧ (vp_in s1 (mj_n μ b1)) ∧ ∃ b5 : Nat, (s0 = some b5) ∧ (mj_t μ b5 = 2) ∧ mj_J G mY_T_init Ex N S 83 [(0, va_rf (some h0)), (2, .int v2), (3, .int (v3 + 1))] [] (mj_pR μ b1 (Int32.toNatClampNeg s1) (some b5)))) :
    mj_J G mY_T_init Ex N S 101 [(0, va_rf (some h0)), (2, .int v2), (3, .int v3)] [va_rf s0, .int s1, va_rf s2] μ := by
  obtain ⟨b1, hb2, H⟩ := H
  obtain ⟨ht3, H⟩ := H
  obtain ⟨hi4, H⟩ := H
  obtain ⟨b5, hb6, H⟩ := H
  obtain ⟨ht7, H⟩ := H
  refine mj_aast (t := 5) hb2 hb6 rfl ht3 kc_C ht7 hi4 md_T_init_101 ?_
  refine mj_iinc (j := 2) (v := v3 + 1) (lv' := [(3, .int (v3 + 1)), (0, va_rf (some h0)), (2, .int v2)]) md_T_init_102 rfl rfl (by decide) (by first | rfl | (simp [mj_rfc]; done) | (simp [mj_rfc]; rfl)) ?_
  refine mj_goto (tgt := 83) md_T_init_105 (by decide) ?_
  exact mj_lvs [1, 2, 0] rfl H

set_option maxRecDepth 20000 in
theorem bk_T_init_140 {G : mj_G} {Ex : Option Value → mj_MM → Prop} {N S : Nat} {μ : mj_MM} {h0 : Nat} {v2 : Int32} {v3 : Int32}
    (H : ((mj_t μ h0 = 1) ∧ ∃ b2 : Nat, (mj_r μ h0 3 = some b2) ∧ (mj_t μ b2 = 1007) ∧ (((nI (mj_n μ b2)) ≤ v3 → ((mj_nc μ + 1 ≤ N ∧ mj_ns μ + 3 ≤ S) ∧ ∀ a6 : Nat, mj_t μ a6 = 0 → (∃ (N' S' : Nat) (P : mj_MM → Prop), mj_M G my_G_init mY_G_init [va_rf (some a6), .int (50000 * v2)] N' S' (mj_new μ a6 6 0 3) (mj_XV P) ∧ (N' ≤ N ∧ S' ≤ S) ∧ ∀ (μ' : mj_MM), P μ' → mj_nc μ' = N' → mj_ns μ' = S' → mj_J G mY_T_init Ex N S 180 [] [va_rf (some a6), va_rf (some h0)] μ'))) ∧ (¬ (nI (mj_n μ b2)) ≤ v3 → ((mj_nc μ + 1 ≤ N ∧ mj_ns μ + 2 ≤ S) ∧ ∀ a12 : Nat, mj_t μ a12 = 0 → (∃ P : mj_MM → Prop, mj_M G my_L_init mY_L_init [va_rf (some a12)] (mj_nc μ + 1) (mj_ns μ + 2) (mj_new μ a12 5 0 2) (mj_XV P) ∧ ∀ (μ' : mj_MM), P μ' → mj_nc μ' = mj_nc μ + 1 → mj_ns μ' = mj_ns μ + 2 → mj_J G mY_T_init Ex N S 161 [(0, va_rf (some h0)), (2, .int v2), (3, .int v3)] [va_rf (some a12), .int v3, va_rf (mj_r μ h0 3)] μ')))))) :
    mj_J G mY_T_init Ex N S 140 [(0, va_rf (some h0)), (2, .int v2), (3, .int v3)] [] μ := by
  refine mj_iload_n 2 md_T_init_140 rfl ?_
  refine mj_aload_n 0 md_T_init_141 rfl ?_
  obtain ⟨ht1, H⟩ := H
  refine mj_getf (v := va_rf (mj_r μ h0 3)) rfl kc_T 3 (by decide) tw_140 md_T_init_142 ht1 rfl ?_
  obtain ⟨b2, hb3, H⟩ := H
  obtain ⟨ht4, H⟩ := H
  refine mj_alen (t := 7) hb3 rfl ht4 md_T_init_145 ?_
  obtain ⟨H1, H2⟩ := H
  refine mj_icmp_ge (tgt := 168) md_T_init_146 (by decide) (fun hx => ?_) (fun hx => ?_)
  · replace H := H1 hx
    refine mj_aload_n 0 md_T_init_168 rfl ?_
    obtain ⟨hn5, H⟩ := H
    refine mj_newO kc_G kdv_G tw_49 tw_50 tw_3 md_T_init_169 hn5.1 hn5.2 (fun a6 ha7 => ?_)
    replace H := H a6 ha7
    have ht8 : mj_t (mj_new μ a6 6 0 3) h0 = 1 := mj_tk ht1 (by decide) ha7
    have ht9 : mj_t (mj_new μ a6 6 0 3) b2 = 1007 := mj_tk ht4 (by decide) ha7
    have ht10 : mj_t (mj_new μ a6 6 0 3) a6 = 6 := mj_tn
    refine mj_dup md_T_init_172 (mj_rfc _) ?_
    refine mj_ldc (v := 50000) tw_136 md_T_init_173 ?_
    refine mj_iload_n 1 md_T_init_175 rfl ?_
    refine mj_imul md_T_init_176 ?_
    obtain ⟨N', S', P, hM, hNS, H⟩ := H
    exact mj_callI (n := 1) (As := [.int (50000 * v2)]) rfl hM ⟨tw_51, tw_3, tw_53, ⟨by decide, by decide, by decide +kernel⟩, by decide, by decide⟩ rfl rfl tw_52 rfl md_T_init_177 (by first | decide | (simp only [List.map_cons, List.map_nil, List.sum_cons, List.sum_nil, mj_rfc, mj_ci, mj_cl]; done) | (simp only [List.map_cons, List.map_nil, List.sum_cons, List.sum_nil, mj_rfc, mj_ci, mj_cl]; decide)) (fun _ => hNS) (mj_kV (fun μ' hP e1 e2 => mj_lvs [] rfl (H μ' hP e1 e2)))
  · replace H := H2 hx
    refine mj_aload_n 0 md_T_init_149 rfl ?_
    refine mj_getf (v := va_rf (mj_r μ h0 3)) rfl kc_T 3 (by decide) tw_140 md_T_init_150 ht1 rfl ?_
    refine mj_iload_n 2 md_T_init_153 rfl ?_
    obtain ⟨hn11, H⟩ := H
    refine mj_newO kc_L kdv_L tw_25 tw_123 tw_7 md_T_init_154 hn11.1 hn11.2 (fun a12 ha13 => ?_)
    replace H := H a12 ha13
    have ht14 : mj_t (mj_new μ a12 5 0 2) h0 = 1 := mj_tk ht1 (by decide) ha13
    have ht15 : mj_t (mj_new μ a12 5 0 2) b2 = 1007 := mj_tk ht4 (by decide) ha13
    have ht16 : mj_t (mj_new μ a12 5 0 2) a12 = 5 := mj_tn
    refine mj_dup md_T_init_157 (mj_rfc _) ?_
    obtain ⟨P, hM, H⟩ := H
    exact mj_callIN (n := 0) (As := []) rfl hM (by decide +kernel) tw_7 tw_126 ⟨by decide, by decide, by decide +kernel⟩ (by decide) (by decide) rfl rfl tw_125 rfl md_T_init_158 (by first | decide | (simp only [List.map_cons, List.map_nil, List.sum_cons, List.sum_nil, mj_rfc, mj_ci, mj_cl]; done) | (simp only [List.map_cons, List.map_nil, List.sum_cons, List.sum_nil, mj_rfc, mj_ci, mj_cl]; decide)) id (mj_kV (fun μ' hP e1 e2 => mj_lvs [0, 1, 2] rfl (H μ' hP e1 e2)))

set_option maxRecDepth 20000 in
theorem bk_T_init_131 {G : mj_G} {Ex : Option Value → mj_MM → Prop} {N S : Nat} {μ : mj_MM} {h0 : Nat} {v2 : Int32} {v3 : Int32} {s0 : Option Nat} {s1 : Int32} {s2 : Option Nat}
    (H : (∃ b1 : Nat, (s2 = some b1) ∧ (mj_t μ b1 = 1006) ∧ (vp_in s1 (mj_n μ b1)) ∧ ∃ b5 : Nat, (s0 = some b5) ∧ (mj_t μ b5 = 8) ∧ mj_J G mY_T_init Ex N S 110 [(0, va_rf (some h0)), (2, .int v2), (3, .int (v3 + 1))] [] (mj_pR μ b1 (Int32.toNatClampNeg s1) (some b5)))) :
    mj_J G mY_T_init Ex N S 131 [(0, va_rf (some h0)), (2, .int v2), (3, .int v3)] [va_rf s0, .int s1, va_rf s2] μ := by
  obtain ⟨b1, hb2, H⟩ := H
  obtain ⟨ht3, H⟩ := H
  obtain ⟨hi4, H⟩ := H
  obtain ⟨b5, hb6, H⟩ := H
  obtain ⟨ht7, H⟩ := H
  refine mj_aast (t := 6) hb2 hb6 rfl ht3 kc_R ht7 hi4 md_T_init_131 ?_
  refine mj_iinc (j := 2) (v := v3 + 1) (lv' := [(3, .int (v3 + 1)), (0, va_rf (some h0)), (2, .int v2)]) md_T_init_132 rfl rfl (by decide) (by first | rfl | (simp [mj_rfc]; done) | (simp [mj_rfc]; rfl)) ?_
  refine mj_goto (tgt := 110) md_T_init_135 (by decide) ?_
  exact mj_lvs [1, 2, 0] rfl H

set_option maxRecDepth 20000 in
theorem bk_T_init_180 {G : mj_G} {Ex : Option Value → mj_MM → Prop} {N S : Nat} {μ : mj_MM} {h0 : Nat} {s0 : Option Nat}
    (H : ((mj_t μ h0 = 1) ∧ Ex none (mj_pR μ h0 6 s0))) :
    mj_J G mY_T_init Ex N S 180 [] [va_rf s0, va_rf (some h0)] μ := by
  obtain ⟨ht1, H⟩ := H
  refine mj_putR rfl kc_T 6 (by decide) rfl tw_143 md_T_init_180 (Or.inr ⟨rfl, rfl, rfl⟩) ht1 ?_
  exact mj_return md_T_init_183 rfl H

set_option maxRecDepth 20000 in
theorem bk_T_init_161 {G : mj_G} {Ex : Option Value → mj_MM → Prop} {N S : Nat} {μ : mj_MM} {h0 : Nat} {v2 : Int32} {v3 : Int32} {s0 : Option Nat} {s1 : Int32} {s2 : Option Nat}
    (H : (∃ b1 : Nat, (s2 = some b1) ∧ (mj_t μ b1 = 1007) ∧ (vp_in s1 (mj_n μ b1)) ∧ ∃ b5 : Nat, (s0 = some b5) ∧ (mj_t μ b5 = 5) ∧ mj_J G mY_T_init Ex N S 140 [(0, va_rf (some h0)), (2, .int v2), (3, .int (v3 + 1))] [] (mj_pR μ b1 (Int32.toNatClampNeg s1) (some b5)))) :
    mj_J G mY_T_init Ex N S 161 [(0, va_rf (some h0)), (2, .int v2), (3, .int v3)] [va_rf s0, .int s1, va_rf s2] μ := by
  obtain ⟨b1, hb2, H⟩ := H
  obtain ⟨ht3, H⟩ := H
  obtain ⟨hi4, H⟩ := H
  obtain ⟨b5, hb6, H⟩ := H
  obtain ⟨ht7, H⟩ := H
  refine mj_aast (t := 7) hb2 hb6 rfl ht3 kc_L ht7 hi4 md_T_init_161 ?_
  refine mj_iinc (j := 2) (v := v3 + 1) (lv' := [(3, .int (v3 + 1)), (0, va_rf (some h0)), (2, .int v2)]) md_T_init_162 rfl rfl (by decide) (by first | rfl | (simp [mj_rfc]; done) | (simp [mj_rfc]; rfl)) ?_
  refine mj_goto (tgt := 140) md_T_init_165 (by decide) ?_
  exact mj_lvs [1, 2, 0] rfl H

set_option maxRecDepth 20000 in
theorem bk_T_task_0 {G : mj_G} {Ex : Option Value → mj_MM → Prop} {N S : Nat} {μ : mj_MM} {h0 : Nat} {v1 : Int32} {v2 : Int32} {v3 : Int32} {v4 : Int32}
    (H : ((mj_t μ h0 = 1) ∧ (∃ P : Option Nat → mj_MM → Prop, mj_M G my_T_coreOf mY_T_coreOf [va_rf (some h0), .int v2] (mj_nc μ) (mj_ns μ) μ (mj_XR P) ∧ ∀ (x : Option Nat) (μ' : mj_MM), P x μ' → mj_nc μ' = mj_nc μ → mj_ns μ' = mj_ns μ → mj_J G mY_T_task Ex N S 5 [(0, va_rf (some h0)), (1, .int v1), (3, .int v3), (4, .int v4)] [va_rf x] μ'))) :
    mj_J G mY_T_task Ex N S 0 [(0, va_rf (some h0)), (1, .int v1), (2, .int v2), (3, .int v3), (4, .int v4)] [] μ := by
  refine mj_aload_n 0 md_T_task_0 rfl ?_
  refine mj_iload_n 2 md_T_task_1 rfl ?_
  obtain ⟨ht1, H⟩ := H
  obtain ⟨P, hM, H⟩ := H
  exact mj_callV (n := 1) (As := [.int v2]) rfl hM kc_T ht1 ⟨tw_181, tw_1, tw_184, ⟨by decide, by decide, by decide +kernel⟩, by decide, by decide⟩ tw_183 tp_0 rfl md_T_task_2 (by first | decide | (simp only [List.map_cons, List.map_nil, List.sum_cons, List.sum_nil, mj_rfc, mj_ci, mj_cl]; done) | (simp only [List.map_cons, List.map_nil, List.sum_cons, List.sum_nil, mj_rfc, mj_ci, mj_cl]; decide)) id (mj_kR (fun x μ' hP e1 e2 => mj_lvs [0, 1, 3, 4] rfl (H x μ' hP e1 e2)))

set_option maxRecDepth 20000 in
theorem bk_T_task_5 {G : mj_G} {Ex : Option Value → mj_MM → Prop} {N S : Nat} {μ : mj_MM} {h0 : Nat} {v1 : Int32} {v3 : Int32} {v4 : Int32} {s0 : Option Nat}
    (H : ((s0 = none → Ex (some (.int (-1))) μ) ∧ (∀ b1 : Nat, s0 = some b1 → ((v4 = 0 → ((v1 < 0 → Ex (some (.int (-2))) μ) ∧ (¬ v1 < 0 → ((255 < v1 → Ex (some (.int (-2))) μ) ∧ (¬ 255 < v1 → ((v3 < 1 → Ex (some (.int (-2))) μ) ∧ (¬ v3 < 1 → ((v3 ≤ 100 → ((mj_t μ h0 = 1) ∧ (((mj_i μ h0 12) ≤ 0 → (((mj_i μ h0 9) < 100 → ((mj_nc μ + 1 ≤ N ∧ mj_ns μ + 19 ≤ S) ∧ ∀ a5 : Nat, mj_t μ a5 = 0 → (∃ (N' S' : Nat) (P : mj_MM → Prop), mj_M G my_K_init mY_K_init [va_rf (some a5), .int (mj_i (mj_new (mj_pI μ h0 9 ((mj_i μ h0 9) + 1)) a5 9 0 19) h0 9), .int v1, va_rf s0, .int v3, .int v4] N' S' (mj_new (mj_pI μ h0 9 ((mj_i μ h0 9) + 1)) a5 9 0 19) (mj_XV P) ∧ (N' ≤ N ∧ S' ≤ S) ∧ ∀ (μ' : mj_MM), P μ' → mj_nc μ' = N' → mj_ns μ' = S' → mj_J G mY_T_task Ex N S 101 [(0, va_rf (some h0)), (5, va_rf s0)] [va_rf (some a5)] μ'))) ∧ (¬ (mj_i μ h0 9) < 100 → Ex (some (.int (-4))) μ))) ∧ (¬ (mj_i μ h0 12) ≤ 0 → Ex (some (.int (-3))) μ)))) ∧ (¬ v3 ≤ 100 → Ex (some (.int (-2))) μ))))))))) ∧ (¬ v4 = 0 → ((v1 < 0 → Ex (some (.int (-2))) μ) ∧ (¬ v1 < 0 → ((255 < v1 → Ex (some (.int (-2))) μ) ∧ (¬ 255 < v1 → ((v3 < 1 → Ex (some (.int (-2))) μ) ∧ (¬ v3 < 1 → ((v3 ≤ 1 → ((mj_t μ h0 = 1) ∧ (((mj_i μ h0 12) ≤ 0 → (((mj_i μ h0 9) < 100 → ((mj_nc μ + 1 ≤ N ∧ mj_ns μ + 19 ≤ S) ∧ ∀ a11 : Nat, mj_t μ a11 = 0 → (∃ (N' S' : Nat) (P : mj_MM → Prop), mj_M G my_K_init mY_K_init [va_rf (some a11), .int (mj_i (mj_new (mj_pI μ h0 9 ((mj_i μ h0 9) + 1)) a11 9 0 19) h0 9), .int v1, va_rf s0, .int v3, .int v4] N' S' (mj_new (mj_pI μ h0 9 ((mj_i μ h0 9) + 1)) a11 9 0 19) (mj_XV P) ∧ (N' ≤ N ∧ S' ≤ S) ∧ ∀ (μ' : mj_MM), P μ' → mj_nc μ' = N' → mj_ns μ' = S' → mj_J G mY_T_task Ex N S 101 [(0, va_rf (some h0)), (5, va_rf s0)] [va_rf (some a11)] μ'))) ∧ (¬ (mj_i μ h0 9) < 100 → Ex (some (.int (-4))) μ))) ∧ (¬ (mj_i μ h0 12) ≤ 0 → Ex (some (.int (-3))) μ)))) ∧ (¬ v3 ≤ 1 → Ex (some (.int (-2))) μ))))))))))))) :
    mj_J G mY_T_task Ex N S 5 [(0, va_rf (some h0)), (1, .int v1), (3, .int v3), (4, .int v4)] [va_rf s0] μ := by
  refine mj_astore (lv' := [(5, va_rf s0), (0, va_rf (some h0)), (1, .int v1), (3, .int v3), (4, .int v4)]) md_T_task_5 (by decide) (by first | rfl | (simp [mj_rfc]; done) | (simp [mj_rfc]; rfl)) ?_
  refine mj_aload 0 md_T_task_7 rfl ?_
  obtain ⟨H1, H2⟩ := H
  refine mj_ifnonnull (tgt := 14) md_T_task_9 (by decide) (fun b1 hb2 => ?_) (fun hb => ?_)
  · replace H := H2 b1 hb2
    refine mj_iload 4 md_T_task_14 rfl ?_
    obtain ⟨H1, H2⟩ := H
    refine mj_if_eq (tgt := 23) md_T_task_16 (by decide) (fun hx => ?_) (fun hx => ?_)
    · replace H := H1 hx
      refine mj_bipush (v := 100) md_T_task_23 (by decide) ?_
      refine mj_istore (lv' := [(6, .int 100), (5, va_rf s0), (0, va_rf (some h0)), (1, .int v1), (3, .int v3), (4, .int v4)]) md_T_task_25 (by decide) (by first | rfl | (simp [mj_rfc]; done) | (simp [mj_rfc]; rfl)) ?_
      refine mj_iload_n 3 md_T_task_27 rfl ?_
      obtain ⟨H1, H2⟩ := H
      refine mj_if_lt (tgt := 49) md_T_task_28 (by decide) (fun hx => ?_) (fun hx => ?_)
      · replace H := H1 hx
        refine mj_bipush (v := (-2)) md_T_task_49 (by decide) ?_
        exact mj_ireturn md_T_task_51 rfl rfl H
      · replace H := H2 hx
        refine mj_iload_n 3 md_T_task_31 rfl ?_
        refine mj_sipush (v := 255) md_T_task_32 (by decide) ?_
        obtain ⟨H1, H2⟩ := H
        refine mj_icmp_gt (tgt := 49) md_T_task_35 (by decide) (fun hx => ?_) (fun hx => ?_)
        · replace H := H1 hx
          refine mj_bipush (v := (-2)) md_T_task_49 (by decide) ?_
          exact mj_ireturn md_T_task_51 rfl rfl H
        · replace H := H2 hx
          refine mj_iload_n 4 md_T_task_38 rfl ?_
          refine mj_iconst (v := 1) md_T_task_39 (by decide) ?_
          obtain ⟨H1, H2⟩ := H
          refine mj_icmp_lt (tgt := 49) md_T_task_40 (by decide) (fun hx => ?_) (fun hx => ?_)
          · replace H := H1 hx
            refine mj_bipush (v := (-2)) md_T_task_49 (by decide) ?_
            exact mj_ireturn md_T_task_51 rfl rfl H
          · replace H := H2 hx
            refine mj_iload_n 4 md_T_task_43 rfl ?_
            refine mj_iload 0 md_T_task_44 rfl ?_
            obtain ⟨H1, H2⟩ := H
            refine mj_icmp_le (tgt := 52) md_T_task_46 (by decide) (fun hx => ?_) (fun hx => ?_)
            · replace H := H1 hx
              refine mj_aload_n 2 md_T_task_52 rfl ?_
              obtain ⟨ht3, H⟩ := H
              refine mj_getf (v := .int (mj_i μ h0 12)) rfl kc_T 12 (by decide) tw_149 md_T_task_53 ht3 rfl ?_
              obtain ⟨H1, H2⟩ := H
              refine mj_if_le (tgt := 62) md_T_task_56 (by decide) (fun hx => ?_) (fun hx => ?_)
              · replace H := H1 hx
                refine mj_aload_n 2 md_T_task_62 rfl ?_
                refine mj_getf (v := .int (mj_i μ h0 9)) rfl kc_T 9 (by decide) tw_146 md_T_task_63 ht3 rfl ?_
                refine mj_bipush (v := 100) md_T_task_66 (by decide) ?_
                obtain ⟨H1, H2⟩ := H
                refine mj_icmp_lt (tgt := 74) md_T_task_68 (by decide) (fun hx => ?_) (fun hx => ?_)
                · replace H := H1 hx
                  refine mj_aload_n 2 md_T_task_74 rfl ?_
                  refine mj_dup md_T_task_75 (mj_rfc _) ?_
                  refine mj_getf (v := .int (mj_i μ h0 9)) rfl kc_T 9 (by decide) tw_146 md_T_task_76 ht3 rfl ?_
                  refine mj_iconst (v := 1) md_T_task_79 (by decide) ?_
                  refine mj_iadd md_T_task_80 ?_
                  refine mj_putI rfl kc_T 9 (by decide) rfl tw_146 md_T_task_81 (Or.inl rfl) ht3 rfl rfl ?_
                  obtain ⟨hn4, H⟩ := H
                  refine mj_newO kc_K kdv_K tw_21 tw_185 tw_9 md_T_task_84 hn4.1 hn4.2 (fun a5 ha6 => ?_)
                  replace H := H a5 ha6
                  have ht7 : mj_t (mj_new μ a5 9 0 19) h0 = 1 := mj_tk ht3 (by decide) ha6
                  have ht8 : mj_t (mj_new μ a5 9 0 19) a5 = 9 := mj_tn
                  refine mj_dup md_T_task_87 (mj_rfc _) ?_
                  refine mj_aload_n 2 md_T_task_88 rfl ?_
                  refine mj_getf (v := .int (mj_i (mj_new (mj_pI μ h0 9 ((mj_i μ h0 9) + 1)) a5 9 0 19) h0 9)) rfl kc_T 9 (by decide) tw_146 md_T_task_89 ht7 rfl ?_
                  refine mj_iload_n 3 md_T_task_92 rfl ?_
                  refine mj_aload 1 md_T_task_93 rfl ?_
                  refine mj_iload_n 4 md_T_task_95 rfl ?_
                  refine mj_iload 5 md_T_task_96 rfl ?_
                  obtain ⟨N', S', P, hM, hNS, H⟩ := H
                  exact mj_callI (n := 5) (As := [.int (mj_i (mj_new (mj_pI μ h0 9 ((mj_i μ h0 9) + 1)) a5 9 0 19) h0 9), .int v1, va_rf s0, .int v3, .int v4]) rfl hM ⟨tw_186, tw_9, tw_188, ⟨by decide, by decide, by decide +kernel⟩, by decide, by decide⟩ rfl rfl tw_187 rfl md_T_task_98 (by first | decide | (simp only [List.map_cons, List.map_nil, List.sum_cons, List.sum_nil, mj_rfc, mj_ci, mj_cl]; done) | (simp only [List.map_cons, List.map_nil, List.sum_cons, List.sum_nil, mj_rfc, mj_ci, mj_cl]; decide)) (fun _ => hNS) (mj_kV (fun μ' hP e1 e2 => mj_lvs [2, 1] rfl (H μ' hP e1 e2)))
                · replace H := H2 hx
                  refine mj_bipush (v := (-4)) md_T_task_71 (by decide) ?_
                  exact mj_ireturn md_T_task_73 rfl rfl H
              · replace H := H2 hx
                refine mj_bipush (v := (-3)) md_T_task_59 (by decide) ?_
                exact mj_ireturn md_T_task_61 rfl rfl H
            · replace H := H2 hx
              refine mj_bipush (v := (-2)) md_T_task_49 (by decide) ?_
              exact mj_ireturn md_T_task_51 rfl rfl H
    · replace H := H2 hx
      refine mj_iconst (v := 1) md_T_task_19 (by decide) ?_
      refine mj_goto (tgt := 25) md_T_task_20 (by decide) ?_
      refine mj_istore (lv' := [(6, .int 1), (5, va_rf s0), (0, va_rf (some h0)), (1, .int v1), (3, .int v3), (4, .int v4)]) md_T_task_25 (by decide) (by first | rfl | (simp [mj_rfc]; done) | (simp [mj_rfc]; rfl)) ?_
      refine mj_iload_n 3 md_T_task_27 rfl ?_
      obtain ⟨H1, H2⟩ := H
      refine mj_if_lt (tgt := 49) md_T_task_28 (by decide) (fun hx => ?_) (fun hx => ?_)
      · replace H := H1 hx
        refine mj_bipush (v := (-2)) md_T_task_49 (by decide) ?_
        exact mj_ireturn md_T_task_51 rfl rfl H
      · replace H := H2 hx
        refine mj_iload_n 3 md_T_task_31 rfl ?_
        refine mj_sipush (v := 255) md_T_task_32 (by decide) ?_
        obtain ⟨H1, H2⟩ := H
        refine mj_icmp_gt (tgt := 49) md_T_task_35 (by decide) (fun hx => ?_) (fun hx => ?_)
        · replace H := H1 hx
          refine mj_bipush (v := (-2)) md_T_task_49 (by decide) ?_
          exact mj_ireturn md_T_task_51 rfl rfl H
        · replace H := H2 hx
          refine mj_iload_n 4 md_T_task_38 rfl ?_
          refine mj_iconst (v := 1) md_T_task_39 (by decide) ?_
          obtain ⟨H1, H2⟩ := H
          refine mj_icmp_lt (tgt := 49) md_T_task_40 (by decide) (fun hx => ?_) (fun hx => ?_)
          · replace H := H1 hx
            refine mj_bipush (v := (-2)) md_T_task_49 (by decide) ?_
            exact mj_ireturn md_T_task_51 rfl rfl H
          · replace H := H2 hx
            refine mj_iload_n 4 md_T_task_43 rfl ?_
            refine mj_iload 0 md_T_task_44 rfl ?_
            obtain ⟨H1, H2⟩ := H
            refine mj_icmp_le (tgt := 52) md_T_task_46 (by decide) (fun hx => ?_) (fun hx => ?_)
            · replace H := H1 hx
              refine mj_aload_n 2 md_T_task_52 rfl ?_
              obtain ⟨ht9, H⟩ := H
              refine mj_getf (v := .int (mj_i μ h0 12)) rfl kc_T 12 (by decide) tw_149 md_T_task_53 ht9 rfl ?_
              obtain ⟨H1, H2⟩ := H
              refine mj_if_le (tgt := 62) md_T_task_56 (by decide) (fun hx => ?_) (fun hx => ?_)
              · replace H := H1 hx
                refine mj_aload_n 2 md_T_task_62 rfl ?_
                refine mj_getf (v := .int (mj_i μ h0 9)) rfl kc_T 9 (by decide) tw_146 md_T_task_63 ht9 rfl ?_
                refine mj_bipush (v := 100) md_T_task_66 (by decide) ?_
                obtain ⟨H1, H2⟩ := H
                refine mj_icmp_lt (tgt := 74) md_T_task_68 (by decide) (fun hx => ?_) (fun hx => ?_)
                · replace H := H1 hx
                  refine mj_aload_n 2 md_T_task_74 rfl ?_
                  refine mj_dup md_T_task_75 (mj_rfc _) ?_
                  refine mj_getf (v := .int (mj_i μ h0 9)) rfl kc_T 9 (by decide) tw_146 md_T_task_76 ht9 rfl ?_
                  refine mj_iconst (v := 1) md_T_task_79 (by decide) ?_
                  refine mj_iadd md_T_task_80 ?_
                  refine mj_putI rfl kc_T 9 (by decide) rfl tw_146 md_T_task_81 (Or.inl rfl) ht9 rfl rfl ?_
                  obtain ⟨hn10, H⟩ := H
                  refine mj_newO kc_K kdv_K tw_21 tw_185 tw_9 md_T_task_84 hn10.1 hn10.2 (fun a11 ha12 => ?_)
                  replace H := H a11 ha12
                  have ht13 : mj_t (mj_new μ a11 9 0 19) h0 = 1 := mj_tk ht9 (by decide) ha12
                  have ht14 : mj_t (mj_new μ a11 9 0 19) a11 = 9 := mj_tn
                  refine mj_dup md_T_task_87 (mj_rfc _) ?_
                  refine mj_aload_n 2 md_T_task_88 rfl ?_
                  refine mj_getf (v := .int (mj_i (mj_new (mj_pI μ h0 9 ((mj_i μ h0 9) + 1)) a11 9 0 19) h0 9)) rfl kc_T 9 (by decide) tw_146 md_T_task_89 ht13 rfl ?_
                  refine mj_iload_n 3 md_T_task_92 rfl ?_
                  refine mj_aload 1 md_T_task_93 rfl ?_
                  refine mj_iload_n 4 md_T_task_95 rfl ?_
                  refine mj_iload 5 md_T_task_96 rfl ?_
                  obtain ⟨N', S', P, hM, hNS, H⟩ := H
                  exact mj_callI (n := 5) (As := [.int (mj_i (mj_new (mj_pI μ h0 9 ((mj_i μ h0 9) + 1)) a11 9 0 19) h0 9), .int v1, va_rf s0, .int v3, .int v4]) rfl hM ⟨tw_186, tw_9, tw_188, ⟨by decide, by decide, by decide +kernel⟩, by decide, by decide⟩ rfl rfl tw_187 rfl md_T_task_98 (by first | decide | (simp only [List.map_cons, List.map_nil, List.sum_cons, List.sum_nil, mj_rfc, mj_ci, mj_cl]; done) | (simp only [List.map_cons, List.map_nil, List.sum_cons, List.sum_nil, mj_rfc, mj_ci, mj_cl]; decide)) (fun _ => hNS) (mj_kV (fun μ' hP e1 e2 => mj_lvs [2, 1] rfl (H μ' hP e1 e2)))
                · replace H := H2 hx
                  refine mj_bipush (v := (-4)) md_T_task_71 (by decide) ?_
                  exact mj_ireturn md_T_task_73 rfl rfl H
              · replace H := H2 hx
                refine mj_bipush (v := (-3)) md_T_task_59 (by decide) ?_
                exact mj_ireturn md_T_task_61 rfl rfl H
            · replace H := H2 hx
              refine mj_bipush (v := (-2)) md_T_task_49 (by decide) ?_
              exact mj_ireturn md_T_task_51 rfl rfl H
  · replace H := H1 hb
    refine mj_iconst (v := (-1)) md_T_task_12 (by decide) ?_
    exact mj_ireturn md_T_task_13 rfl rfl H

set_option maxRecDepth 20000 in
theorem bk_T_task_101 {G : mj_G} {Ex : Option Value → mj_MM → Prop} {N S : Nat} {μ : mj_MM} {h0 : Nat} {v5 : Option Nat} {s0 : Option Nat}
    (H : ((mj_t μ h0 = 1) ∧ ∃ b2 : Nat, (mj_r μ h0 0 = some b2) ∧ (mj_t μ b2 = 1004) ∧ (vp_in (mj_i μ h0 9) (mj_n μ b2)) ∧ ∃ b6 : Nat, (s0 = some b6) ∧ (mj_t μ b6 = 9) ∧ ∃ b9 : Nat, (v5 = some b9) ∧ (mj_t μ b9 = 2) ∧ (∃ P : mj_MM → Prop, mj_M G my_C_addTask mY_C_addTask [va_rf (some b9), va_rf s0] (mj_nc μ) (mj_ns μ) (mj_pR μ b2 (Int32.toNatClampNeg (mj_i μ h0 9)) (some b6)) (mj_XV P) ∧ ∀ (μ' : mj_MM), P μ' → mj_nc μ' = mj_nc μ → mj_ns μ' = mj_ns μ → mj_J G mY_T_task Ex N S 121 [(0, va_rf (some h0))] [] μ'))) :
    mj_J G mY_T_task Ex N S 101 [(0, va_rf (some h0)), (5, va_rf v5)] [va_rf s0] μ := by
  refine mj_astore (lv' := [(7, va_rf s0), (0, va_rf (some h0)), (5, va_rf v5)]) md_T_task_101 (by decide) (by first | rfl | (simp [mj_rfc]; done) | (simp [mj_rfc]; rfl)) ?_
  refine mj_aload_n 1 md_T_task_103 rfl ?_
  obtain ⟨ht1, H⟩ := H
  refine mj_getf (v := va_rf (mj_r μ h0 0)) rfl kc_T 0 (by decide) tw_137 md_T_task_104 ht1 rfl ?_
  refine mj_aload_n 1 md_T_task_107 rfl ?_
  refine mj_getf (v := .int (mj_i μ h0 9)) rfl kc_T 9 (by decide) tw_146 md_T_task_108 ht1 rfl ?_
  refine mj_aload 0 md_T_task_111 rfl ?_
  obtain ⟨b2, hb3, H⟩ := H
  obtain ⟨ht4, H⟩ := H
  obtain ⟨hi5, H⟩ := H
  obtain ⟨b6, hb7, H⟩ := H
  obtain ⟨ht8, H⟩ := H
  refine mj_aast (t := 4) hb3 hb7 rfl ht4 kc_K ht8 hi5 md_T_task_113 ?_
  refine mj_aload 2 md_T_task_114 rfl ?_
  refine mj_aload 0 md_T_task_116 rfl ?_
  obtain ⟨b9, hb10, H⟩ := H
  obtain ⟨ht11, H⟩ := H
  obtain ⟨P, hM, H⟩ := H
  exact mj_callV (n := 1) (As := [va_rf s0]) hb10 hM kc_C ht11 ⟨tw_286, tw_5, tw_289, ⟨by decide, by decide, by decide +kernel⟩, by decide, by decide⟩ tw_287 tw_288 rfl md_T_task_118 (by first | decide | (simp only [List.map_cons, List.map_nil, List.sum_cons, List.sum_nil, mj_rfc, mj_ci, mj_cl]; done) | (simp only [List.map_cons, List.map_nil, List.sum_cons, List.sum_nil, mj_rfc, mj_ci, mj_cl]; decide)) id (mj_kV (fun μ' hP e1 e2 => mj_lvs [1] rfl (H μ' hP e1 e2)))

set_option maxRecDepth 20000 in
theorem bk_T_task_121 {G : mj_G} {Ex : Option Value → mj_MM → Prop} {N S : Nat} {μ : mj_MM} {h0 : Nat}
    (H : ((mj_t μ h0 = 1) ∧ Ex (some (.int (mj_i μ h0 9))) μ)) :
    mj_J G mY_T_task Ex N S 121 [(0, va_rf (some h0))] [] μ := by
  refine mj_aload_n 0 md_T_task_121 rfl ?_
  obtain ⟨ht1, H⟩ := H
  refine mj_getf (v := .int (mj_i μ h0 9)) rfl kc_T 9 (by decide) tw_146 md_T_task_122 ht1 rfl ?_
  exact mj_ireturn md_T_task_125 rfl rfl H

set_option maxRecDepth 20000 in
theorem bk_T_part_0 {G : mj_G} {Ex : Option Value → mj_MM → Prop} {N S : Nat} {μ : mj_MM} {h0 : Nat} {v1 : Int32} {v2 : Int32} {v3 : Int64}
    (H : ((mj_t μ h0 = 1) ∧ (∃ P : Option Nat → mj_MM → Prop, mj_M G my_T_taskOf mY_T_taskOf [va_rf (some h0), .int v1] (mj_nc μ) (mj_ns μ) μ (mj_XR P) ∧ ∀ (x : Option Nat) (μ' : mj_MM), P x μ' → mj_nc μ' = mj_nc μ → mj_ns μ' = mj_ns μ → mj_J G mY_T_part Ex N S 5 [(0, va_rf (some h0)), (2, .int v2), (3, .long v3)] [va_rf x] μ'))) :
    mj_J G mY_T_part Ex N S 0 [(0, va_rf (some h0)), (1, .int v1), (2, .int v2), (3, .long v3)] [] μ := by
  refine mj_aload_n 0 md_T_part_0 rfl ?_
  refine mj_iload_n 1 md_T_part_1 rfl ?_
  obtain ⟨ht1, H⟩ := H
  obtain ⟨P, hM, H⟩ := H
  exact mj_callV (n := 1) (As := [.int v1]) rfl hM kc_T ht1 ⟨tw_294, tw_1, tw_297, ⟨by decide, by decide, by decide +kernel⟩, by decide, by decide⟩ tw_296 tp_1 rfl md_T_part_2 (by first | decide | (simp only [List.map_cons, List.map_nil, List.sum_cons, List.sum_nil, mj_rfc, mj_ci, mj_cl]; done) | (simp only [List.map_cons, List.map_nil, List.sum_cons, List.sum_nil, mj_rfc, mj_ci, mj_cl]; decide)) id (mj_kR (fun x μ' hP e1 e2 => mj_lvs [0, 2, 3] rfl (H x μ' hP e1 e2)))

set_option maxRecDepth 20000 in
theorem bk_T_part_5 {G : mj_G} {Ex : Option Value → mj_MM → Prop} {N S : Nat} {μ : mj_MM} {h0 : Nat} {v2 : Int32} {v3 : Int64} {s0 : Option Nat}
    (H : ((s0 = none → Ex (some (.int (-1))) μ) ∧ (∀ b1 : Nat, s0 = some b1 → (∃ P : Int32 → mj_MM → Prop, mj_M G my_T_mayBePart mY_T_mayBePart [.int v2, .long v3] (mj_nc μ) (mj_ns μ) μ (mj_XI P) ∧ ∀ (x : Int32) (μ' : mj_MM), P x μ' → mj_nc μ' = mj_nc μ → mj_ns μ' = mj_ns μ → mj_J G mY_T_part Ex N S 19 [(0, va_rf (some h0)), (2, .int v2), (3, .long v3), (5, va_rf s0)] [.int x] μ')))) :
    mj_J G mY_T_part Ex N S 5 [(0, va_rf (some h0)), (2, .int v2), (3, .long v3)] [va_rf s0] μ := by
  refine mj_astore (lv' := [(5, va_rf s0), (0, va_rf (some h0)), (2, .int v2), (3, .long v3)]) md_T_part_5 (by decide) (by first | rfl | (simp [mj_rfc]; done) | (simp [mj_rfc]; rfl)) ?_
  refine mj_aload 0 md_T_part_7 rfl ?_
  obtain ⟨H1, H2⟩ := H
  refine mj_ifnonnull (tgt := 14) md_T_part_9 (by decide) (fun b1 hb2 => ?_) (fun hb => ?_)
  · replace H := H2 b1 hb2
    refine mj_iload_n 2 md_T_part_14 rfl ?_
    refine mj_lload_n 3 md_T_part_15 rfl ?_
    obtain ⟨P, hM, H⟩ := H
    exact mj_callS (n := 2) (As := [.int v2, .long v3]) hM ⟨tw_298, tw_1, tw_300, ⟨by decide, by decide, by decide +kernel⟩, by decide, by decide⟩ tw_299 rfl md_T_part_16 (by first | decide | (simp only [List.map_cons, List.map_nil, List.sum_cons, List.sum_nil, mj_rfc, mj_ci, mj_cl]; done) | (simp only [List.map_cons, List.map_nil, List.sum_cons, List.sum_nil, mj_rfc, mj_ci, mj_cl]; decide)) id (mj_kI (fun x μ' hP e1 e2 => mj_lvs [1, 2, 3, 0] rfl (H x μ' hP e1 e2)))
  · replace H := H1 hb
    refine mj_iconst (v := (-1)) md_T_part_12 (by decide) ?_
    exact mj_ireturn md_T_part_13 rfl rfl H

set_option maxRecDepth 20000 in
theorem bk_T_part_19 {G : mj_G} {Ex : Option Value → mj_MM → Prop} {N S : Nat} {μ : mj_MM} {h0 : Nat} {v2 : Int32} {v3 : Int64} {v5 : Option Nat} {s0 : Int32}
    (H : ((¬ s0 = 0 → ((mj_t μ h0 = 1) ∧ (((mj_i μ h0 12) ≤ 0 → (((mj_i μ h0 10) < 500 → ((¬ v2 = 6 → ((mj_nc μ + 1 ≤ N ∧ mj_ns μ + 3 ≤ S) ∧ ∀ a3 : Nat, mj_t μ a3 = 0 → (∃ P : mj_MM → Prop, mj_M G my_P_init mY_P_init [va_rf (some a3), .int v2, .int (Int64.toInt32 v3)] (mj_nc μ + 1) (mj_ns μ + 3) (mj_new (mj_pI μ h0 10 ((mj_i μ h0 10) + 1)) a3 7 0 3) (mj_XV P) ∧ ∀ (μ' : mj_MM), P μ' → mj_nc μ' = mj_nc μ + 1 → mj_ns μ' = mj_ns μ + 3 → mj_J G mY_T_part Ex N S 111 [] [va_rf (some a3), va_rf v5] μ'))) ∧ (v2 = 6 → (∃ P : Option Nat → mj_MM → Prop, mj_M G my_T_resourceOf mY_T_resourceOf [va_rf (some h0), .int (Int64.toInt32 v3)] (mj_nc μ) (mj_ns μ) (mj_pI μ h0 10 ((mj_i μ h0 10) + 1)) (mj_XR P) ∧ ∀ (x : Option Nat) (μ' : mj_MM), P x μ' → mj_nc μ' = mj_nc μ → mj_ns μ' = mj_ns μ → mj_J G mY_T_part Ex N S 74 [(2, .int v2), (5, va_rf v5), (6, .int (Int64.toInt32 v3))] [va_rf x] μ')))) ∧ (¬ (mj_i μ h0 10) < 500 → Ex (some (.int (-4))) μ))) ∧ (¬ (mj_i μ h0 12) ≤ 0 → Ex (some (.int (-3))) μ)))) ∧ (s0 = 0 → Ex (some (.int (-2))) μ))) :
    mj_J G mY_T_part Ex N S 19 [(0, va_rf (some h0)), (2, .int v2), (3, .long v3), (5, va_rf v5)] [.int s0] μ := by
  obtain ⟨H1, H2⟩ := H
  refine mj_if_ne (tgt := 25) md_T_part_19 (by decide) (fun hx => ?_) (fun hx => ?_)
  · replace H := H1 hx
    refine mj_aload_n 0 md_T_part_25 rfl ?_
    obtain ⟨ht1, H⟩ := H
    refine mj_getf (v := .int (mj_i μ h0 12)) rfl kc_T 12 (by decide) tw_149 md_T_part_26 ht1 rfl ?_
    obtain ⟨H1, H2⟩ := H
    refine mj_if_le (tgt := 35) md_T_part_29 (by decide) (fun hx => ?_) (fun hx => ?_)
    · replace H := H1 hx
      refine mj_aload_n 0 md_T_part_35 rfl ?_
      refine mj_getf (v := .int (mj_i μ h0 10)) rfl kc_T 10 (by decide) tw_147 md_T_part_36 ht1 rfl ?_
      refine mj_sipush (v := 500) md_T_part_39 (by decide) ?_
      obtain ⟨H1, H2⟩ := H
      refine mj_icmp_lt (tgt := 48) md_T_part_42 (by decide) (fun hx => ?_) (fun hx => ?_)
      · replace H := H1 hx
        refine mj_aload_n 0 md_T_part_48 rfl ?_
        refine mj_dup md_T_part_49 (mj_rfc _) ?_
        refine mj_getf (v := .int (mj_i μ h0 10)) rfl kc_T 10 (by decide) tw_147 md_T_part_50 ht1 rfl ?_
        refine mj_iconst (v := 1) md_T_part_53 (by decide) ?_
        refine mj_iadd md_T_part_54 ?_
        refine mj_putI rfl kc_T 10 (by decide) rfl tw_147 md_T_part_55 (Or.inl rfl) ht1 rfl rfl ?_
        refine mj_lload_n 2 md_T_part_58 rfl ?_
        refine mj_l2i md_T_part_59 ?_
        refine mj_istore (lv' := [(6, .int (Int64.toInt32 v3)), (0, va_rf (some h0)), (2, .int v2), (3, .long v3), (5, va_rf v5)]) md_T_part_60 (by decide) (by first | rfl | (simp [mj_rfc]; done) | (simp [mj_rfc]; rfl)) ?_
        refine mj_iload_n 2 md_T_part_62 rfl ?_
        refine mj_bipush (v := 6) md_T_part_63 (by decide) ?_
        obtain ⟨H1, H2⟩ := H
        refine mj_icmp_ne (tgt := 99) md_T_part_65 (by decide) (fun hx => ?_) (fun hx => ?_)
        · replace H := H1 hx
          refine mj_aload 4 md_T_part_99 rfl ?_
          obtain ⟨hn2, H⟩ := H
          refine mj_newO kc_P kdv_P tw_311 tw_191 tw_10 md_T_part_101 hn2.1 hn2.2 (fun a3 ha4 => ?_)
          replace H := H a3 ha4
          have ht5 : mj_t (mj_new μ a3 7 0 3) h0 = 1 := mj_tk ht1 (by decide) ha4
          have ht6 : mj_t (mj_new μ a3 7 0 3) a3 = 7 := mj_tn
          refine mj_dup md_T_part_104 (mj_rfc _) ?_
          refine mj_iload_n 2 md_T_part_105 rfl ?_
          refine mj_iload 0 md_T_part_106 rfl ?_
          obtain ⟨P, hM, H⟩ := H
          exact mj_callI (n := 2) (As := [.int v2, .int (Int64.toInt32 v3)]) rfl hM ⟨tw_312, tw_10, tw_194, ⟨by decide, by decide, by decide +kernel⟩, by decide, by decide⟩ rfl rfl tw_193 rfl md_T_part_108 (by first | decide | (simp only [List.map_cons, List.map_nil, List.sum_cons, List.sum_nil, mj_rfc, mj_ci, mj_cl]; done) | (simp only [List.map_cons, List.map_nil, List.sum_cons, List.sum_nil, mj_rfc, mj_ci, mj_cl]; decide)) id (mj_kV (fun μ' hP e1 e2 => mj_lvs [] rfl (H μ' hP e1 e2)))
        · replace H := H2 hx
          refine mj_aload_n 1 md_T_part_68 rfl ?_
          refine mj_iload 0 md_T_part_69 rfl ?_
          obtain ⟨P, hM, H⟩ := H
          exact mj_callV (n := 1) (As := [.int (Int64.toInt32 v3)]) rfl hM kc_T ht1 ⟨tw_306, tw_1, tw_309, ⟨by decide, by decide, by decide +kernel⟩, by decide, by decide⟩ tw_308 tp_2 rfl md_T_part_71 (by first | decide | (simp only [List.map_cons, List.map_nil, List.sum_cons, List.sum_nil, mj_rfc, mj_ci, mj_cl]; done) | (simp only [List.map_cons, List.map_nil, List.sum_cons, List.sum_nil, mj_rfc, mj_ci, mj_cl]; decide)) id (mj_kR (fun x μ' hP e1 e2 => mj_lvs [2, 4, 0] rfl (H x μ' hP e1 e2)))
      · replace H := H2 hx
        refine mj_bipush (v := (-4)) md_T_part_45 (by decide) ?_
        exact mj_ireturn md_T_part_47 rfl rfl H
    · replace H := H2 hx
      refine mj_bipush (v := (-3)) md_T_part_32 (by decide) ?_
      exact mj_ireturn md_T_part_34 rfl rfl H
  · replace H := H2 hx
    refine mj_bipush (v := (-2)) md_T_part_22 (by decide) ?_
    exact mj_ireturn md_T_part_24 rfl rfl H

set_option maxRecDepth 20000 in
theorem bk_T_part_111 {G : mj_G} {Ex : Option Value → mj_MM → Prop} {N S : Nat} {μ : mj_MM} {s0 : Option Nat} {s1 : Option Nat}
    (H : (∃ b1 : Nat, (s1 = some b1) ∧ (mj_t μ b1 = 9) ∧ (∃ P : Int32 → mj_MM → Prop, mj_M G my_K_addPart mY_K_addPart [va_rf (some b1), va_rf s0] (mj_nc μ) (mj_ns μ) μ (mj_XI P) ∧ ∀ (x : Int32) (μ' : mj_MM), P x μ' → mj_nc μ' = mj_nc μ → mj_ns μ' = mj_ns μ → mj_J G mY_T_part Ex N S 114 [] [.int x] μ'))) :
    mj_J G mY_T_part Ex N S 111 [] [va_rf s0, va_rf s1] μ := by
  obtain ⟨b1, hb2, H⟩ := H
  obtain ⟨ht3, H⟩ := H
  obtain ⟨P, hM, H⟩ := H
  exact mj_callV (n := 1) (As := [va_rf s0]) hb2 hM kc_K ht3 ⟨tw_313, tw_9, tw_316, ⟨by decide, by decide, by decide +kernel⟩, by decide, by decide⟩ tw_314 tw_315 rfl md_T_part_111 (by first | decide | (simp only [List.map_cons, List.map_nil, List.sum_cons, List.sum_nil, mj_rfc, mj_ci, mj_cl]; done) | (simp only [List.map_cons, List.map_nil, List.sum_cons, List.sum_nil, mj_rfc, mj_ci, mj_cl]; decide)) id (mj_kI (fun x μ' hP e1 e2 => mj_lvs [] rfl (H x μ' hP e1 e2)))

set_option maxRecDepth 20000 in
theorem bk_T_part_74 {G : mj_G} {Ex : Option Value → mj_MM → Prop} {N S : Nat} {μ : mj_MM} {v2 : Int32} {v5 : Option Nat} {v6 : Int32} {s0 : Option Nat}
    (H : ((s0 = none → ((mj_nc μ + 1 ≤ N ∧ mj_ns μ + 3 ≤ S) ∧ ∀ a4 : Nat, mj_t μ a4 = 0 → (∃ P : mj_MM → Prop, mj_M G my_P_init mY_P_init [va_rf (some a4), .int v2, .int v6] (mj_nc μ + 1) (mj_ns μ + 3) (mj_new μ a4 7 0 3) (mj_XV P) ∧ ∀ (μ' : mj_MM), P μ' → mj_nc μ' = mj_nc μ + 1 → mj_ns μ' = mj_ns μ + 3 → mj_J G mY_T_part Ex N S 111 [] [va_rf (some a4), va_rf v5] μ'))) ∧ (∀ b1 : Nat, s0 = some b1 → ((mj_t μ b1 = 8) ∧ ∃ b8 : Nat, (v5 = some b8) ∧ (mj_t μ b8 = 9) ∧ (mj_nc μ + 1 ≤ N ∧ mj_ns μ + 3 ≤ S) ∧ ∀ a12 : Nat, mj_t μ a12 = 0 → (∃ P : mj_MM → Prop, mj_M G my_P_init mY_P_init [va_rf (some a12), .int v2, .int v6] (mj_nc μ + 1) (mj_ns μ + 3) (mj_new (mj_pI μ b1 0 (if (mj_i μ b1 0) < (mj_i μ b8 1) then (mj_i μ b8 1) else (mj_i μ b1 0))) a12 7 0 3) (mj_XV P) ∧ ∀ (μ' : mj_MM), P μ' → mj_nc μ' = mj_nc μ + 1 → mj_ns μ' = mj_ns μ + 3 → mj_J G mY_T_part Ex N S 111 [] [va_rf (some a12), va_rf v5] μ'))))) :
    mj_J G mY_T_part Ex N S 74 [(2, .int v2), (5, va_rf v5), (6, .int v6)] [va_rf s0] μ := by
  refine mj_astore (lv' := [(7, va_rf s0), (2, .int v2), (5, va_rf v5), (6, .int v6)]) md_T_part_74 (by decide) (by first | rfl | (simp [mj_rfc]; done) | (simp [mj_rfc]; rfl)) ?_
  refine mj_aload 0 md_T_part_76 rfl ?_
  obtain ⟨H1, H2⟩ := H
  refine mj_ifnull (tgt := 99) md_T_part_78 (by decide) (fun hb => ?_) (fun b1 hb2 => ?_)
  · replace H := H1 hb
    refine mj_aload 2 md_T_part_99 rfl ?_
    obtain ⟨hn3, H⟩ := H
    refine mj_newO kc_P kdv_P tw_311 tw_191 tw_10 md_T_part_101 hn3.1 hn3.2 (fun a4 ha5 => ?_)
    replace H := H a4 ha5
    have ht6 : mj_t (mj_new μ a4 7 0 3) a4 = 7 := mj_tn
    refine mj_dup md_T_part_104 (mj_rfc _) ?_
    refine mj_iload_n 1 md_T_part_105 rfl ?_
    refine mj_iload 3 md_T_part_106 rfl ?_
    obtain ⟨P, hM, H⟩ := H
    exact mj_callI (n := 2) (As := [.int v2, .int v6]) rfl hM ⟨tw_312, tw_10, tw_194, ⟨by decide, by decide, by decide +kernel⟩, by decide, by decide⟩ rfl rfl tw_193 rfl md_T_part_108 (by first | decide | (simp only [List.map_cons, List.map_nil, List.sum_cons, List.sum_nil, mj_rfc, mj_ci, mj_cl]; done) | (simp only [List.map_cons, List.map_nil, List.sum_cons, List.sum_nil, mj_rfc, mj_ci, mj_cl]; decide)) id (mj_kV (fun μ' hP e1 e2 => mj_lvs [] rfl (H μ' hP e1 e2)))
  · replace H := H2 b1 hb2
    refine mj_aload 0 md_T_part_81 rfl ?_
    refine mj_aload 0 md_T_part_83 rfl ?_
    obtain ⟨ht7, H⟩ := H
    refine mj_getf (v := .int (mj_i μ b1 0)) hb2 kc_R 0 (by decide) tw_111 md_T_part_85 ht7 rfl ?_
    refine mj_aload 2 md_T_part_88 rfl ?_
    obtain ⟨b8, hb9, H⟩ := H
    obtain ⟨ht10, H⟩ := H
    refine mj_getf (v := .int (mj_i μ b8 1)) hb9 kc_K 1 (by decide) tw_215 md_T_part_90 ht10 rfl ?_
    refine mj_max tw_310 tw_56 tw_4 tw_57 md_T_part_93 (by decide) (by first | decide | (simp only [List.map_cons, List.map_nil, List.sum_cons, List.sum_nil, mj_rfc, mj_ci, mj_cl]; done) | (simp only [List.map_cons, List.map_nil, List.sum_cons, List.sum_nil, mj_rfc, mj_ci, mj_cl]; decide)) ?_
    refine mj_putI hb2 kc_R 0 (by decide) rfl tw_111 md_T_part_96 (Or.inl rfl) ht7 rfl rfl ?_
    refine mj_aload 2 md_T_part_99 rfl ?_
    obtain ⟨hn11, H⟩ := H
    refine mj_newO kc_P kdv_P tw_311 tw_191 tw_10 md_T_part_101 hn11.1 hn11.2 (fun a12 ha13 => ?_)
    replace H := H a12 ha13
    have ht14 : mj_t (mj_new μ a12 7 0 3) b1 = 8 := mj_tk ht7 (by decide) ha13
    have ht15 : mj_t (mj_new μ a12 7 0 3) b8 = 9 := mj_tk ht10 (by decide) ha13
    have ht16 : mj_t (mj_new μ a12 7 0 3) a12 = 7 := mj_tn
    refine mj_dup md_T_part_104 (mj_rfc _) ?_
    refine mj_iload_n 1 md_T_part_105 rfl ?_
    refine mj_iload 3 md_T_part_106 rfl ?_
    obtain ⟨P, hM, H⟩ := H
    exact mj_callI (n := 2) (As := [.int v2, .int v6]) rfl hM ⟨tw_312, tw_10, tw_194, ⟨by decide, by decide, by decide +kernel⟩, by decide, by decide⟩ rfl rfl tw_193 rfl md_T_part_108 (by first | decide | (simp only [List.map_cons, List.map_nil, List.sum_cons, List.sum_nil, mj_rfc, mj_ci, mj_cl]; done) | (simp only [List.map_cons, List.map_nil, List.sum_cons, List.sum_nil, mj_rfc, mj_ci, mj_cl]; decide)) id (mj_kV (fun μ' hP e1 e2 => mj_lvs [] rfl (H μ' hP e1 e2)))

set_option maxRecDepth 20000 in
theorem bk_T_part_114 {G : mj_G} {Ex : Option Value → mj_MM → Prop} {N S : Nat} {μ : mj_MM} {s0 : Int32}
    (H : Ex (some (.int s0)) μ) :
    mj_J G mY_T_part Ex N S 114 [] [.int s0] μ := by
  exact mj_ireturn md_T_part_114 rfl rfl H

set_option maxRecDepth 20000 in
theorem bk_T_manner_0 {G : mj_G} {Ex : Option Value → mj_MM → Prop} {N S : Nat} {μ : mj_MM} {h0 : Nat} {v1 : Int32} {v2 : Int32}
    (H : ((mj_t μ h0 = 1) ∧ (∃ P : Option Nat → mj_MM → Prop, mj_M G my_T_taskOf mY_T_taskOf [va_rf (some h0), .int v1] (mj_nc μ) (mj_ns μ) μ (mj_XR P) ∧ ∀ (x : Option Nat) (μ' : mj_MM), P x μ' → mj_nc μ' = mj_nc μ → mj_ns μ' = mj_ns μ → mj_J G mY_T_manner Ex N S 5 [(0, va_rf (some h0)), (2, .int v2)] [va_rf x] μ'))) :
    mj_J G mY_T_manner Ex N S 0 [(0, va_rf (some h0)), (1, .int v1), (2, .int v2)] [] μ := by
  refine mj_aload_n 0 md_T_manner_0 rfl ?_
  refine mj_iload_n 1 md_T_manner_1 rfl ?_
  obtain ⟨ht1, H⟩ := H
  obtain ⟨P, hM, H⟩ := H
  exact mj_callV (n := 1) (As := [.int v1]) rfl hM kc_T ht1 ⟨tw_294, tw_1, tw_297, ⟨by decide, by decide, by decide +kernel⟩, by decide, by decide⟩ tw_296 tp_1 rfl md_T_manner_2 (by first | decide | (simp only [List.map_cons, List.map_nil, List.sum_cons, List.sum_nil, mj_rfc, mj_ci, mj_cl]; done) | (simp only [List.map_cons, List.map_nil, List.sum_cons, List.sum_nil, mj_rfc, mj_ci, mj_cl]; decide)) id (mj_kR (fun x μ' hP e1 e2 => mj_lvs [0, 2] rfl (H x μ' hP e1 e2)))

set_option maxRecDepth 20000 in
theorem bk_T_manner_5 {G : mj_G} {Ex : Option Value → mj_MM → Prop} {N S : Nat} {μ : mj_MM} {h0 : Nat} {v2 : Int32} {s0 : Option Nat}
    (H : ((s0 = none → Ex (some (.int (-1))) μ) ∧ (∀ b1 : Nat, s0 = some b1 → ((mj_t μ h0 = 1) ∧ (((mj_i μ h0 12) ≤ 0 → ((mj_t μ b1 = 9) ∧ (v2 = 0 ∨ v2 = 1) ∧ Ex (some (.int 1)) (mj_pI μ b1 5 v2))) ∧ (¬ (mj_i μ h0 12) ≤ 0 → Ex (some (.int (-3))) μ)))))) :
    mj_J G mY_T_manner Ex N S 5 [(0, va_rf (some h0)), (2, .int v2)] [va_rf s0] μ := by
  refine mj_astn (i := 3) (lv' := [(3, va_rf s0), (0, va_rf (some h0)), (2, .int v2)]) md_T_manner_5 rfl (by decide) (by first | rfl | (simp [mj_rfc]; done) | (simp [mj_rfc]; rfl)) ?_
  refine mj_aload_n 0 md_T_manner_6 rfl ?_
  obtain ⟨H1, H2⟩ := H
  refine mj_ifnonnull (tgt := 12) md_T_manner_7 (by decide) (fun b1 hb2 => ?_) (fun hb => ?_)
  · replace H := H2 b1 hb2
    refine mj_aload_n 1 md_T_manner_12 rfl ?_
    obtain ⟨ht3, H⟩ := H
    refine mj_getf (v := .int (mj_i μ h0 12)) rfl kc_T 12 (by decide) tw_149 md_T_manner_13 ht3 rfl ?_
    obtain ⟨H1, H2⟩ := H
    refine mj_if_le (tgt := 22) md_T_manner_16 (by decide) (fun hx => ?_) (fun hx => ?_)
    · replace H := H1 hx
      refine mj_aload_n 0 md_T_manner_22 rfl ?_
      refine mj_iload_n 2 md_T_manner_23 rfl ?_
      obtain ⟨ht4, H⟩ := H
      obtain ⟨hz5, H⟩ := H
      refine mj_putI hb2 kc_K 5 (by decide) rfl tw_224 md_T_manner_24 (Or.inl rfl) ht4 (mj_bn hz5) (mj_bf hz5) ?_
      refine mj_iconst (v := 1) md_T_manner_27 (by decide) ?_
      exact mj_ireturn md_T_manner_28 rfl rfl H
    · replace H := H2 hx
      refine mj_bipush (v := (-3)) md_T_manner_19 (by decide) ?_
      exact mj_ireturn md_T_manner_21 rfl rfl H
  · replace H := H1 hb
    refine mj_iconst (v := (-1)) md_T_manner_10 (by decide) ?_
    exact mj_ireturn md_T_manner_11 rfl rfl H

set_option maxRecDepth 20000 in
theorem bk_T_activate_0 {G : mj_G} {Ex : Option Value → mj_MM → Prop} {N S : Nat} {μ : mj_MM} {h0 : Nat} {v1 : Int32} {v2 : Int64}
    (H : ((mj_t μ h0 = 1) ∧ (∃ P : Option Nat → mj_MM → Prop, mj_M G my_T_taskOf mY_T_taskOf [va_rf (some h0), .int v1] (mj_nc μ) (mj_ns μ) μ (mj_XR P) ∧ ∀ (x : Option Nat) (μ' : mj_MM), P x μ' → mj_nc μ' = mj_nc μ → mj_ns μ' = mj_ns μ → mj_J G mY_T_activate Ex N S 5 [(0, va_rf (some h0)), (2, .long v2)] [va_rf x] μ'))) :
    mj_J G mY_T_activate Ex N S 0 [(0, va_rf (some h0)), (1, .int v1), (2, .long v2)] [] μ := by
  refine mj_aload_n 0 md_T_activate_0 rfl ?_
  refine mj_iload_n 1 md_T_activate_1 rfl ?_
  obtain ⟨ht1, H⟩ := H
  obtain ⟨P, hM, H⟩ := H
  exact mj_callV (n := 1) (As := [.int v1]) rfl hM kc_T ht1 ⟨tw_294, tw_1, tw_297, ⟨by decide, by decide, by decide +kernel⟩, by decide, by decide⟩ tw_296 tp_1 rfl md_T_activate_2 (by first | decide | (simp only [List.map_cons, List.map_nil, List.sum_cons, List.sum_nil, mj_rfc, mj_ci, mj_cl]; done) | (simp only [List.map_cons, List.map_nil, List.sum_cons, List.sum_nil, mj_rfc, mj_ci, mj_cl]; decide)) id (mj_kR (fun x μ' hP e1 e2 => mj_lvs [0, 2] rfl (H x μ' hP e1 e2)))

set_option maxRecDepth 20000 in
theorem bk_T_activate_5 {G : mj_G} {Ex : Option Value → mj_MM → Prop} {N S : Nat} {μ : mj_MM} {h0 : Nat} {v2 : Int64} {s0 : Option Nat}
    (H : ((s0 = none → Ex (some (.int (-1))) μ) ∧ (∀ b1 : Nat, s0 = some b1 → ((mj_t μ h0 = 1) ∧ (∃ P : Int32 → mj_MM → Prop, mj_M G my_T_isToCome mY_T_isToCome [va_rf (some h0), .long v2] (mj_nc μ) (mj_ns μ) μ (mj_XI P) ∧ ∀ (x : Int32) (μ' : mj_MM), P x μ' → mj_nc μ' = mj_nc μ → mj_ns μ' = mj_ns μ → mj_J G mY_T_activate Ex N S 19 [(0, va_rf (some h0)), (2, .long v2), (4, va_rf s0)] [.int x] μ'))))) :
    mj_J G mY_T_activate Ex N S 5 [(0, va_rf (some h0)), (2, .long v2)] [va_rf s0] μ := by
  refine mj_astore (lv' := [(4, va_rf s0), (0, va_rf (some h0)), (2, .long v2)]) md_T_activate_5 (by decide) (by first | rfl | (simp [mj_rfc]; done) | (simp [mj_rfc]; rfl)) ?_
  refine mj_aload 0 md_T_activate_7 rfl ?_
  obtain ⟨H1, H2⟩ := H
  refine mj_ifnonnull (tgt := 14) md_T_activate_9 (by decide) (fun b1 hb2 => ?_) (fun hb => ?_)
  · replace H := H2 b1 hb2
    refine mj_aload_n 1 md_T_activate_14 rfl ?_
    refine mj_lload_n 2 md_T_activate_15 rfl ?_
    obtain ⟨ht3, H⟩ := H
    obtain ⟨P, hM, H⟩ := H
    exact mj_callV (n := 1) (As := [.long v2]) rfl hM kc_T ht3 ⟨tw_325, tw_1, tw_328, ⟨by decide, by decide, by decide +kernel⟩, by decide, by decide⟩ tw_327 tp_3 rfl md_T_activate_16 (by first | decide | (simp only [List.map_cons, List.map_nil, List.sum_cons, List.sum_nil, mj_rfc, mj_ci, mj_cl]; done) | (simp only [List.map_cons, List.map_nil, List.sum_cons, List.sum_nil, mj_rfc, mj_ci, mj_cl]; decide)) id (mj_kI (fun x μ' hP e1 e2 => mj_lvs [1, 2, 0] rfl (H x μ' hP e1 e2)))
  · replace H := H1 hb
    refine mj_iconst (v := (-1)) md_T_activate_12 (by decide) ?_
    exact mj_ireturn md_T_activate_13 rfl rfl H

set_option maxRecDepth 20000 in
theorem bk_T_activate_19 {G : mj_G} {Ex : Option Value → mj_MM → Prop} {N S : Nat} {μ : mj_MM} {h0 : Nat} {v2 : Int64} {v4 : Option Nat} {s0 : Int32}
    (H : ((¬ s0 = 0 → ((mj_t μ h0 = 1) ∧ (((mj_i μ h0 8) < 500 → ((mj_nc μ + 1 ≤ N ∧ mj_ns μ + 3 ≤ S) ∧ ∀ a3 : Nat, mj_t μ a3 = 0 → (∃ P : mj_MM → Prop, mj_M G my_E_init mY_E_init [va_rf (some a3), va_rf v4, .int (Int64.toInt32 v2)] (mj_nc μ + 1) (mj_ns μ + 3) (mj_new (mj_pI μ h0 8 ((mj_i μ h0 8) + 1)) a3 10 0 3) (mj_XV P) ∧ ∀ (μ' : mj_MM), P μ' → mj_nc μ' = mj_nc μ + 1 → mj_ns μ' = mj_ns μ + 3 → mj_J G mY_T_activate Ex N S 60 [] [va_rf (some a3), va_rf (some h0)] μ'))) ∧ (¬ (mj_i μ h0 8) < 500 → Ex (some (.int (-4))) μ)))) ∧ (s0 = 0 → Ex (some (.int (-2))) μ))) :
    mj_J G mY_T_activate Ex N S 19 [(0, va_rf (some h0)), (2, .long v2), (4, va_rf v4)] [.int s0] μ := by
  obtain ⟨H1, H2⟩ := H
  refine mj_if_ne (tgt := 25) md_T_activate_19 (by decide) (fun hx => ?_) (fun hx => ?_)
  · replace H := H1 hx
    refine mj_aload_n 0 md_T_activate_25 rfl ?_
    obtain ⟨ht1, H⟩ := H
    refine mj_getf (v := .int (mj_i μ h0 8)) rfl kc_T 8 (by decide) tw_145 md_T_activate_26 ht1 rfl ?_
    refine mj_sipush (v := 500) md_T_activate_29 (by decide) ?_
    obtain ⟨H1, H2⟩ := H
    refine mj_icmp_lt (tgt := 38) md_T_activate_32 (by decide) (fun hx => ?_) (fun hx => ?_)
    · replace H := H1 hx
      refine mj_aload_n 0 md_T_activate_38 rfl ?_
      refine mj_dup md_T_activate_39 (mj_rfc _) ?_
      refine mj_getf (v := .int (mj_i μ h0 8)) rfl kc_T 8 (by decide) tw_145 md_T_activate_40 ht1 rfl ?_
      refine mj_iconst (v := 1) md_T_activate_43 (by decide) ?_
      refine mj_iadd md_T_activate_44 ?_
      refine mj_putI rfl kc_T 8 (by decide) rfl tw_145 md_T_activate_45 (Or.inl rfl) ht1 rfl rfl ?_
      refine mj_aload_n 0 md_T_activate_48 rfl ?_
      obtain ⟨hn2, H⟩ := H
      refine mj_newO kc_E kdv_E tw_330 tw_331 tw_11 md_T_activate_49 hn2.1 hn2.2 (fun a3 ha4 => ?_)
      replace H := H a3 ha4
      have ht5 : mj_t (mj_new μ a3 10 0 3) h0 = 1 := mj_tk ht1 (by decide) ha4
      have ht6 : mj_t (mj_new μ a3 10 0 3) a3 = 10 := mj_tn
      refine mj_dup md_T_activate_52 (mj_rfc _) ?_
      refine mj_aload 2 md_T_activate_53 rfl ?_
      refine mj_lload_n 1 md_T_activate_55 rfl ?_
      refine mj_l2i md_T_activate_56 ?_
      obtain ⟨P, hM, H⟩ := H
      exact mj_callI (n := 2) (As := [va_rf v4, .int (Int64.toInt32 v2)]) rfl hM ⟨tw_332, tw_11, tw_334, ⟨by decide, by decide, by decide +kernel⟩, by decide, by decide⟩ rfl rfl tw_333 rfl md_T_activate_57 (by first | decide | (simp only [List.map_cons, List.map_nil, List.sum_cons, List.sum_nil, mj_rfc, mj_ci, mj_cl]; done) | (simp only [List.map_cons, List.map_nil, List.sum_cons, List.sum_nil, mj_rfc, mj_ci, mj_cl]; decide)) id (mj_kV (fun μ' hP e1 e2 => mj_lvs [] rfl (H μ' hP e1 e2)))
    · replace H := H2 hx
      refine mj_bipush (v := (-4)) md_T_activate_35 (by decide) ?_
      exact mj_ireturn md_T_activate_37 rfl rfl H
  · replace H := H2 hx
    refine mj_bipush (v := (-2)) md_T_activate_22 (by decide) ?_
    exact mj_ireturn md_T_activate_24 rfl rfl H

set_option maxRecDepth 20000 in
theorem bk_T_activate_60 {G : mj_G} {Ex : Option Value → mj_MM → Prop} {N S : Nat} {μ : mj_MM} {h0 : Nat} {s0 : Option Nat}
    (H : ((mj_t μ h0 = 1) ∧ (∃ P : mj_MM → Prop, mj_M G my_T_addTelling mY_T_addTelling [va_rf (some h0), va_rf s0] (mj_nc μ) (mj_ns μ) μ (mj_XV P) ∧ ∀ (μ' : mj_MM), P μ' → mj_nc μ' = mj_nc μ → mj_ns μ' = mj_ns μ → mj_J G mY_T_activate Ex N S 63 [] [] μ'))) :
    mj_J G mY_T_activate Ex N S 60 [] [va_rf s0, va_rf (some h0)] μ := by
  obtain ⟨ht1, H⟩ := H
  obtain ⟨P, hM, H⟩ := H
  exact mj_callV (n := 1) (As := [va_rf s0]) rfl hM kc_T ht1 ⟨tw_348, tw_1, tw_351, ⟨by decide, by decide, by decide +kernel⟩, by decide, by decide⟩ tw_350 tp_4 rfl md_T_activate_60 (by first | decide | (simp only [List.map_cons, List.map_nil, List.sum_cons, List.sum_nil, mj_rfc, mj_ci, mj_cl]; done) | (simp only [List.map_cons, List.map_nil, List.sum_cons, List.sum_nil, mj_rfc, mj_ci, mj_cl]; decide)) id (mj_kV (fun μ' hP e1 e2 => mj_lvs [] rfl (H μ' hP e1 e2)))

set_option maxRecDepth 20000 in
theorem bk_T_activate_63 {G : mj_G} {Ex : Option Value → mj_MM → Prop} {N S : Nat} {μ : mj_MM}
    (H : Ex (some (.int 1)) μ) :
    mj_J G mY_T_activate Ex N S 63 [] [] μ := by
  refine mj_iconst (v := 1) md_T_activate_63 (by decide) ?_
  exact mj_ireturn md_T_activate_64 rfl rfl H

set_option maxRecDepth 20000 in
theorem bk_T_interrupt_0 {G : mj_G} {Ex : Option Value → mj_MM → Prop} {N S : Nat} {μ : mj_MM} {h0 : Nat} {v1 : Int32} {v2 : Int64} {v4 : Int64}
    (H : ((v1 < 1 → Ex (some (.int (-2))) μ) ∧ (¬ v1 < 1 → ((15 < v1 → Ex (some (.int (-2))) μ) ∧ (¬ 15 < v1 → ((mj_t μ h0 = 1) ∧ (∃ P : Int32 → mj_MM → Prop, mj_M G my_T_isToCome mY_T_isToCome [va_rf (some h0), .long v2] (mj_nc μ) (mj_ns μ) μ (mj_XI P) ∧ ∀ (x : Int32) (μ' : mj_MM), P x μ' → mj_nc μ' = mj_nc μ → mj_ns μ' = mj_ns μ → mj_J G mY_T_interrupt Ex N S 16 [(0, va_rf (some h0)), (1, .int v1), (2, .long v2), (4, .long v4)] [.int x] μ'))))))) :
    mj_J G mY_T_interrupt Ex N S 0 [(0, va_rf (some h0)), (1, .int v1), (2, .long v2), (4, .long v4)] [] μ := by
  refine mj_iload_n 1 md_T_interrupt_0 rfl ?_
  refine mj_iconst (v := 1) md_T_interrupt_1 (by decide) ?_
  obtain ⟨H1, H2⟩ := H
  refine mj_icmp_lt (tgt := 35) md_T_interrupt_2 (by decide) (fun hx => ?_) (fun hx => ?_)
  · replace H := H1 hx
    refine mj_bipush (v := (-2)) md_T_interrupt_35 (by decide) ?_
    exact mj_ireturn md_T_interrupt_37 rfl rfl H
  · replace H := H2 hx
    refine mj_iload_n 1 md_T_interrupt_5 rfl ?_
    refine mj_bipush (v := 15) md_T_interrupt_6 (by decide) ?_
    obtain ⟨H1, H2⟩ := H
    refine mj_icmp_gt (tgt := 35) md_T_interrupt_8 (by decide) (fun hx => ?_) (fun hx => ?_)
    · replace H := H1 hx
      refine mj_bipush (v := (-2)) md_T_interrupt_35 (by decide) ?_
      exact mj_ireturn md_T_interrupt_37 rfl rfl H
    · replace H := H2 hx
      refine mj_aload_n 0 md_T_interrupt_11 rfl ?_
      refine mj_lload_n 2 md_T_interrupt_12 rfl ?_
      obtain ⟨ht1, H⟩ := H
      obtain ⟨P, hM, H⟩ := H
      exact mj_callV (n := 1) (As := [.long v2]) rfl hM kc_T ht1 ⟨tw_325, tw_1, tw_328, ⟨by decide, by decide, by decide +kernel⟩, by decide, by decide⟩ tw_327 tp_3 rfl md_T_interrupt_13 (by first | decide | (simp only [List.map_cons, List.map_nil, List.sum_cons, List.sum_nil, mj_rfc, mj_ci, mj_cl]; done) | (simp only [List.map_cons, List.map_nil, List.sum_cons, List.sum_nil, mj_rfc, mj_ci, mj_cl]; decide)) id (mj_kI (fun x μ' hP e1 e2 => mj_lvs [0, 1, 2, 3] rfl (H x μ' hP e1 e2)))

set_option maxRecDepth 20000 in
theorem bk_T_interrupt_16 {G : mj_G} {Ex : Option Value → mj_MM → Prop} {N S : Nat} {μ : mj_MM} {h0 : Nat} {v1 : Int32} {v2 : Int64} {v4 : Int64} {s0 : Int32}
    (H : ((s0 = 0 → Ex (some (.int (-2))) μ) ∧ (¬ s0 = 0 → ((v4 < 1 → Ex (some (.int (-2))) μ) ∧ (¬ v4 < 1 → ((v4 ≤ 10000 → ((mj_t μ h0 = 1) ∧ ∃ b2 : Nat, (mj_r μ h0 4 = some b2) ∧ (mj_t μ b2 = 4) ∧ (((mj_i μ b2 1) < 500 → ((mj_nc μ + 1 ≤ N ∧ mj_ns μ + 4 ≤ S) ∧ ∀ a6 : Nat, mj_t μ a6 = 0 → (∃ P : mj_MM → Prop, mj_M G my_I_init mY_I_init [va_rf (some a6), .int v1, .int (Int64.toInt32 v2), .int (Int64.toInt32 v4)] (mj_nc μ + 1) (mj_ns μ + 4) (mj_new μ a6 3 0 4) (mj_XV P) ∧ ∀ (μ' : mj_MM), P μ' → mj_nc μ' = mj_nc μ + 1 → mj_ns μ' = mj_ns μ + 4 → mj_J G mY_T_interrupt Ex N S 71 [(0, va_rf (some h0))] [va_rf (some a6), va_rf (mj_r μ h0 4)] μ'))) ∧ (¬ (mj_i μ b2 1) < 500 → Ex (some (.int (-4))) μ)))) ∧ (¬ v4 ≤ 10000 → Ex (some (.int (-2))) μ))))))) :
    mj_J G mY_T_interrupt Ex N S 16 [(0, va_rf (some h0)), (1, .int v1), (2, .long v2), (4, .long v4)] [.int s0] μ := by
  obtain ⟨H1, H2⟩ := H
  refine mj_if_eq (tgt := 35) md_T_interrupt_16 (by decide) (fun hx => ?_) (fun hx => ?_)
  · replace H := H1 hx
    refine mj_bipush (v := (-2)) md_T_interrupt_35 (by decide) ?_
    exact mj_ireturn md_T_interrupt_37 rfl rfl H
  · replace H := H2 hx
    refine mj_lload 3 md_T_interrupt_19 rfl ?_
    refine mj_lconst (v := 1) md_T_interrupt_21 (by decide) ?_
    refine mj_lcmp md_T_interrupt_22 ?_
    obtain ⟨H1, H2⟩ := H
    refine mj_if_lt (tgt := 35) md_T_interrupt_23 (by decide) (fun hx => ?_) (fun hx => ?_)
    · replace H := H1 ((lg_cmp_lt v4 1).mp hx)
      refine mj_bipush (v := (-2)) md_T_interrupt_35 (by decide) ?_
      exact mj_ireturn md_T_interrupt_37 rfl rfl H
    · replace H := H2 (fun hy => hx ((lg_cmp_lt v4 1).mpr hy))
      refine mj_lload 3 md_T_interrupt_26 rfl ?_
      refine mj_ldc2 (v := 10000) tw_356 md_T_interrupt_28 ?_
      refine mj_lcmp md_T_interrupt_31 ?_
      obtain ⟨H1, H2⟩ := H
      refine mj_if_le (tgt := 38) md_T_interrupt_32 (by decide) (fun hx => ?_) (fun hx => ?_)
      · replace H := H1 ((lg_cmp_le v4 10000).mp hx)
        refine mj_aload_n 0 md_T_interrupt_38 rfl ?_
        obtain ⟨ht1, H⟩ := H
        refine mj_getf (v := va_rf (mj_r μ h0 4)) rfl kc_T 4 (by decide) tw_141 md_T_interrupt_39 ht1 rfl ?_
        obtain ⟨b2, hb3, H⟩ := H
        obtain ⟨ht4, H⟩ := H
        refine mj_getf (v := .int (mj_i μ b2 1)) hb3 kc_U 1 (by decide) tw_35 md_T_interrupt_42 ht4 rfl ?_
        refine mj_sipush (v := 500) md_T_interrupt_45 (by decide) ?_
        obtain ⟨H1, H2⟩ := H
        refine mj_icmp_lt (tgt := 54) md_T_interrupt_48 (by decide) (fun hx => ?_) (fun hx => ?_)
        · replace H := H1 hx
          refine mj_aload_n 0 md_T_interrupt_54 rfl ?_
          refine mj_getf (v := va_rf (mj_r μ h0 4)) rfl kc_T 4 (by decide) tw_141 md_T_interrupt_55 ht1 rfl ?_
          obtain ⟨hn5, H⟩ := H
          refine mj_newO kc_I kdv_I tw_357 tw_358 tw_12 md_T_interrupt_58 hn5.1 hn5.2 (fun a6 ha7 => ?_)
          replace H := H a6 ha7
          have ht8 : mj_t (mj_new μ a6 3 0 4) h0 = 1 := mj_tk ht1 (by decide) ha7
          have ht9 : mj_t (mj_new μ a6 3 0 4) b2 = 4 := mj_tk ht4 (by decide) ha7
          have ht10 : mj_t (mj_new μ a6 3 0 4) a6 = 3 := mj_tn
          refine mj_dup md_T_interrupt_61 (mj_rfc _) ?_
          refine mj_iload_n 1 md_T_interrupt_62 rfl ?_
          refine mj_lload_n 2 md_T_interrupt_63 rfl ?_
          refine mj_l2i md_T_interrupt_64 ?_
          refine mj_lload 3 md_T_interrupt_65 rfl ?_
          refine mj_l2i md_T_interrupt_67 ?_
          obtain ⟨P, hM, H⟩ := H
          exact mj_callI (n := 3) (As := [.int v1, .int (Int64.toInt32 v2), .int (Int64.toInt32 v4)]) rfl hM ⟨tw_359, tw_12, tw_361, ⟨by decide, by decide, by decide +kernel⟩, by decide, by decide⟩ rfl rfl tw_360 rfl md_T_interrupt_68 (by first | decide | (simp only [List.map_cons, List.map_nil, List.sum_cons, List.sum_nil, mj_rfc, mj_ci, mj_cl]; done) | (simp only [List.map_cons, List.map_nil, List.sum_cons, List.sum_nil, mj_rfc, mj_ci, mj_cl]; decide)) id (mj_kV (fun μ' hP e1 e2 => mj_lvs [0] rfl (H μ' hP e1 e2)))
        · replace H := H2 hx
          refine mj_bipush (v := (-4)) md_T_interrupt_51 (by decide) ?_
          exact mj_ireturn md_T_interrupt_53 rfl rfl H
      · replace H := H2 (fun hy => hx ((lg_cmp_le v4 10000).mpr hy))
        refine mj_bipush (v := (-2)) md_T_interrupt_35 (by decide) ?_
        exact mj_ireturn md_T_interrupt_37 rfl rfl H

set_option maxRecDepth 20000 in
theorem bk_T_interrupt_71 {G : mj_G} {Ex : Option Value → mj_MM → Prop} {N S : Nat} {μ : mj_MM} {h0 : Nat} {s0 : Option Nat} {s1 : Option Nat}
    (H : (∃ b1 : Nat, (s1 = some b1) ∧ (mj_t μ b1 = 4) ∧ (∃ P : mj_MM → Prop, mj_M G my_U_add mY_U_add [va_rf (some b1), va_rf s0] (mj_nc μ) (mj_ns μ) μ (mj_XV P) ∧ ∀ (μ' : mj_MM), P μ' → mj_nc μ' = mj_nc μ → mj_ns μ' = mj_ns μ → mj_J G mY_T_interrupt Ex N S 74 [(0, va_rf (some h0))] [] μ'))) :
    mj_J G mY_T_interrupt Ex N S 71 [(0, va_rf (some h0))] [va_rf s0, va_rf s1] μ := by
  obtain ⟨b1, hb2, H⟩ := H
  obtain ⟨ht3, H⟩ := H
  obtain ⟨P, hM, H⟩ := H
  exact mj_callV (n := 1) (As := [va_rf s0]) hb2 hM kc_U ht3 ⟨tw_381, tw_2, tw_384, ⟨by decide, by decide, by decide +kernel⟩, by decide, by decide⟩ tw_382 tw_383 rfl md_T_interrupt_71 (by first | decide | (simp only [List.map_cons, List.map_nil, List.sum_cons, List.sum_nil, mj_rfc, mj_ci, mj_cl]; done) | (simp only [List.map_cons, List.map_nil, List.sum_cons, List.sum_nil, mj_rfc, mj_ci, mj_cl]; decide)) id (mj_kV (fun μ' hP e1 e2 => mj_lvs [0] rfl (H μ' hP e1 e2)))

set_option maxRecDepth 20000 in
theorem bk_T_interrupt_74 {G : mj_G} {Ex : Option Value → mj_MM → Prop} {N S : Nat} {μ : mj_MM} {h0 : Nat}
    (H : ((mj_t μ h0 = 1) ∧ ∃ b2 : Nat, (mj_r μ h0 4 = some b2) ∧ (mj_t μ b2 = 4) ∧ Ex (some (.int (mj_i μ b2 1))) μ)) :
    mj_J G mY_T_interrupt Ex N S 74 [(0, va_rf (some h0))] [] μ := by
  refine mj_aload_n 0 md_T_interrupt_74 rfl ?_
  obtain ⟨ht1, H⟩ := H
  refine mj_getf (v := va_rf (mj_r μ h0 4)) rfl kc_T 4 (by decide) tw_141 md_T_interrupt_75 ht1 rfl ?_
  obtain ⟨b2, hb3, H⟩ := H
  obtain ⟨ht4, H⟩ := H
  refine mj_getf (v := .int (mj_i μ b2 1)) hb3 kc_U 1 (by decide) tw_35 md_T_interrupt_78 ht4 rfl ?_
  exact mj_ireturn md_T_interrupt_81 rfl rfl H

set_option maxRecDepth 20000 in
theorem bk_T_run_0 {G : mj_G} {Ex : Option Value → mj_MM → Prop} {N S : Nat} {μ : mj_MM} {h0 : Nat} {v1 : Int64}
    (H : ((v1 < 0 → Ex (some (.int (-2))) μ) ∧ (¬ v1 < 0 → ((mj_t μ h0 = 1) ∧ ((v1 ≤ (Int32.toInt64 (50000 - (mj_i μ h0 12))) → mj_J G mY_T_run Ex N S 36 [(0, va_rf (some h0)), (3, .int ((mj_i μ h0 12) + (Int64.toInt32 v1))), (4, .int 0), (5, .int 0)] [] μ) ∧ (¬ v1 ≤ (Int32.toInt64 (50000 - (mj_i μ h0 12))) → Ex (some (.int (-2))) μ)))))) :
    mj_J G mY_T_run Ex N S 0 [(0, va_rf (some h0)), (1, .long v1)] [] μ := by
  refine mj_lload_n 1 md_T_run_0 rfl ?_
  refine mj_lconst (v := 0) md_T_run_1 (by decide) ?_
  refine mj_lcmp md_T_run_2 ?_
  obtain ⟨H1, H2⟩ := H
  refine mj_if_lt (tgt := 19) md_T_run_3 (by decide) (fun hx => ?_) (fun hx => ?_)
  · replace H := H1 ((lg_cmp_lt v1 0).mp hx)
    refine mj_bipush (v := (-2)) md_T_run_19 (by decide) ?_
    exact mj_ireturn md_T_run_21 rfl rfl H
  · replace H := H2 (fun hy => hx ((lg_cmp_lt v1 0).mpr hy))
    refine mj_lload_n 1 md_T_run_6 rfl ?_
    refine mj_ldc (v := 50000) tw_136 md_T_run_7 ?_
    refine mj_aload_n 0 md_T_run_9 rfl ?_
    obtain ⟨ht1, H⟩ := H
    refine mj_getf (v := .int (mj_i μ h0 12)) rfl kc_T 12 (by decide) tw_149 md_T_run_10 ht1 rfl ?_
    refine mj_isub md_T_run_13 ?_
    refine mj_i2l md_T_run_14 ?_
    refine mj_lcmp md_T_run_15 ?_
    obtain ⟨H1, H2⟩ := H
    refine mj_if_le (tgt := 22) md_T_run_16 (by decide) (fun hx => ?_) (fun hx => ?_)
    · replace H := H1 ((lg_cmp_le v1 (Int32.toInt64 (50000 - (mj_i μ h0 12)))).mp hx)
      refine mj_aload_n 0 md_T_run_22 rfl ?_
      refine mj_getf (v := .int (mj_i μ h0 12)) rfl kc_T 12 (by decide) tw_149 md_T_run_23 ht1 rfl ?_
      refine mj_lload_n 1 md_T_run_26 rfl ?_
      refine mj_l2i md_T_run_27 ?_
      refine mj_iadd md_T_run_28 ?_
      refine mj_istn (i := 3) (lv' := [(3, .int ((mj_i μ h0 12) + (Int64.toInt32 v1))), (0, va_rf (some h0)), (1, .long v1)]) md_T_run_29 rfl (by decide) (by first | rfl | (simp [mj_rfc]; done) | (simp [mj_rfc]; rfl)) ?_
      refine mj_iconst (v := 0) md_T_run_30 (by decide) ?_
      refine mj_istore (lv' := [(4, .int 0), (3, .int ((mj_i μ h0 12) + (Int64.toInt32 v1))), (0, va_rf (some h0)), (1, .long v1)]) md_T_run_31 (by decide) (by first | rfl | (simp [mj_rfc]; done) | (simp [mj_rfc]; rfl)) ?_
      refine mj_iconst (v := 0) md_T_run_33 (by decide) ?_
      refine mj_istore (lv' := [(5, .int 0), (4, .int 0), (3, .int ((mj_i μ h0 12) + (Int64.toInt32 v1))), (0, va_rf (some h0)), (1, .long v1)]) md_T_run_34 (by decide) (by first | rfl | (simp [mj_rfc]; done) | (simp [mj_rfc]; rfl)) ?_
      exact mj_lvs [3, 2, 1, 0] rfl H
    · replace H := H2 (fun hy => hx ((lg_cmp_le v1 (Int32.toInt64 (50000 - (mj_i μ h0 12)))).mpr hy))
      refine mj_bipush (v := (-2)) md_T_run_19 (by decide) ?_
      exact mj_ireturn md_T_run_21 rfl rfl H

set_option maxRecDepth 20000 in
theorem bk_T_run_36 {G : mj_G} {Ex : Option Value → mj_MM → Prop} {N S : Nat} {μ : mj_MM} {h0 : Nat} {v3 : Int32} {v4 : Int32} {v5 : Int32}
    (H : ((mj_t μ h0 = 1) ∧ ((v3 ≤ (mj_i μ h0 12) → Ex (some (.int v4)) μ) ∧ (¬ v3 ≤ (mj_i μ h0 12) → ((50000 ≤ v5 → Ex (some (.int v4)) μ) ∧ (¬ 50000 ≤ v5 → (∃ (N' S' : Nat) (P : mj_MM → Prop), mj_M G my_T_activateThoseTold mY_T_activateThoseTold [va_rf (some h0)] N' S' μ (mj_XV P) ∧ (N' ≤ N ∧ S' ≤ S) ∧ ∀ (μ' : mj_MM), P μ' → mj_nc μ' = N' → mj_ns μ' = S' → mj_J G mY_T_run Ex N S 55 [(0, va_rf (some h0)), (3, .int v3), (4, .int v4), (5, .int v5)] [] μ'))))))) :
    mj_J G mY_T_run Ex N S 36 [(0, va_rf (some h0)), (3, .int v3), (4, .int v4), (5, .int v5)] [] μ := by
  refine mj_aload_n 0 md_T_run_36 rfl ?_
  obtain ⟨ht1, H⟩ := H
  refine mj_getf (v := .int (mj_i μ h0 12)) rfl kc_T 12 (by decide) tw_149 md_T_run_37 ht1 rfl ?_
  refine mj_iload_n 1 md_T_run_40 rfl ?_
  obtain ⟨H1, H2⟩ := H
  refine mj_icmp_ge (tgt := 123) md_T_run_41 (by decide) (fun hx => ?_) (fun hx => ?_)
  · replace H := H1 hx
    refine mj_iload 2 md_T_run_123 rfl ?_
    exact mj_ireturn md_T_run_125 rfl rfl H
  · replace H := H2 hx
    refine mj_iload 3 md_T_run_44 rfl ?_
    refine mj_ldc (v := 50000) tw_136 md_T_run_46 ?_
    obtain ⟨H1, H2⟩ := H
    refine mj_icmp_ge (tgt := 123) md_T_run_48 (by decide) (fun hx => ?_) (fun hx => ?_)
    · replace H := H1 hx
      refine mj_iload 2 md_T_run_123 rfl ?_
      exact mj_ireturn md_T_run_125 rfl rfl H
    · replace H := H2 hx
      refine mj_aload_n 0 md_T_run_51 rfl ?_
      obtain ⟨N', S', P, hM, hNS, H⟩ := H
      exact mj_callV (n := 0) (As := []) rfl hM kc_T ht1 ⟨tw_389, tw_1, tw_392, ⟨by decide, by decide, by decide +kernel⟩, by decide, by decide⟩ tw_391 tp_5 rfl md_T_run_52 (by first | decide | (simp only [List.map_cons, List.map_nil, List.sum_cons, List.sum_nil, mj_rfc, mj_ci, mj_cl]; done) | (simp only [List.map_cons, List.map_nil, List.sum_cons, List.sum_nil, mj_rfc, mj_ci, mj_cl]; decide)) (fun _ => hNS) (mj_kV (fun μ' hP e1 e2 => mj_lvs [0, 1, 2, 3] rfl (H μ' hP e1 e2)))

set_option maxRecDepth 20000 in
theorem bk_T_run_55 {G : mj_G} {Ex : Option Value → mj_MM → Prop} {N S : Nat} {μ : mj_MM} {h0 : Nat} {v3 : Int32} {v4 : Int32} {v5 : Int32}
    (H : ((mj_t μ h0 = 1) ∧ (∃ (N' S' : Nat) (P : mj_MM → Prop), mj_M G my_T_takeSteps mY_T_takeSteps [va_rf (some h0)] N' S' μ (mj_XV P) ∧ (N' ≤ N ∧ S' ≤ S) ∧ ∀ (μ' : mj_MM), P μ' → mj_nc μ' = N' → mj_ns μ' = S' → mj_J G mY_T_run Ex N S 59 [(0, va_rf (some h0)), (3, .int v3), (4, .int v4), (5, .int v5)] [] μ'))) :
    mj_J G mY_T_run Ex N S 55 [(0, va_rf (some h0)), (3, .int v3), (4, .int v4), (5, .int v5)] [] μ := by
  refine mj_aload_n 0 md_T_run_55 rfl ?_
  obtain ⟨ht1, H⟩ := H
  obtain ⟨N', S', P, hM, hNS, H⟩ := H
  exact mj_callV (n := 0) (As := []) rfl hM kc_T ht1 ⟨tw_413, tw_1, tw_416, ⟨by decide, by decide, by decide +kernel⟩, by decide, by decide⟩ tw_415 tp_10 rfl md_T_run_56 (by first | decide | (simp only [List.map_cons, List.map_nil, List.sum_cons, List.sum_nil, mj_rfc, mj_ci, mj_cl]; done) | (simp only [List.map_cons, List.map_nil, List.sum_cons, List.sum_nil, mj_rfc, mj_ci, mj_cl]; decide)) (fun _ => hNS) (mj_kV (fun μ' hP e1 e2 => mj_lvs [0, 1, 2, 3] rfl (H μ' hP e1 e2)))

set_option maxRecDepth 20000 in
theorem bk_T_run_59 {G : mj_G} {Ex : Option Value → mj_MM → Prop} {N S : Nat} {μ : mj_MM} {h0 : Nat} {v3 : Int32} {v4 : Int32} {v5 : Int32}
    (H : ((mj_t μ h0 = 1) ∧ (∃ (N' S' : Nat) (P : mj_MM → Prop), mj_M G my_T_tellIfOffTooLong mY_T_tellIfOffTooLong [va_rf (some h0)] N' S' μ (mj_XV P) ∧ (N' ≤ N ∧ S' ≤ S) ∧ ∀ (μ' : mj_MM), P μ' → mj_nc μ' = N' → mj_ns μ' = S' → mj_J G mY_T_run Ex N S 63 [(0, va_rf (some h0)), (3, .int v3), (4, .int v4), (5, .int v5)] [] μ'))) :
    mj_J G mY_T_run Ex N S 59 [(0, va_rf (some h0)), (3, .int v3), (4, .int v4), (5, .int v5)] [] μ := by
  refine mj_aload_n 0 md_T_run_59 rfl ?_
  obtain ⟨ht1, H⟩ := H
  obtain ⟨N', S', P, hM, hNS, H⟩ := H
  exact mj_callV (n := 0) (As := []) rfl hM kc_T ht1 ⟨tw_518, tw_1, tw_521, ⟨by decide, by decide, by decide +kernel⟩, by decide, by decide⟩ tw_520 tp_29 rfl md_T_run_60 (by first | decide | (simp only [List.map_cons, List.map_nil, List.sum_cons, List.sum_nil, mj_rfc, mj_ci, mj_cl]; done) | (simp only [List.map_cons, List.map_nil, List.sum_cons, List.sum_nil, mj_rfc, mj_ci, mj_cl]; decide)) (fun _ => hNS) (mj_kV (fun μ' hP e1 e2 => mj_lvs [0, 1, 2, 3] rfl (H μ' hP e1 e2)))

set_option maxRecDepth 20000 in
theorem bk_T_run_63 {G : mj_G} {Ex : Option Value → mj_MM → Prop} {N S : Nat} {μ : mj_MM} {h0 : Nat} {v3 : Int32} {v4 : Int32} {v5 : Int32}
    (H : ((mj_t μ h0 = 1) ∧ ∃ b2 : Nat, (mj_r μ h0 1 = some b2) ∧ (mj_t μ b2 = 1005) ∧ mj_J G mY_T_run Ex N S 77 [(0, va_rf (some h0)), (3, .int v3), (4, .int v4), (5, .int v5), (6, va_rf (mj_r μ h0 1)), (7, .int (nI (mj_n μ b2))), (8, .int 0)] [] μ)) :
    mj_J G mY_T_run Ex N S 63 [(0, va_rf (some h0)), (3, .int v3), (4, .int v4), (5, .int v5)] [] μ := by
  refine mj_aload_n 0 md_T_run_63 rfl ?_
  obtain ⟨ht1, H⟩ := H
  refine mj_getf (v := va_rf (mj_r μ h0 1)) rfl kc_T 1 (by decide) tw_138 md_T_run_64 ht1 rfl ?_
  refine mj_astore (lv' := [(6, va_rf (mj_r μ h0 1)), (0, va_rf (some h0)), (3, .int v3), (4, .int v4), (5, .int v5)]) md_T_run_67 (by decide) (by first | rfl | (simp [mj_rfc]; done) | (simp [mj_rfc]; rfl)) ?_
  refine mj_aload 0 md_T_run_69 rfl ?_
  obtain ⟨b2, hb3, H⟩ := H
  obtain ⟨ht4, H⟩ := H
  refine mj_alen (t := 5) hb3 rfl ht4 md_T_run_71 ?_
  refine mj_istore (lv' := [(7, .int (nI (mj_n μ b2))), (6, va_rf (mj_r μ h0 1)), (0, va_rf (some h0)), (3, .int v3), (4, .int v4), (5, .int v5)]) md_T_run_72 (by decide) (by first | rfl | (simp [mj_rfc]; done) | (simp [mj_rfc]; rfl)) ?_
  refine mj_iconst (v := 0) md_T_run_74 (by decide) ?_
  refine mj_istore (lv' := [(8, .int 0), (7, .int (nI (mj_n μ b2))), (6, va_rf (mj_r μ h0 1)), (0, va_rf (some h0)), (3, .int v3), (4, .int v4), (5, .int v5)]) md_T_run_75 (by decide) (by first | rfl | (simp [mj_rfc]; done) | (simp [mj_rfc]; rfl)) ?_
  exact mj_lvs [3, 4, 5, 6, 2, 1, 0] rfl H

set_option maxRecDepth 20000 in
theorem bk_T_run_77 {G : mj_G} {Ex : Option Value → mj_MM → Prop} {N S : Nat} {μ : mj_MM} {h0 : Nat} {v3 : Int32} {v4 : Int32} {v5 : Int32} {v6 : Option Nat} {v7 : Int32} {v8 : Int32}
    (H : ((v7 ≤ v8 → ((mj_t μ h0 = 1) ∧ (∃ P : Int32 → mj_MM → Prop, mj_M G my_T_quietMicroseconds mY_T_quietMicroseconds [va_rf (some h0), .int v3] (mj_nc μ) (mj_ns μ) μ (mj_XI P) ∧ ∀ (x : Int32) (μ' : mj_MM), P x μ' → mj_nc μ' = mj_nc μ → mj_ns μ' = mj_ns μ → mj_J G mY_T_run Ex N S 111 [(0, va_rf (some h0)), (3, .int v3), (5, .int v5)] [.int x, va_rf (some h0), .int v4] μ'))) ∧ (¬ v7 ≤ v8 → (∃ b2 : Nat, (v6 = some b2) ∧ (mj_t μ b2 = 1005) ∧ (vp_in v8 (mj_n μ b2)) ∧ (mj_t μ h0 = 1) ∧ (∃ P : mj_MM → Prop, mj_M G my_T_choose mY_T_choose [va_rf (some h0), va_rf (mj_r μ b2 (Int32.toNatClampNeg v8))] (mj_nc μ) (mj_ns μ) μ (mj_XV P) ∧ ∀ (μ' : mj_MM), P μ' → mj_nc μ' = mj_nc μ → mj_ns μ' = mj_ns μ → mj_J G mY_T_run Ex N S 97 [(0, va_rf (some h0)), (3, .int v3), (4, .int v4), (5, .int v5), (6, va_rf v6), (7, .int v7), (8, .int v8)] [] μ'))))) :
    mj_J G mY_T_run Ex N S 77 [(0, va_rf (some h0)), (3, .int v3), (4, .int v4), (5, .int v5), (6, va_rf v6), (7, .int v7), (8, .int v8)] [] μ := by
  refine mj_iload 6 md_T_run_77 rfl ?_
  refine mj_iload 5 md_T_run_79 rfl ?_
  obtain ⟨H1, H2⟩ := H
  refine mj_icmp_ge (tgt := 103) md_T_run_81 (by decide) (fun hx => ?_) (fun hx => ?_)
  · replace H := H1 hx
    refine mj_iload 2 md_T_run_103 rfl ?_
    refine mj_aload_n 0 md_T_run_105 rfl ?_
    refine mj_aload_n 0 md_T_run_106 rfl ?_
    refine mj_iload_n 1 md_T_run_107 rfl ?_
    obtain ⟨ht1, H⟩ := H
    obtain ⟨P, hM, H⟩ := H
    exact mj_callV (n := 1) (As := [.int v3]) rfl hM kc_T ht1 ⟨tw_522, tw_1, tw_525, ⟨by decide, by decide, by decide +kernel⟩, by decide, by decide⟩ tw_524 tp_30 rfl md_T_run_108 (by first | decide | (simp only [List.map_cons, List.map_nil, List.sum_cons, List.sum_nil, mj_rfc, mj_ci, mj_cl]; done) | (simp only [List.map_cons, List.map_nil, List.sum_cons, List.sum_nil, mj_rfc, mj_ci, mj_cl]; decide)) id (mj_kI (fun x μ' hP e1 e2 => mj_lvs [0, 1, 3] rfl (H x μ' hP e1 e2)))
  · replace H := H2 hx
    refine mj_aload 4 md_T_run_84 rfl ?_
    refine mj_iload 6 md_T_run_86 rfl ?_
    obtain ⟨b2, hb3, H⟩ := H
    obtain ⟨ht4, H⟩ := H
    obtain ⟨hi5, H⟩ := H
    refine mj_aald (t := 5) hb3 rfl rfl ht4 hi5 md_T_run_88 ?_
    refine mj_astore (lv' := [(9, va_rf (mj_r μ b2 (Int32.toNatClampNeg v8))), (0, va_rf (some h0)), (3, .int v3), (4, .int v4), (5, .int v5), (6, va_rf v6), (7, .int v7), (8, .int v8)]) md_T_run_89 (by decide) (by first | rfl | (simp [mj_rfc]; done) | (simp [mj_rfc]; rfl)) ?_
    refine mj_aload_n 1 md_T_run_91 rfl ?_
    refine mj_aload 0 md_T_run_92 rfl ?_
    obtain ⟨ht6, H⟩ := H
    obtain ⟨P, hM, H⟩ := H
    exact mj_callV (n := 1) (As := [va_rf (mj_r μ b2 (Int32.toNatClampNeg v8))]) rfl hM kc_T ht6 ⟨tw_425, tw_1, tw_428, ⟨by decide, by decide, by decide +kernel⟩, by decide, by decide⟩ tw_427 tp_12 rfl md_T_run_94 (by first | decide | (simp only [List.map_cons, List.map_nil, List.sum_cons, List.sum_nil, mj_rfc, mj_ci, mj_cl]; done) | (simp only [List.map_cons, List.map_nil, List.sum_cons, List.sum_nil, mj_rfc, mj_ci, mj_cl]; decide)) id (mj_kV (fun μ' hP e1 e2 => mj_lvs [1, 2, 3, 4, 5, 6, 7] rfl (H μ' hP e1 e2)))

set_option maxRecDepth 20000 in
theorem bk_T_run_111 {G : mj_G} {Ex : Option Value → mj_MM → Prop} {N S : Nat} {μ : mj_MM} {h0 : Nat} {v3 : Int32} {v5 : Int32} {s0 : Int32} {s2 : Int32}
    (H : ((mj_t μ h0 = 1) ∧ (∃ (N' S' : Nat) (P : Int32 → mj_MM → Prop), mj_M G my_T_passMicroseconds mY_T_passMicroseconds [va_rf (some h0), .int s0] N' S' μ (mj_XI P) ∧ (N' ≤ N ∧ S' ≤ S) ∧ ∀ (x : Int32) (μ' : mj_MM), P x μ' → mj_nc μ' = N' → mj_ns μ' = S' → mj_J G mY_T_run Ex N S 114 [(0, va_rf (some h0)), (3, .int v3), (5, .int v5)] [.int x, .int s2] μ'))) :
    mj_J G mY_T_run Ex N S 111 [(0, va_rf (some h0)), (3, .int v3), (5, .int v5)] [.int s0, va_rf (some h0), .int s2] μ := by
  obtain ⟨ht1, H⟩ := H
  obtain ⟨N', S', P, hM, hNS, H⟩ := H
  exact mj_callV (n := 1) (As := [.int s0]) rfl hM kc_T ht1 ⟨tw_540, tw_1, tw_543, ⟨by decide, by decide, by decide +kernel⟩, by decide, by decide⟩ tw_542 tp_31 rfl md_T_run_111 (by first | decide | (simp only [List.map_cons, List.map_nil, List.sum_cons, List.sum_nil, mj_rfc, mj_ci, mj_cl]; done) | (simp only [List.map_cons, List.map_nil, List.sum_cons, List.sum_nil, mj_rfc, mj_ci, mj_cl]; decide)) (fun _ => hNS) (mj_kI (fun x μ' hP e1 e2 => mj_lvs [0, 1, 2] rfl (H x μ' hP e1 e2)))

set_option maxRecDepth 20000 in
theorem bk_T_run_97 {G : mj_G} {Ex : Option Value → mj_MM → Prop} {N S : Nat} {μ : mj_MM} {h0 : Nat} {v3 : Int32} {v4 : Int32} {v5 : Int32} {v6 : Option Nat} {v7 : Int32} {v8 : Int32}
    (H : mj_J G mY_T_run Ex N S 77 [(0, va_rf (some h0)), (3, .int v3), (4, .int v4), (5, .int v5), (6, va_rf v6), (7, .int v7), (8, .int (v8 + 1))] [] μ) :
    mj_J G mY_T_run Ex N S 97 [(0, va_rf (some h0)), (3, .int v3), (4, .int v4), (5, .int v5), (6, va_rf v6), (7, .int v7), (8, .int v8)] [] μ := by
  refine mj_iinc (j := 6) (v := v8 + 1) (lv' := [(8, .int (v8 + 1)), (0, va_rf (some h0)), (3, .int v3), (4, .int v4), (5, .int v5), (6, va_rf v6), (7, .int v7)]) md_T_run_97 rfl rfl (by decide) (by first | rfl | (simp [mj_rfc]; done) | (simp [mj_rfc]; rfl)) ?_
  refine mj_goto (tgt := 77) md_T_run_100 (by decide) ?_
  exact mj_lvs [1, 2, 3, 4, 5, 6, 0] rfl H

set_option maxRecDepth 20000 in
theorem bk_T_run_114 {G : mj_G} {Ex : Option Value → mj_MM → Prop} {N S : Nat} {μ : mj_MM} {h0 : Nat} {v3 : Int32} {v5 : Int32} {s0 : Int32} {s1 : Int32}
    (H : mj_J G mY_T_run Ex N S 36 [(0, va_rf (some h0)), (3, .int v3), (4, .int (s1 + s0)), (5, .int (v5 + 1))] [] μ) :
    mj_J G mY_T_run Ex N S 114 [(0, va_rf (some h0)), (3, .int v3), (5, .int v5)] [.int s0, .int s1] μ := by
  refine mj_iadd md_T_run_114 ?_
  refine mj_istore (lv' := [(4, .int (s1 + s0)), (0, va_rf (some h0)), (3, .int v3), (5, .int v5)]) md_T_run_115 (by decide) (by first | rfl | (simp [mj_rfc]; done) | (simp [mj_rfc]; rfl)) ?_
  refine mj_iinc (j := 3) (v := v5 + 1) (lv' := [(5, .int (v5 + 1)), (4, .int (s1 + s0)), (0, va_rf (some h0)), (3, .int v3)]) md_T_run_117 rfl rfl (by decide) (by first | rfl | (simp [mj_rfc]; done) | (simp [mj_rfc]; rfl)) ?_
  refine mj_goto (tgt := 36) md_T_run_120 (by decide) ?_
  exact mj_lvs [2, 3, 1, 0] rfl H

set_option maxRecDepth 20000 in
theorem bk_T_now_0 {G : mj_G} {Ex : Option Value → mj_MM → Prop} {N S : Nat} {μ : mj_MM} {h0 : Nat}
    (H : ((mj_t μ h0 = 1) ∧ Ex (some (.long (Int32.toInt64 (mj_i μ h0 12)))) μ)) :
    mj_J G mY_T_now Ex N S 0 [(0, va_rf (some h0))] [] μ := by
  refine mj_aload_n 0 md_T_now_0 rfl ?_
  obtain ⟨ht1, H⟩ := H
  refine mj_getf (v := .int (mj_i μ h0 12)) rfl kc_T 12 (by decide) tw_149 md_T_now_1 ht1 rfl ?_
  refine mj_i2l md_T_now_4 ?_
  exact mj_lreturn md_T_now_5 rfl H

set_option maxRecDepth 20000 in
theorem bk_T_running_0 {G : mj_G} {Ex : Option Value → mj_MM → Prop} {N S : Nat} {μ : mj_MM} {h0 : Nat} {v1 : Int32} {v2 : Int64}
    (H : ((mj_t μ h0 = 1) ∧ (∃ P : Option Nat → mj_MM → Prop, mj_M G my_T_coreOf mY_T_coreOf [va_rf (some h0), .int v1] (mj_nc μ) (mj_ns μ) μ (mj_XR P) ∧ ∀ (x : Option Nat) (μ' : mj_MM), P x μ' → mj_nc μ' = mj_nc μ → mj_ns μ' = mj_ns μ → mj_J G mY_T_running Ex N S 5 [(0, va_rf (some h0)), (2, .long v2)] [va_rf x] μ'))) :
    mj_J G mY_T_running Ex N S 0 [(0, va_rf (some h0)), (1, .int v1), (2, .long v2)] [] μ := by
  refine mj_aload_n 0 md_T_running_0 rfl ?_
  refine mj_iload_n 1 md_T_running_1 rfl ?_
  obtain ⟨ht1, H⟩ := H
  obtain ⟨P, hM, H⟩ := H
  exact mj_callV (n := 1) (As := [.int v1]) rfl hM kc_T ht1 ⟨tw_181, tw_1, tw_184, ⟨by decide, by decide, by decide +kernel⟩, by decide, by decide⟩ tw_183 tp_0 rfl md_T_running_2 (by first | decide | (simp only [List.map_cons, List.map_nil, List.sum_cons, List.sum_nil, mj_rfc, mj_ci, mj_cl]; done) | (simp only [List.map_cons, List.map_nil, List.sum_cons, List.sum_nil, mj_rfc, mj_ci, mj_cl]; decide)) id (mj_kR (fun x μ' hP e1 e2 => mj_lvs [0, 2] rfl (H x μ' hP e1 e2)))

set_option maxRecDepth 20000 in
theorem bk_T_running_5 {G : mj_G} {Ex : Option Value → mj_MM → Prop} {N S : Nat} {μ : mj_MM} {h0 : Nat} {v2 : Int64} {s0 : Option Nat}
    (H : ((s0 = none → Ex (some (.int (-1))) μ) ∧ (∀ b1 : Nat, s0 = some b1 → ((v2 < 0 → Ex (some (.int (-2))) μ) ∧ (¬ v2 < 0 → ((mj_t μ h0 = 1) ∧ ((v2 < (Int32.toInt64 (mj_i μ h0 12)) → ((mj_t μ b1 = 2) ∧ (∃ P : Int32 → mj_MM → Prop, mj_M G my_C_whoAt mY_C_whoAt [va_rf (some b1), .int (Int64.toInt32 v2)] (mj_nc μ) (mj_ns μ) μ (mj_XI P) ∧ ∀ (x : Int32) (μ' : mj_MM), P x μ' → mj_nc μ' = mj_nc μ → mj_ns μ' = mj_ns μ → mj_J G mY_T_running Ex N S 40 [] [.int x] μ'))) ∧ (¬ v2 < (Int32.toInt64 (mj_i μ h0 12)) → Ex (some (.int (-2))) μ)))))))) :
    mj_J G mY_T_running Ex N S 5 [(0, va_rf (some h0)), (2, .long v2)] [va_rf s0] μ := by
  refine mj_astore (lv' := [(4, va_rf s0), (0, va_rf (some h0)), (2, .long v2)]) md_T_running_5 (by decide) (by first | rfl | (simp [mj_rfc]; done) | (simp [mj_rfc]; rfl)) ?_
  refine mj_aload 0 md_T_running_7 rfl ?_
  obtain ⟨H1, H2⟩ := H
  refine mj_ifnonnull (tgt := 14) md_T_running_9 (by decide) (fun b1 hb2 => ?_) (fun hb => ?_)
  · replace H := H2 b1 hb2
    refine mj_lload_n 2 md_T_running_14 rfl ?_
    refine mj_lconst (v := 0) md_T_running_15 (by decide) ?_
    refine mj_lcmp md_T_running_16 ?_
    obtain ⟨H1, H2⟩ := H
    refine mj_if_lt (tgt := 30) md_T_running_17 (by decide) (fun hx => ?_) (fun hx => ?_)
    · replace H := H1 ((lg_cmp_lt v2 0).mp hx)
      refine mj_bipush (v := (-2)) md_T_running_30 (by decide) ?_
      exact mj_ireturn md_T_running_32 rfl rfl H
    · replace H := H2 (fun hy => hx ((lg_cmp_lt v2 0).mpr hy))
      refine mj_lload_n 2 md_T_running_20 rfl ?_
      refine mj_aload_n 1 md_T_running_21 rfl ?_
      obtain ⟨ht3, H⟩ := H
      refine mj_getf (v := .int (mj_i μ h0 12)) rfl kc_T 12 (by decide) tw_149 md_T_running_22 ht3 rfl ?_
      refine mj_i2l md_T_running_25 ?_
      refine mj_lcmp md_T_running_26 ?_
      obtain ⟨H1, H2⟩ := H
      refine mj_if_lt (tgt := 33) md_T_running_27 (by decide) (fun hx => ?_) (fun hx => ?_)
      · replace H := H1 ((lg_cmp_lt v2 (Int32.toInt64 (mj_i μ h0 12))).mp hx)
        refine mj_aload 0 md_T_running_33 rfl ?_
        refine mj_lload_n 2 md_T_running_35 rfl ?_
        refine mj_l2i md_T_running_36 ?_
        obtain ⟨ht4, H⟩ := H
        obtain ⟨P, hM, H⟩ := H
        exact mj_callV (n := 1) (As := [.int (Int64.toInt32 v2)]) hb2 hM kc_C ht4 ⟨tw_566, tw_5, tw_569, ⟨by decide, by decide, by decide +kernel⟩, by decide, by decide⟩ tw_567 tw_568 rfl md_T_running_37 (by first | decide | (simp only [List.map_cons, List.map_nil, List.sum_cons, List.sum_nil, mj_rfc, mj_ci, mj_cl]; done) | (simp only [List.map_cons, List.map_nil, List.sum_cons, List.sum_nil, mj_rfc, mj_ci, mj_cl]; decide)) id (mj_kI (fun x μ' hP e1 e2 => mj_lvs [] rfl (H x μ' hP e1 e2)))
      · replace H := H2 (fun hy => hx ((lg_cmp_lt v2 (Int32.toInt64 (mj_i μ h0 12))).mpr hy))
        refine mj_bipush (v := (-2)) md_T_running_30 (by decide) ?_
        exact mj_ireturn md_T_running_32 rfl rfl H
  · replace H := H1 hb
    refine mj_iconst (v := (-1)) md_T_running_12 (by decide) ?_
    exact mj_ireturn md_T_running_13 rfl rfl H

set_option maxRecDepth 20000 in
theorem bk_T_running_40 {G : mj_G} {Ex : Option Value → mj_MM → Prop} {N S : Nat} {μ : mj_MM} {s0 : Int32}
    (H : Ex (some (.int s0)) μ) :
    mj_J G mY_T_running Ex N S 40 [] [.int s0] μ := by
  exact mj_ireturn md_T_running_40 rfl rfl H

set_option maxRecDepth 20000 in
theorem bk_T_used_0 {G : mj_G} {Ex : Option Value → mj_MM → Prop} {N S : Nat} {μ : mj_MM} {h0 : Nat} {v1 : Int32}
    (H : ((mj_t μ h0 = 1) ∧ (∃ P : Option Nat → mj_MM → Prop, mj_M G my_T_taskOf mY_T_taskOf [va_rf (some h0), .int v1] (mj_nc μ) (mj_ns μ) μ (mj_XR P) ∧ ∀ (x : Option Nat) (μ' : mj_MM), P x μ' → mj_nc μ' = mj_nc μ → mj_ns μ' = mj_ns μ → mj_J G mY_T_used Ex N S 5 [] [va_rf x] μ'))) :
    mj_J G mY_T_used Ex N S 0 [(0, va_rf (some h0)), (1, .int v1)] [] μ := by
  refine mj_aload_n 0 md_T_used_0 rfl ?_
  refine mj_iload_n 1 md_T_used_1 rfl ?_
  obtain ⟨ht1, H⟩ := H
  obtain ⟨P, hM, H⟩ := H
  exact mj_callV (n := 1) (As := [.int v1]) rfl hM kc_T ht1 ⟨tw_294, tw_1, tw_297, ⟨by decide, by decide, by decide +kernel⟩, by decide, by decide⟩ tw_296 tp_1 rfl md_T_used_2 (by first | decide | (simp only [List.map_cons, List.map_nil, List.sum_cons, List.sum_nil, mj_rfc, mj_ci, mj_cl]; done) | (simp only [List.map_cons, List.map_nil, List.sum_cons, List.sum_nil, mj_rfc, mj_ci, mj_cl]; decide)) id (mj_kR (fun x μ' hP e1 e2 => mj_lvs [] rfl (H x μ' hP e1 e2)))

set_option maxRecDepth 20000 in
theorem bk_T_used_5 {G : mj_G} {Ex : Option Value → mj_MM → Prop} {N S : Nat} {μ : mj_MM} {s0 : Option Nat}
    (H : ((s0 = none → Ex (some (.long (-1))) μ) ∧ (∀ b1 : Nat, s0 = some b1 → ((mj_t μ b1 = 9) ∧ Ex (some (.long (Int32.toInt64 (mj_i μ b1 14)))) μ)))) :
    mj_J G mY_T_used Ex N S 5 [] [va_rf s0] μ := by
  refine mj_astn (i := 2) (lv' := [(2, va_rf s0)]) md_T_used_5 rfl (by decide) (by first | rfl | (simp [mj_rfc]; done) | (simp [mj_rfc]; rfl)) ?_
  refine mj_aload_n 0 md_T_used_6 rfl ?_
  obtain ⟨H1, H2⟩ := H
  refine mj_ifnonnull (tgt := 16) md_T_used_7 (by decide) (fun b1 hb2 => ?_) (fun hb => ?_)
  · replace H := H2 b1 hb2
    refine mj_aload_n 0 md_T_used_16 rfl ?_
    obtain ⟨ht3, H⟩ := H
    refine mj_getf (v := .int (mj_i μ b1 14)) hb2 kc_K 14 (by decide) tw_239 md_T_used_17 ht3 rfl ?_
    refine mj_i2l md_T_used_20 ?_
    exact mj_lreturn md_T_used_21 rfl H
  · replace H := H1 hb
    refine mj_ldc2 (v := (-1)) tw_579 md_T_used_10 ?_
    refine mj_goto (tgt := 21) md_T_used_13 (by decide) ?_
    exact mj_lreturn md_T_used_21 rfl H

set_option maxRecDepth 20000 in
theorem bk_T_state_0 {G : mj_G} {Ex : Option Value → mj_MM → Prop} {N S : Nat} {μ : mj_MM} {h0 : Nat} {v1 : Int32}
    (H : ((mj_t μ h0 = 1) ∧ (∃ P : Option Nat → mj_MM → Prop, mj_M G my_T_taskOf mY_T_taskOf [va_rf (some h0), .int v1] (mj_nc μ) (mj_ns μ) μ (mj_XR P) ∧ ∀ (x : Option Nat) (μ' : mj_MM), P x μ' → mj_nc μ' = mj_nc μ → mj_ns μ' = mj_ns μ → mj_J G mY_T_state Ex N S 5 [] [va_rf x] μ'))) :
    mj_J G mY_T_state Ex N S 0 [(0, va_rf (some h0)), (1, .int v1)] [] μ := by
  refine mj_aload_n 0 md_T_state_0 rfl ?_
  refine mj_iload_n 1 md_T_state_1 rfl ?_
  obtain ⟨ht1, H⟩ := H
  obtain ⟨P, hM, H⟩ := H
  exact mj_callV (n := 1) (As := [.int v1]) rfl hM kc_T ht1 ⟨tw_294, tw_1, tw_297, ⟨by decide, by decide, by decide +kernel⟩, by decide, by decide⟩ tw_296 tp_1 rfl md_T_state_2 (by first | decide | (simp only [List.map_cons, List.map_nil, List.sum_cons, List.sum_nil, mj_rfc, mj_ci, mj_cl]; done) | (simp only [List.map_cons, List.map_nil, List.sum_cons, List.sum_nil, mj_rfc, mj_ci, mj_cl]; decide)) id (mj_kR (fun x μ' hP e1 e2 => mj_lvs [] rfl (H x μ' hP e1 e2)))

set_option maxRecDepth 20000 in
theorem bk_T_state_5 {G : mj_G} {Ex : Option Value → mj_MM → Prop} {N S : Nat} {μ : mj_MM} {s0 : Option Nat}
    (H : ((s0 = none → Ex (some (.int (-1))) μ) ∧ (∀ b1 : Nat, s0 = some b1 → ((mj_t μ b1 = 9) ∧ Ex (some (.int (mj_i μ b1 9))) μ)))) :
    mj_J G mY_T_state Ex N S 5 [] [va_rf s0] μ := by
  refine mj_astn (i := 2) (lv' := [(2, va_rf s0)]) md_T_state_5 rfl (by decide) (by first | rfl | (simp [mj_rfc]; done) | (simp [mj_rfc]; rfl)) ?_
  refine mj_aload_n 0 md_T_state_6 rfl ?_
  obtain ⟨H1, H2⟩ := H
  refine mj_ifnonnull (tgt := 14) md_T_state_7 (by decide) (fun b1 hb2 => ?_) (fun hb => ?_)
  · replace H := H2 b1 hb2
    refine mj_aload_n 0 md_T_state_14 rfl ?_
    obtain ⟨ht3, H⟩ := H
    refine mj_getf (v := .int (mj_i μ b1 9)) hb2 kc_K 9 (by decide) tw_232 md_T_state_15 ht3 rfl ?_
    exact mj_ireturn md_T_state_18 rfl rfl H
  · replace H := H1 hb
    refine mj_iconst (v := (-1)) md_T_state_10 (by decide) ?_
    refine mj_goto (tgt := 18) md_T_state_11 (by decide) ?_
    exact mj_ireturn md_T_state_18 rfl rfl H

set_option maxRecDepth 20000 in
theorem bk_T_event_0 {G : mj_G} {Ex : Option Value → mj_MM → Prop} {N S : Nat} {μ : mj_MM} {h0 : Nat} {v1 : Int32} {v2 : Int32}
    (H : ((mj_t μ h0 = 1) ∧ (∃ P : Option Nat → mj_MM → Prop, mj_M G my_T_taskOf mY_T_taskOf [va_rf (some h0), .int v1] (mj_nc μ) (mj_ns μ) μ (mj_XR P) ∧ ∀ (x : Option Nat) (μ' : mj_MM), P x μ' → mj_nc μ' = mj_nc μ → mj_ns μ' = mj_ns μ → mj_J G mY_T_event Ex N S 5 [(0, va_rf (some h0)), (2, .int v2)] [va_rf x] μ'))) :
    mj_J G mY_T_event Ex N S 0 [(0, va_rf (some h0)), (1, .int v1), (2, .int v2)] [] μ := by
  refine mj_aload_n 0 md_T_event_0 rfl ?_
  refine mj_iload_n 1 md_T_event_1 rfl ?_
  obtain ⟨ht1, H⟩ := H
  obtain ⟨P, hM, H⟩ := H
  exact mj_callV (n := 1) (As := [.int v1]) rfl hM kc_T ht1 ⟨tw_294, tw_1, tw_297, ⟨by decide, by decide, by decide +kernel⟩, by decide, by decide⟩ tw_296 tp_1 rfl md_T_event_2 (by first | decide | (simp only [List.map_cons, List.map_nil, List.sum_cons, List.sum_nil, mj_rfc, mj_ci, mj_cl]; done) | (simp only [List.map_cons, List.map_nil, List.sum_cons, List.sum_nil, mj_rfc, mj_ci, mj_cl]; decide)) id (mj_kR (fun x μ' hP e1 e2 => mj_lvs [0, 2] rfl (H x μ' hP e1 e2)))

set_option maxRecDepth 20000 in
theorem bk_T_event_5 {G : mj_G} {Ex : Option Value → mj_MM → Prop} {N S : Nat} {μ : mj_MM} {h0 : Nat} {v2 : Int32} {s0 : Option Nat}
    (H : ((s0 = none → Ex (some (.int (-1))) μ) ∧ (∀ b1 : Nat, s0 = some b1 → ((v2 < 1 → Ex (some (.int (-2))) μ) ∧ (¬ v2 < 1 → ((v2 < 65536 → ((mj_t μ b1 = 9) ∧ (∃ P : Int32 → mj_MM → Prop, mj_M G my_K_mayBeSet mY_K_mayBeSet [va_rf (some b1)] (mj_nc μ) (mj_ns μ) μ (mj_XI P) ∧ ∀ (x : Int32) (μ' : mj_MM), P x μ' → mj_nc μ' = mj_nc μ → mj_ns μ' = mj_ns μ → mj_J G mY_T_event Ex N S 30 [(0, va_rf (some h0)), (2, .int v2), (3, va_rf s0)] [.int x] μ'))) ∧ (¬ v2 < 65536 → Ex (some (.int (-2))) μ))))))) :
    mj_J G mY_T_event Ex N S 5 [(0, va_rf (some h0)), (2, .int v2)] [va_rf s0] μ := by
  refine mj_astn (i := 3) (lv' := [(3, va_rf s0), (0, va_rf (some h0)), (2, .int v2)]) md_T_event_5 rfl (by decide) (by first | rfl | (simp [mj_rfc]; done) | (simp [mj_rfc]; rfl)) ?_
  refine mj_aload_n 0 md_T_event_6 rfl ?_
  obtain ⟨H1, H2⟩ := H
  refine mj_ifnonnull (tgt := 12) md_T_event_7 (by decide) (fun b1 hb2 => ?_) (fun hb => ?_)
  · replace H := H2 b1 hb2
    refine mj_iload_n 2 md_T_event_12 rfl ?_
    refine mj_iconst (v := 1) md_T_event_13 (by decide) ?_
    obtain ⟨H1, H2⟩ := H
    refine mj_icmp_lt (tgt := 23) md_T_event_14 (by decide) (fun hx => ?_) (fun hx => ?_)
    · replace H := H1 hx
      refine mj_bipush (v := (-2)) md_T_event_23 (by decide) ?_
      exact mj_ireturn md_T_event_25 rfl rfl H
    · replace H := H2 hx
      refine mj_iload_n 2 md_T_event_17 rfl ?_
      refine mj_ldc (v := 65536) tw_477 md_T_event_18 ?_
      obtain ⟨H1, H2⟩ := H
      refine mj_icmp_lt (tgt := 26) md_T_event_20 (by decide) (fun hx => ?_) (fun hx => ?_)
      · replace H := H1 hx
        refine mj_aload_n 0 md_T_event_26 rfl ?_
        obtain ⟨ht3, H⟩ := H
        obtain ⟨P, hM, H⟩ := H
        exact mj_callV (n := 0) (As := []) hb2 hM kc_K ht3 ⟨tw_482, tw_9, tw_485, ⟨by decide, by decide, by decide +kernel⟩, by decide, by decide⟩ tw_483 tw_484 rfl md_T_event_27 (by first | decide | (simp only [List.map_cons, List.map_nil, List.sum_cons, List.sum_nil, mj_rfc, mj_ci, mj_cl]; done) | (simp only [List.map_cons, List.map_nil, List.sum_cons, List.sum_nil, mj_rfc, mj_ci, mj_cl]; decide)) id (mj_kI (fun x μ' hP e1 e2 => mj_lvs [1, 2, 0] rfl (H x μ' hP e1 e2)))
      · replace H := H2 hx
        refine mj_bipush (v := (-2)) md_T_event_23 (by decide) ?_
        exact mj_ireturn md_T_event_25 rfl rfl H
  · replace H := H1 hb
    refine mj_iconst (v := (-1)) md_T_event_10 (by decide) ?_
    exact mj_ireturn md_T_event_11 rfl rfl H

set_option maxRecDepth 20000 in
theorem bk_T_event_30 {G : mj_G} {Ex : Option Value → mj_MM → Prop} {N S : Nat} {μ : mj_MM} {h0 : Nat} {v2 : Int32} {v3 : Option Nat} {s0 : Int32}
    (H : ((¬ s0 = 0 → ((mj_t μ h0 = 1) ∧ (∃ P : mj_MM → Prop, mj_M G my_T_setEvents mY_T_setEvents [va_rf (some h0), va_rf v3, .int v2] (mj_nc μ) (mj_ns μ) μ (mj_XV P) ∧ ∀ (μ' : mj_MM), P μ' → mj_nc μ' = mj_nc μ → mj_ns μ' = mj_ns μ → mj_J G mY_T_event Ex N S 42 [] [] μ'))) ∧ (s0 = 0 → Ex (some (.int (-3))) μ))) :
    mj_J G mY_T_event Ex N S 30 [(0, va_rf (some h0)), (2, .int v2), (3, va_rf v3)] [.int s0] μ := by
  obtain ⟨H1, H2⟩ := H
  refine mj_if_ne (tgt := 36) md_T_event_30 (by decide) (fun hx => ?_) (fun hx => ?_)
  · replace H := H1 hx
    refine mj_aload_n 0 md_T_event_36 rfl ?_
    refine mj_aload_n 2 md_T_event_37 rfl ?_
    refine mj_iload_n 1 md_T_event_38 rfl ?_
    obtain ⟨ht1, H⟩ := H
    obtain ⟨P, hM, H⟩ := H
    exact mj_callV (n := 2) (As := [va_rf v3, .int v2]) rfl hM kc_T ht1 ⟨tw_486, tw_1, tw_489, ⟨by decide, by decide, by decide +kernel⟩, by decide, by decide⟩ tw_488 tp_21 rfl md_T_event_39 (by first | decide | (simp only [List.map_cons, List.map_nil, List.sum_cons, List.sum_nil, mj_rfc, mj_ci, mj_cl]; done) | (simp only [List.map_cons, List.map_nil, List.sum_cons, List.sum_nil, mj_rfc, mj_ci, mj_cl]; decide)) id (mj_kV (fun μ' hP e1 e2 => mj_lvs [] rfl (H μ' hP e1 e2)))
  · replace H := H2 hx
    refine mj_bipush (v := (-3)) md_T_event_33 (by decide) ?_
    exact mj_ireturn md_T_event_35 rfl rfl H

set_option maxRecDepth 20000 in
theorem bk_T_event_42 {G : mj_G} {Ex : Option Value → mj_MM → Prop} {N S : Nat} {μ : mj_MM}
    (H : Ex (some (.int 1)) μ) :
    mj_J G mY_T_event Ex N S 42 [] [] μ := by
  refine mj_iconst (v := 1) md_T_event_42 (by decide) ?_
  exact mj_ireturn md_T_event_43 rfl rfl H

set_option maxRecDepth 20000 in
theorem bk_T_events_0 {G : mj_G} {Ex : Option Value → mj_MM → Prop} {N S : Nat} {μ : mj_MM} {h0 : Nat} {v1 : Int32}
    (H : ((mj_t μ h0 = 1) ∧ (∃ P : Option Nat → mj_MM → Prop, mj_M G my_T_taskOf mY_T_taskOf [va_rf (some h0), .int v1] (mj_nc μ) (mj_ns μ) μ (mj_XR P) ∧ ∀ (x : Option Nat) (μ' : mj_MM), P x μ' → mj_nc μ' = mj_nc μ → mj_ns μ' = mj_ns μ → mj_J G mY_T_events Ex N S 5 [] [va_rf x] μ'))) :
    mj_J G mY_T_events Ex N S 0 [(0, va_rf (some h0)), (1, .int v1)] [] μ := by
  refine mj_aload_n 0 md_T_events_0 rfl ?_
  refine mj_iload_n 1 md_T_events_1 rfl ?_
  obtain ⟨ht1, H⟩ := H
  obtain ⟨P, hM, H⟩ := H
  exact mj_callV (n := 1) (As := [.int v1]) rfl hM kc_T ht1 ⟨tw_294, tw_1, tw_297, ⟨by decide, by decide, by decide +kernel⟩, by decide, by decide⟩ tw_296 tp_1 rfl md_T_events_2 (by first | decide | (simp only [List.map_cons, List.map_nil, List.sum_cons, List.sum_nil, mj_rfc, mj_ci, mj_cl]; done) | (simp only [List.map_cons, List.map_nil, List.sum_cons, List.sum_nil, mj_rfc, mj_ci, mj_cl]; decide)) id (mj_kR (fun x μ' hP e1 e2 => mj_lvs [] rfl (H x μ' hP e1 e2)))

set_option maxRecDepth 20000 in
theorem bk_T_events_5 {G : mj_G} {Ex : Option Value → mj_MM → Prop} {N S : Nat} {μ : mj_MM} {s0 : Option Nat}
    (H : ((s0 = none → Ex (some (.int (-1))) μ) ∧ (∀ b1 : Nat, s0 = some b1 → ((mj_t μ b1 = 9) ∧ Ex (some (.int (mj_i μ b1 12))) μ)))) :
    mj_J G mY_T_events Ex N S 5 [] [va_rf s0] μ := by
  refine mj_astn (i := 2) (lv' := [(2, va_rf s0)]) md_T_events_5 rfl (by decide) (by first | rfl | (simp [mj_rfc]; done) | (simp [mj_rfc]; rfl)) ?_
  refine mj_aload_n 0 md_T_events_6 rfl ?_
  obtain ⟨H1, H2⟩ := H
  refine mj_ifnonnull (tgt := 14) md_T_events_7 (by decide) (fun b1 hb2 => ?_) (fun hb => ?_)
  · replace H := H2 b1 hb2
    refine mj_aload_n 0 md_T_events_14 rfl ?_
    obtain ⟨ht3, H⟩ := H
    refine mj_getf (v := .int (mj_i μ b1 12)) hb2 kc_K 12 (by decide) tw_236 md_T_events_15 ht3 rfl ?_
    exact mj_ireturn md_T_events_18 rfl rfl H
  · replace H := H1 hb
    refine mj_iconst (v := (-1)) md_T_events_10 (by decide) ?_
    refine mj_goto (tgt := 18) md_T_events_11 (by decide) ?_
    exact mj_ireturn md_T_events_18 rfl rfl H

set_option maxRecDepth 20000 in
theorem bk_T_code_0 {G : mj_G} {Ex : Option Value → mj_MM → Prop} {N S : Nat} {μ : mj_MM} {h0 : Nat} {v1 : Int32} {v2 : Int32}
    (H : ((mj_t μ h0 = 1) ∧ ∃ b2 : Nat, (mj_r μ h0 5 = some b2) ∧ (mj_t μ b2 = 6) ∧ (∃ P : Int32 → mj_MM → Prop, mj_M G my_G_answer mY_G_answer [va_rf (some b2), .int v1, .int v2] (mj_nc μ) (mj_ns μ) μ (mj_XI P) ∧ ∀ (x : Int32) (μ' : mj_MM), P x μ' → mj_nc μ' = mj_nc μ → mj_ns μ' = mj_ns μ → mj_J G mY_T_code Ex N S 9 [] [.int x] μ'))) :
    mj_J G mY_T_code Ex N S 0 [(0, va_rf (some h0)), (1, .int v1), (2, .int v2)] [] μ := by
  refine mj_aload_n 0 md_T_code_0 rfl ?_
  obtain ⟨ht1, H⟩ := H
  refine mj_getf (v := va_rf (mj_r μ h0 5)) rfl kc_T 5 (by decide) tw_142 md_T_code_1 ht1 rfl ?_
  refine mj_iload_n 1 md_T_code_4 rfl ?_
  refine mj_iload_n 2 md_T_code_5 rfl ?_
  obtain ⟨b2, hb3, H⟩ := H
  obtain ⟨ht4, H⟩ := H
  obtain ⟨P, hM, H⟩ := H
  exact mj_callV (n := 2) (As := [.int v1, .int v2]) hb3 hM kc_G ht4 ⟨tw_596, tw_3, tw_573, ⟨by decide, by decide, by decide +kernel⟩, by decide, by decide⟩ tw_571 tw_572 rfl md_T_code_6 (by first | decide | (simp only [List.map_cons, List.map_nil, List.sum_cons, List.sum_nil, mj_rfc, mj_ci, mj_cl]; done) | (simp only [List.map_cons, List.map_nil, List.sum_cons, List.sum_nil, mj_rfc, mj_ci, mj_cl]; decide)) id (mj_kI (fun x μ' hP e1 e2 => mj_lvs [] rfl (H x μ' hP e1 e2)))

set_option maxRecDepth 20000 in
theorem bk_T_code_9 {G : mj_G} {Ex : Option Value → mj_MM → Prop} {N S : Nat} {μ : mj_MM} {s0 : Int32}
    (H : Ex (some (.int s0)) μ) :
    mj_J G mY_T_code Ex N S 9 [] [.int s0] μ := by
  exact mj_ireturn md_T_code_9 rfl rfl H

set_option maxRecDepth 20000 in
theorem bk_T_order_0 {G : mj_G} {Ex : Option Value → mj_MM → Prop} {N S : Nat} {μ : mj_MM} {h0 : Nat} {v1 : Int32} {v2 : Int32}
    (H : ((mj_t μ h0 = 1) ∧ ∃ b2 : Nat, (mj_r μ h0 6 = some b2) ∧ (mj_t μ b2 = 6) ∧ (∃ P : Int32 → mj_MM → Prop, mj_M G my_G_answer mY_G_answer [va_rf (some b2), .int v1, .int v2] (mj_nc μ) (mj_ns μ) μ (mj_XI P) ∧ ∀ (x : Int32) (μ' : mj_MM), P x μ' → mj_nc μ' = mj_nc μ → mj_ns μ' = mj_ns μ → mj_J G mY_T_order Ex N S 9 [] [.int x] μ'))) :
    mj_J G mY_T_order Ex N S 0 [(0, va_rf (some h0)), (1, .int v1), (2, .int v2)] [] μ := by
  refine mj_aload_n 0 md_T_order_0 rfl ?_
  obtain ⟨ht1, H⟩ := H
  refine mj_getf (v := va_rf (mj_r μ h0 6)) rfl kc_T 6 (by decide) tw_143 md_T_order_1 ht1 rfl ?_
  refine mj_iload_n 1 md_T_order_4 rfl ?_
  refine mj_iload_n 2 md_T_order_5 rfl ?_
  obtain ⟨b2, hb3, H⟩ := H
  obtain ⟨ht4, H⟩ := H
  obtain ⟨P, hM, H⟩ := H
  exact mj_callV (n := 2) (As := [.int v1, .int v2]) hb3 hM kc_G ht4 ⟨tw_596, tw_3, tw_573, ⟨by decide, by decide, by decide +kernel⟩, by decide, by decide⟩ tw_571 tw_572 rfl md_T_order_6 (by first | decide | (simp only [List.map_cons, List.map_nil, List.sum_cons, List.sum_nil, mj_rfc, mj_ci, mj_cl]; done) | (simp only [List.map_cons, List.map_nil, List.sum_cons, List.sum_nil, mj_rfc, mj_ci, mj_cl]; decide)) id (mj_kI (fun x μ' hP e1 e2 => mj_lvs [] rfl (H x μ' hP e1 e2)))

set_option maxRecDepth 20000 in
theorem bk_T_order_9 {G : mj_G} {Ex : Option Value → mj_MM → Prop} {N S : Nat} {μ : mj_MM} {s0 : Int32}
    (H : Ex (some (.int s0)) μ) :
    mj_J G mY_T_order Ex N S 9 [] [.int s0] μ := by
  exact mj_ireturn md_T_order_9 rfl rfl H

set_option maxRecDepth 20000 in
theorem bk_T_spin_0 {G : mj_G} {Ex : Option Value → mj_MM → Prop} {N S : Nat} {μ : mj_MM} {h0 : Nat} {v1 : Int32} {v2 : Int32}
    (H : ((mj_t μ h0 = 1) ∧ (∃ P : Option Nat → mj_MM → Prop, mj_M G my_T_coreOf mY_T_coreOf [va_rf (some h0), .int v1] (mj_nc μ) (mj_ns μ) μ (mj_XR P) ∧ ∀ (x : Option Nat) (μ' : mj_MM), P x μ' → mj_nc μ' = mj_nc μ → mj_ns μ' = mj_ns μ → mj_J G mY_T_spin Ex N S 5 [(0, va_rf (some h0)), (2, .int v2)] [va_rf x] μ'))) :
    mj_J G mY_T_spin Ex N S 0 [(0, va_rf (some h0)), (1, .int v1), (2, .int v2)] [] μ := by
  refine mj_aload_n 0 md_T_spin_0 rfl ?_
  refine mj_iload_n 1 md_T_spin_1 rfl ?_
  obtain ⟨ht1, H⟩ := H
  obtain ⟨P, hM, H⟩ := H
  exact mj_callV (n := 1) (As := [.int v1]) rfl hM kc_T ht1 ⟨tw_181, tw_1, tw_184, ⟨by decide, by decide, by decide +kernel⟩, by decide, by decide⟩ tw_183 tp_0 rfl md_T_spin_2 (by first | decide | (simp only [List.map_cons, List.map_nil, List.sum_cons, List.sum_nil, mj_rfc, mj_ci, mj_cl]; done) | (simp only [List.map_cons, List.map_nil, List.sum_cons, List.sum_nil, mj_rfc, mj_ci, mj_cl]; decide)) id (mj_kR (fun x μ' hP e1 e2 => mj_lvs [0, 2] rfl (H x μ' hP e1 e2)))

set_option maxRecDepth 20000 in
theorem bk_T_spin_5 {G : mj_G} {Ex : Option Value → mj_MM → Prop} {N S : Nat} {μ : mj_MM} {h0 : Nat} {v2 : Int32} {s0 : Option Nat}
    (H : ((s0 = none → Ex (some (.int (-1000))) μ) ∧ (∀ b1 : Nat, s0 = some b1 → ((mj_t μ h0 = 1) ∧ (∃ P : Option Nat → mj_MM → Prop, mj_M G my_T_lockOf mY_T_lockOf [va_rf (some h0), .int v2] (mj_nc μ) (mj_ns μ) μ (mj_XR P) ∧ ∀ (x : Option Nat) (μ' : mj_MM), P x μ' → mj_nc μ' = mj_nc μ → mj_ns μ' = mj_ns μ → mj_J G mY_T_spin Ex N S 19 [(3, va_rf s0)] [va_rf x] μ'))))) :
    mj_J G mY_T_spin Ex N S 5 [(0, va_rf (some h0)), (2, .int v2)] [va_rf s0] μ := by
  refine mj_astn (i := 3) (lv' := [(3, va_rf s0), (0, va_rf (some h0)), (2, .int v2)]) md_T_spin_5 rfl (by decide) (by first | rfl | (simp [mj_rfc]; done) | (simp [mj_rfc]; rfl)) ?_
  refine mj_aload_n 0 md_T_spin_6 rfl ?_
  obtain ⟨H1, H2⟩ := H
  refine mj_ifnonnull (tgt := 14) md_T_spin_7 (by decide) (fun b1 hb2 => ?_) (fun hb => ?_)
  · replace H := H2 b1 hb2
    refine mj_aload_n 1 md_T_spin_14 rfl ?_
    refine mj_iload_n 2 md_T_spin_15 rfl ?_
    obtain ⟨ht3, H⟩ := H
    obtain ⟨P, hM, H⟩ := H
    exact mj_callV (n := 1) (As := [.int v2]) rfl hM kc_T ht3 ⟨tw_438, tw_1, tw_441, ⟨by decide, by decide, by decide +kernel⟩, by decide, by decide⟩ tw_440 tp_13 rfl md_T_spin_16 (by first | decide | (simp only [List.map_cons, List.map_nil, List.sum_cons, List.sum_nil, mj_rfc, mj_ci, mj_cl]; done) | (simp only [List.map_cons, List.map_nil, List.sum_cons, List.sum_nil, mj_rfc, mj_ci, mj_cl]; decide)) id (mj_kR (fun x μ' hP e1 e2 => mj_lvs [0] rfl (H x μ' hP e1 e2)))
  · replace H := H1 hb
    refine mj_sipush (v := (-1000)) md_T_spin_10 (by decide) ?_
    exact mj_ireturn md_T_spin_13 rfl rfl H

set_option maxRecDepth 20000 in
theorem bk_T_spin_19 {G : mj_G} {Ex : Option Value → mj_MM → Prop} {N S : Nat} {μ : mj_MM} {v3 : Option Nat} {s0 : Option Nat}
    (H : ((s0 = none → Ex (some (.int (-2000))) μ) ∧ (∀ b1 : Nat, s0 = some b1 → ((mj_t μ b1 = 5) ∧ ((mj_r μ b1 0 = none → (∃ P : Option Nat → mj_MM → Prop, mj_M G my_L_firstInQueueOf mY_L_firstInQueueOf [va_rf (some b1), va_rf v3] (mj_nc μ) (mj_ns μ) μ (mj_XR P) ∧ ∀ (x : Option Nat) (μ' : mj_MM), P x μ' → mj_nc μ' = mj_nc μ → mj_ns μ' = mj_ns μ → mj_J G mY_T_spin Ex N S 65 [] [va_rf x] μ')) ∧ (∀ b4 : Nat, mj_r μ b1 0 = some b4 → ((mj_t μ b4 = 9) ∧ ((¬ mj_r μ b4 2 = v3 → (∃ P : Option Nat → mj_MM → Prop, mj_M G my_L_firstInQueueOf mY_L_firstInQueueOf [va_rf (some b1), va_rf v3] (mj_nc μ) (mj_ns μ) μ (mj_XR P) ∧ ∀ (x : Option Nat) (μ' : mj_MM), P x μ' → mj_nc μ' = mj_nc μ → mj_ns μ' = mj_ns μ → mj_J G mY_T_spin Ex N S 65 [] [va_rf x] μ')) ∧ (mj_r μ b4 2 = v3 → Ex (some (.int (mj_i μ b4 0))) μ))))))))) :
    mj_J G mY_T_spin Ex N S 19 [(3, va_rf v3)] [va_rf s0] μ := by
  refine mj_astore (lv' := [(4, va_rf s0), (3, va_rf v3)]) md_T_spin_19 (by decide) (by first | rfl | (simp [mj_rfc]; done) | (simp [mj_rfc]; rfl)) ?_
  refine mj_aload 0 md_T_spin_21 rfl ?_
  obtain ⟨H1, H2⟩ := H
  refine mj_ifnonnull (tgt := 30) md_T_spin_23 (by decide) (fun b1 hb2 => ?_) (fun hb => ?_)
  · replace H := H2 b1 hb2
    refine mj_aload 0 md_T_spin_30 rfl ?_
    obtain ⟨ht3, H⟩ := H
    refine mj_getf (v := va_rf (mj_r μ b1 0)) hb2 kc_L 0 (by decide) tw_129 md_T_spin_32 ht3 rfl ?_
    obtain ⟨H1, H2⟩ := H
    refine mj_ifnull (tgt := 59) md_T_spin_35 (by decide) (fun hb => ?_) (fun b4 hb5 => ?_)
    · replace H := H1 hb
      refine mj_aload 0 md_T_spin_59 rfl ?_
      refine mj_aload_n 1 md_T_spin_61 rfl ?_
      obtain ⟨P, hM, H⟩ := H
      exact mj_callV (n := 1) (As := [va_rf v3]) hb2 hM kc_L ht3 ⟨tw_605, tw_7, tw_608, ⟨by decide, by decide, by decide +kernel⟩, by decide, by decide⟩ tw_606 tw_607 rfl md_T_spin_62 (by first | decide | (simp only [List.map_cons, List.map_nil, List.sum_cons, List.sum_nil, mj_rfc, mj_ci, mj_cl]; done) | (simp only [List.map_cons, List.map_nil, List.sum_cons, List.sum_nil, mj_rfc, mj_ci, mj_cl]; decide)) id (mj_kR (fun x μ' hP e1 e2 => mj_lvs [] rfl (H x μ' hP e1 e2)))
    · replace H := H2 b4 hb5
      refine mj_aload 0 md_T_spin_38 rfl ?_
      refine mj_getf (v := va_rf (mj_r μ b1 0)) hb2 kc_L 0 (by decide) tw_129 md_T_spin_40 ht3 rfl ?_
      obtain ⟨ht6, H⟩ := H
      refine mj_getf (v := va_rf (mj_r μ b4 2)) hb5 kc_K 2 (by decide) tw_218 md_T_spin_43 ht6 rfl ?_
      refine mj_aload_n 1 md_T_spin_46 rfl ?_
      obtain ⟨H1, H2⟩ := H
      refine mj_acmp_ne (tgt := 59) md_T_spin_47 (by decide) (fun hx => ?_) (fun hx => ?_)
      · replace H := H1 hx
        refine mj_aload 0 md_T_spin_59 rfl ?_
        refine mj_aload_n 1 md_T_spin_61 rfl ?_
        obtain ⟨P, hM, H⟩ := H
        exact mj_callV (n := 1) (As := [va_rf v3]) hb2 hM kc_L ht3 ⟨tw_605, tw_7, tw_608, ⟨by decide, by decide, by decide +kernel⟩, by decide, by decide⟩ tw_606 tw_607 rfl md_T_spin_62 (by first | decide | (simp only [List.map_cons, List.map_nil, List.sum_cons, List.sum_nil, mj_rfc, mj_ci, mj_cl]; done) | (simp only [List.map_cons, List.map_nil, List.sum_cons, List.sum_nil, mj_rfc, mj_ci, mj_cl]; decide)) id (mj_kR (fun x μ' hP e1 e2 => mj_lvs [] rfl (H x μ' hP e1 e2)))
      · replace H := H2 hx
        refine mj_aload 0 md_T_spin_50 rfl ?_
        refine mj_getf (v := va_rf (mj_r μ b1 0)) hb2 kc_L 0 (by decide) tw_129 md_T_spin_52 ht3 rfl ?_
        refine mj_getf (v := .int (mj_i μ b4 0)) hb5 kc_K 0 (by decide) tw_213 md_T_spin_55 ht6 rfl ?_
        exact mj_ireturn md_T_spin_58 rfl rfl H
  · replace H := H1 hb
    refine mj_sipush (v := (-2000)) md_T_spin_26 (by decide) ?_
    exact mj_ireturn md_T_spin_29 rfl rfl H

set_option maxRecDepth 20000 in
theorem bk_T_spin_65 {G : mj_G} {Ex : Option Value → mj_MM → Prop} {N S : Nat} {μ : mj_MM} {s0 : Option Nat}
    (H : ((s0 = none → Ex (some (.int 0)) μ) ∧ (∀ b1 : Nat, s0 = some b1 → ((mj_t μ b1 = 9) ∧ Ex (some (.int (-(mj_i μ b1 0)))) μ)))) :
    mj_J G mY_T_spin Ex N S 65 [] [va_rf s0] μ := by
  refine mj_astore (lv' := [(5, va_rf s0)]) md_T_spin_65 (by decide) (by first | rfl | (simp [mj_rfc]; done) | (simp [mj_rfc]; rfl)) ?_
  refine mj_aload 0 md_T_spin_67 rfl ?_
  obtain ⟨H1, H2⟩ := H
  refine mj_ifnonnull (tgt := 76) md_T_spin_69 (by decide) (fun b1 hb2 => ?_) (fun hb => ?_)
  · replace H := H2 b1 hb2
    refine mj_aload 0 md_T_spin_76 rfl ?_
    obtain ⟨ht3, H⟩ := H
    refine mj_getf (v := .int (mj_i μ b1 0)) hb2 kc_K 0 (by decide) tw_213 md_T_spin_78 ht3 rfl ?_
    refine mj_ineg md_T_spin_81 ?_
    exact mj_ireturn md_T_spin_82 rfl rfl H
  · replace H := H1 hb
    refine mj_iconst (v := 0) md_T_spin_72 (by decide) ?_
    refine mj_goto (tgt := 82) md_T_spin_73 (by decide) ?_
    exact mj_ireturn md_T_spin_82 rfl rfl H

set_option maxRecDepth 20000 in
theorem bk_T_holder_0 {G : mj_G} {Ex : Option Value → mj_MM → Prop} {N S : Nat} {μ : mj_MM} {h0 : Nat} {v1 : Int32}
    (H : ((mj_t μ h0 = 1) ∧ (∃ P : Option Nat → mj_MM → Prop, mj_M G my_T_resourceOf mY_T_resourceOf [va_rf (some h0), .int v1] (mj_nc μ) (mj_ns μ) μ (mj_XR P) ∧ ∀ (x : Option Nat) (μ' : mj_MM), P x μ' → mj_nc μ' = mj_nc μ → mj_ns μ' = mj_ns μ → mj_J G mY_T_holder Ex N S 5 [] [va_rf x] μ'))) :
    mj_J G mY_T_holder Ex N S 0 [(0, va_rf (some h0)), (1, .int v1)] [] μ := by
  refine mj_aload_n 0 md_T_holder_0 rfl ?_
  refine mj_iload_n 1 md_T_holder_1 rfl ?_
  obtain ⟨ht1, H⟩ := H
  obtain ⟨P, hM, H⟩ := H
  exact mj_callV (n := 1) (As := [.int v1]) rfl hM kc_T ht1 ⟨tw_306, tw_1, tw_309, ⟨by decide, by decide, by decide +kernel⟩, by decide, by decide⟩ tw_308 tp_2 rfl md_T_holder_2 (by first | decide | (simp only [List.map_cons, List.map_nil, List.sum_cons, List.sum_nil, mj_rfc, mj_ci, mj_cl]; done) | (simp only [List.map_cons, List.map_nil, List.sum_cons, List.sum_nil, mj_rfc, mj_ci, mj_cl]; decide)) id (mj_kR (fun x μ' hP e1 e2 => mj_lvs [] rfl (H x μ' hP e1 e2)))

set_option maxRecDepth 20000 in
theorem bk_T_holder_5 {G : mj_G} {Ex : Option Value → mj_MM → Prop} {N S : Nat} {μ : mj_MM} {s0 : Option Nat}
    (H : ((s0 = none → Ex (some (.int (-2))) μ) ∧ (∀ b1 : Nat, s0 = some b1 → ((mj_t μ b1 = 8) ∧ ((mj_r μ b1 1 = none → Ex (some (.int 0)) μ) ∧ (∀ b4 : Nat, mj_r μ b1 1 = some b4 → ((mj_t μ b4 = 9) ∧ Ex (some (.int (mj_i μ b4 0))) μ))))))) :
    mj_J G mY_T_holder Ex N S 5 [] [va_rf s0] μ := by
  refine mj_astn (i := 2) (lv' := [(2, va_rf s0)]) md_T_holder_5 rfl (by decide) (by first | rfl | (simp [mj_rfc]; done) | (simp [mj_rfc]; rfl)) ?_
  refine mj_aload_n 0 md_T_holder_6 rfl ?_
  obtain ⟨H1, H2⟩ := H
  refine mj_ifnonnull (tgt := 13) md_T_holder_7 (by decide) (fun b1 hb2 => ?_) (fun hb => ?_)
  · replace H := H2 b1 hb2
    refine mj_aload_n 0 md_T_holder_13 rfl ?_
    obtain ⟨ht3, H⟩ := H
    refine mj_getf (v := va_rf (mj_r μ b1 1)) hb2 kc_R 1 (by decide) tw_113 md_T_holder_14 ht3 rfl ?_
    obtain ⟨H1, H2⟩ := H
    refine mj_ifnonnull (tgt := 24) md_T_holder_17 (by decide) (fun b4 hb5 => ?_) (fun hb => ?_)
    · replace H := H2 b4 hb5
      refine mj_aload_n 0 md_T_holder_24 rfl ?_
      refine mj_getf (v := va_rf (mj_r μ b1 1)) hb2 kc_R 1 (by decide) tw_113 md_T_holder_25 ht3 rfl ?_
      obtain ⟨ht6, H⟩ := H
      refine mj_getf (v := .int (mj_i μ b4 0)) hb5 kc_K 0 (by decide) tw_213 md_T_holder_28 ht6 rfl ?_
      exact mj_ireturn md_T_holder_31 rfl rfl H
    · replace H := H1 hb
      refine mj_iconst (v := 0) md_T_holder_20 (by decide) ?_
      refine mj_goto (tgt := 31) md_T_holder_21 (by decide) ?_
      exact mj_ireturn md_T_holder_31 rfl rfl H
  · replace H := H1 hb
    refine mj_bipush (v := (-2)) md_T_holder_10 (by decide) ?_
    exact mj_ireturn md_T_holder_12 rfl rfl H

set_option maxRecDepth 20000 in
theorem bk_T_coreOf_0 {G : mj_G} {Ex : Option Value → mj_MM → Prop} {N S : Nat} {μ : mj_MM} {h0 : Nat} {v1 : Int32}
    (H : ((v1 < 0 → Ex (some (va_rf none)) μ) ∧ (¬ v1 < 0 → ((mj_t μ h0 = 1) ∧ ∃ b2 : Nat, (mj_r μ h0 1 = some b2) ∧ (mj_t μ b2 = 1005) ∧ ((v1 < (nI (mj_n μ b2)) → ((vp_in v1 (mj_n μ b2)) ∧ Ex (some (va_rf (mj_r μ b2 (Int32.toNatClampNeg v1)))) μ)) ∧ (¬ v1 < (nI (mj_n μ b2)) → Ex (some (va_rf none)) μ)))))) :
    mj_J G mY_T_coreOf Ex N S 0 [(0, va_rf (some h0)), (1, .int v1)] [] μ := by
  refine mj_iload_n 1 md_T_coreOf_0 rfl ?_
  obtain ⟨H1, H2⟩ := H
  refine mj_if_lt (tgt := 13) md_T_coreOf_1 (by decide) (fun hx => ?_) (fun hx => ?_)
  · replace H := H1 hx
    refine mj_null md_T_coreOf_13 ?_
    refine mj_goto (tgt := 23) md_T_coreOf_14 (by decide) ?_
    exact mj_areturn md_T_coreOf_23 rfl (Or.inl ⟨_, rfl⟩) H
  · replace H := H2 hx
    refine mj_iload_n 1 md_T_coreOf_4 rfl ?_
    refine mj_aload_n 0 md_T_coreOf_5 rfl ?_
    obtain ⟨ht1, H⟩ := H
    refine mj_getf (v := va_rf (mj_r μ h0 1)) rfl kc_T 1 (by decide) tw_138 md_T_coreOf_6 ht1 rfl ?_
    obtain ⟨b2, hb3, H⟩ := H
    obtain ⟨ht4, H⟩ := H
    refine mj_alen (t := 5) hb3 rfl ht4 md_T_coreOf_9 ?_
    obtain ⟨H1, H2⟩ := H
    refine mj_icmp_lt (tgt := 17) md_T_coreOf_10 (by decide) (fun hx => ?_) (fun hx => ?_)
    · replace H := H1 hx
      refine mj_aload_n 0 md_T_coreOf_17 rfl ?_
      refine mj_getf (v := va_rf (mj_r μ h0 1)) rfl kc_T 1 (by decide) tw_138 md_T_coreOf_18 ht1 rfl ?_
      refine mj_iload_n 1 md_T_coreOf_21 rfl ?_
      obtain ⟨hi5, H⟩ := H
      refine mj_aald (t := 5) hb3 rfl rfl ht4 hi5 md_T_coreOf_22 ?_
      exact mj_areturn md_T_coreOf_23 rfl (Or.inl ⟨_, rfl⟩) H
    · replace H := H2 hx
      refine mj_null md_T_coreOf_13 ?_
      refine mj_goto (tgt := 23) md_T_coreOf_14 (by decide) ?_
      exact mj_areturn md_T_coreOf_23 rfl (Or.inl ⟨_, rfl⟩) H

set_option maxRecDepth 20000 in
theorem bk_T_taskOf_0 {G : mj_G} {Ex : Option Value → mj_MM → Prop} {N S : Nat} {μ : mj_MM} {h0 : Nat} {v1 : Int32}
    (H : ((v1 < 1 → Ex (some (va_rf none)) μ) ∧ (¬ v1 < 1 → ((mj_t μ h0 = 1) ∧ ∃ b2 : Nat, (mj_r μ h0 0 = some b2) ∧ (mj_t μ b2 = 1004) ∧ ((v1 < (nI (mj_n μ b2)) → ((vp_in v1 (mj_n μ b2)) ∧ Ex (some (va_rf (mj_r μ b2 (Int32.toNatClampNeg v1)))) μ)) ∧ (¬ v1 < (nI (mj_n μ b2)) → Ex (some (va_rf none)) μ)))))) :
    mj_J G mY_T_taskOf Ex N S 0 [(0, va_rf (some h0)), (1, .int v1)] [] μ := by
  refine mj_iload_n 1 md_T_taskOf_0 rfl ?_
  refine mj_iconst (v := 1) md_T_taskOf_1 (by decide) ?_
  obtain ⟨H1, H2⟩ := H
  refine mj_icmp_lt (tgt := 14) md_T_taskOf_2 (by decide) (fun hx => ?_) (fun hx => ?_)
  · replace H := H1 hx
    refine mj_null md_T_taskOf_14 ?_
    refine mj_goto (tgt := 24) md_T_taskOf_15 (by decide) ?_
    exact mj_areturn md_T_taskOf_24 rfl (Or.inl ⟨_, rfl⟩) H
  · replace H := H2 hx
    refine mj_iload_n 1 md_T_taskOf_5 rfl ?_
    refine mj_aload_n 0 md_T_taskOf_6 rfl ?_
    obtain ⟨ht1, H⟩ := H
    refine mj_getf (v := va_rf (mj_r μ h0 0)) rfl kc_T 0 (by decide) tw_137 md_T_taskOf_7 ht1 rfl ?_
    obtain ⟨b2, hb3, H⟩ := H
    obtain ⟨ht4, H⟩ := H
    refine mj_alen (t := 4) hb3 rfl ht4 md_T_taskOf_10 ?_
    obtain ⟨H1, H2⟩ := H
    refine mj_icmp_lt (tgt := 18) md_T_taskOf_11 (by decide) (fun hx => ?_) (fun hx => ?_)
    · replace H := H1 hx
      refine mj_aload_n 0 md_T_taskOf_18 rfl ?_
      refine mj_getf (v := va_rf (mj_r μ h0 0)) rfl kc_T 0 (by decide) tw_137 md_T_taskOf_19 ht1 rfl ?_
      refine mj_iload_n 1 md_T_taskOf_22 rfl ?_
      obtain ⟨hi5, H⟩ := H
      refine mj_aald (t := 4) hb3 rfl rfl ht4 hi5 md_T_taskOf_23 ?_
      exact mj_areturn md_T_taskOf_24 rfl (Or.inl ⟨_, rfl⟩) H
    · replace H := H2 hx
      refine mj_null md_T_taskOf_14 ?_
      refine mj_goto (tgt := 24) md_T_taskOf_15 (by decide) ?_
      exact mj_areturn md_T_taskOf_24 rfl (Or.inl ⟨_, rfl⟩) H

set_option maxRecDepth 20000 in
theorem bk_T_resourceOf_0 {G : mj_G} {Ex : Option Value → mj_MM → Prop} {N S : Nat} {μ : mj_MM} {h0 : Nat} {v1 : Int32}
    (H : ((v1 < 1 → Ex (some (va_rf none)) μ) ∧ (¬ v1 < 1 → ((mj_t μ h0 = 1) ∧ ∃ b2 : Nat, (mj_r μ h0 2 = some b2) ∧ (mj_t μ b2 = 1006) ∧ ((v1 < (nI (mj_n μ b2)) → ((vp_in v1 (mj_n μ b2)) ∧ Ex (some (va_rf (mj_r μ b2 (Int32.toNatClampNeg v1)))) μ)) ∧ (¬ v1 < (nI (mj_n μ b2)) → Ex (some (va_rf none)) μ)))))) :
    mj_J G mY_T_resourceOf Ex N S 0 [(0, va_rf (some h0)), (1, .int v1)] [] μ := by
  refine mj_iload_n 1 md_T_resourceOf_0 rfl ?_
  refine mj_iconst (v := 1) md_T_resourceOf_1 (by decide) ?_
  obtain ⟨H1, H2⟩ := H
  refine mj_icmp_lt (tgt := 14) md_T_resourceOf_2 (by decide) (fun hx => ?_) (fun hx => ?_)
  · replace H := H1 hx
    refine mj_null md_T_resourceOf_14 ?_
    refine mj_goto (tgt := 24) md_T_resourceOf_15 (by decide) ?_
    exact mj_areturn md_T_resourceOf_24 rfl (Or.inl ⟨_, rfl⟩) H
  · replace H := H2 hx
    refine mj_iload_n 1 md_T_resourceOf_5 rfl ?_
    refine mj_aload_n 0 md_T_resourceOf_6 rfl ?_
    obtain ⟨ht1, H⟩ := H
    refine mj_getf (v := va_rf (mj_r μ h0 2)) rfl kc_T 2 (by decide) tw_139 md_T_resourceOf_7 ht1 rfl ?_
    obtain ⟨b2, hb3, H⟩ := H
    obtain ⟨ht4, H⟩ := H
    refine mj_alen (t := 6) hb3 rfl ht4 md_T_resourceOf_10 ?_
    obtain ⟨H1, H2⟩ := H
    refine mj_icmp_lt (tgt := 18) md_T_resourceOf_11 (by decide) (fun hx => ?_) (fun hx => ?_)
    · replace H := H1 hx
      refine mj_aload_n 0 md_T_resourceOf_18 rfl ?_
      refine mj_getf (v := va_rf (mj_r μ h0 2)) rfl kc_T 2 (by decide) tw_139 md_T_resourceOf_19 ht1 rfl ?_
      refine mj_iload_n 1 md_T_resourceOf_22 rfl ?_
      obtain ⟨hi5, H⟩ := H
      refine mj_aald (t := 6) hb3 rfl rfl ht4 hi5 md_T_resourceOf_23 ?_
      exact mj_areturn md_T_resourceOf_24 rfl (Or.inl ⟨_, rfl⟩) H
    · replace H := H2 hx
      refine mj_null md_T_resourceOf_14 ?_
      refine mj_goto (tgt := 24) md_T_resourceOf_15 (by decide) ?_
      exact mj_areturn md_T_resourceOf_24 rfl (Or.inl ⟨_, rfl⟩) H

set_option maxRecDepth 20000 in
theorem bk_T_lockOf_0 {G : mj_G} {Ex : Option Value → mj_MM → Prop} {N S : Nat} {μ : mj_MM} {h0 : Nat} {v1 : Int32}
    (H : ((v1 < 1 → Ex (some (va_rf none)) μ) ∧ (¬ v1 < 1 → ((mj_t μ h0 = 1) ∧ ∃ b2 : Nat, (mj_r μ h0 3 = some b2) ∧ (mj_t μ b2 = 1007) ∧ ((v1 < (nI (mj_n μ b2)) → ((vp_in v1 (mj_n μ b2)) ∧ Ex (some (va_rf (mj_r μ b2 (Int32.toNatClampNeg v1)))) μ)) ∧ (¬ v1 < (nI (mj_n μ b2)) → Ex (some (va_rf none)) μ)))))) :
    mj_J G mY_T_lockOf Ex N S 0 [(0, va_rf (some h0)), (1, .int v1)] [] μ := by
  refine mj_iload_n 1 md_T_lockOf_0 rfl ?_
  refine mj_iconst (v := 1) md_T_lockOf_1 (by decide) ?_
  obtain ⟨H1, H2⟩ := H
  refine mj_icmp_lt (tgt := 14) md_T_lockOf_2 (by decide) (fun hx => ?_) (fun hx => ?_)
  · replace H := H1 hx
    refine mj_null md_T_lockOf_14 ?_
    refine mj_goto (tgt := 24) md_T_lockOf_15 (by decide) ?_
    exact mj_areturn md_T_lockOf_24 rfl (Or.inl ⟨_, rfl⟩) H
  · replace H := H2 hx
    refine mj_iload_n 1 md_T_lockOf_5 rfl ?_
    refine mj_aload_n 0 md_T_lockOf_6 rfl ?_
    obtain ⟨ht1, H⟩ := H
    refine mj_getf (v := va_rf (mj_r μ h0 3)) rfl kc_T 3 (by decide) tw_140 md_T_lockOf_7 ht1 rfl ?_
    obtain ⟨b2, hb3, H⟩ := H
    obtain ⟨ht4, H⟩ := H
    refine mj_alen (t := 7) hb3 rfl ht4 md_T_lockOf_10 ?_
    obtain ⟨H1, H2⟩ := H
    refine mj_icmp_lt (tgt := 18) md_T_lockOf_11 (by decide) (fun hx => ?_) (fun hx => ?_)
    · replace H := H1 hx
      refine mj_aload_n 0 md_T_lockOf_18 rfl ?_
      refine mj_getf (v := va_rf (mj_r μ h0 3)) rfl kc_T 3 (by decide) tw_140 md_T_lockOf_19 ht1 rfl ?_
      refine mj_iload_n 1 md_T_lockOf_22 rfl ?_
      obtain ⟨hi5, H⟩ := H
      refine mj_aald (t := 7) hb3 rfl rfl ht4 hi5 md_T_lockOf_23 ?_
      exact mj_areturn md_T_lockOf_24 rfl (Or.inl ⟨_, rfl⟩) H
    · replace H := H2 hx
      refine mj_null md_T_lockOf_14 ?_
      refine mj_goto (tgt := 24) md_T_lockOf_15 (by decide) ?_
      exact mj_areturn md_T_lockOf_24 rfl (Or.inl ⟨_, rfl⟩) H

set_option maxRecDepth 20000 in
theorem bk_T_isToCome_0 {G : mj_G} {Ex : Option Value → mj_MM → Prop} {N S : Nat} {μ : mj_MM} {h0 : Nat} {v1 : Int64}
    (H : ((mj_t μ h0 = 1) ∧ ((v1 < (Int32.toInt64 (mj_i μ h0 12)) → Ex (some (.int 0)) μ) ∧ (¬ v1 < (Int32.toInt64 (mj_i μ h0 12)) → ((50000 < v1 → Ex (some (.int 0)) μ) ∧ (¬ 50000 < v1 → Ex (some (.int 1)) μ)))))) :
    mj_J G mY_T_isToCome Ex N S 0 [(0, va_rf (some h0)), (1, .long v1)] [] μ := by
  refine mj_lload_n 1 md_T_isToCome_0 rfl ?_
  refine mj_aload_n 0 md_T_isToCome_1 rfl ?_
  obtain ⟨ht1, H⟩ := H
  refine mj_getf (v := .int (mj_i μ h0 12)) rfl kc_T 12 (by decide) tw_149 md_T_isToCome_2 ht1 rfl ?_
  refine mj_i2l md_T_isToCome_5 ?_
  refine mj_lcmp md_T_isToCome_6 ?_
  obtain ⟨H1, H2⟩ := H
  refine mj_if_lt (tgt := 22) md_T_isToCome_7 (by decide) (fun hx => ?_) (fun hx => ?_)
  · replace H := H1 ((lg_cmp_lt v1 (Int32.toInt64 (mj_i μ h0 12))).mp hx)
    refine mj_iconst (v := 0) md_T_isToCome_22 (by decide) ?_
    exact mj_ireturn md_T_isToCome_23 rfl (by decide) H
  · replace H := H2 (fun hy => hx ((lg_cmp_lt v1 (Int32.toInt64 (mj_i μ h0 12))).mpr hy))
    refine mj_lload_n 1 md_T_isToCome_10 rfl ?_
    refine mj_ldc2 (v := 50000) tw_329 md_T_isToCome_11 ?_
    refine mj_lcmp md_T_isToCome_14 ?_
    obtain ⟨H1, H2⟩ := H
    refine mj_if_gt (tgt := 22) md_T_isToCome_15 (by decide) (fun hx => ?_) (fun hx => ?_)
    · replace H := H1 ((lg_cmp_gt v1 50000).mp hx)
      refine mj_iconst (v := 0) md_T_isToCome_22 (by decide) ?_
      exact mj_ireturn md_T_isToCome_23 rfl (by decide) H
    · replace H := H2 (fun hy => hx ((lg_cmp_gt v1 50000).mpr hy))
      refine mj_iconst (v := 1) md_T_isToCome_18 (by decide) ?_
      refine mj_goto (tgt := 23) md_T_isToCome_19 (by decide) ?_
      exact mj_ireturn md_T_isToCome_23 rfl (by decide) H

set_option maxRecDepth 20000 in
theorem bk_T_mayBePart_0 {G : mj_G} {Ex : Option Value → mj_MM → Prop} {N S : Nat} {μ : mj_MM} {v0 : Int32} {v1 : Int64}
    (H : ((v0 < 0 → Ex (some (.int 0)) μ) ∧ (¬ v0 < 0 → (((nI (G.2.2.1.2 0).2.1) ≤ v0 → Ex (some (.int 0)) μ) ∧ (¬ (nI (G.2.2.1.2 0).2.1) ≤ v0 → ((v0 < (nI (G.2.2.1.2 1).2.1) → ((vp_in v0 (G.2.2.1.2 0).2.1) ∧ ((v1 < (Int32.toInt64 ((G.2.2.1.2 0).2.2 (Int32.toNatClampNeg v0))) → Ex (some (.int 0)) μ) ∧ (¬ v1 < (Int32.toInt64 ((G.2.2.1.2 0).2.2 (Int32.toNatClampNeg v0))) → ((vp_in v0 (G.2.2.1.2 1).2.1) ∧ ((v1 ≤ (Int32.toInt64 ((G.2.2.1.2 1).2.2 (Int32.toNatClampNeg v0))) → ((¬ v0 = 4 → Ex (some (.int 1)) μ) ∧ (v0 = 4 → (((v1 - v1 / 65536 * 65536) = 0 → Ex (some (.int 0)) μ) ∧ (¬ (v1 - v1 / 65536 * 65536) = 0 → Ex (some (.int 1)) μ))))) ∧ (¬ v1 ≤ (Int32.toInt64 ((G.2.2.1.2 1).2.2 (Int32.toNatClampNeg v0))) → Ex (some (.int 0)) μ))))))) ∧ (¬ v0 < (nI (G.2.2.1.2 1).2.1) → Ex (some (.int 0)) μ))))))) :
    mj_J G mY_T_mayBePart Ex N S 0 [(0, .int v0), (1, .long v1)] [] μ := by
  refine mj_iload_n 0 md_T_mayBePart_0 rfl ?_
  obtain ⟨H1, H2⟩ := H
  refine mj_if_lt (tgt := 20) md_T_mayBePart_1 (by decide) (fun hx => ?_) (fun hx => ?_)
  · replace H := H1 hx
    refine mj_iconst (v := 0) md_T_mayBePart_20 (by decide) ?_
    exact mj_ireturn md_T_mayBePart_21 rfl (by decide) H
  · replace H := H2 hx
    refine mj_iload_n 0 md_T_mayBePart_4 rfl ?_
    refine mj_gets (j := 0) (by decide) rfl tw_301 md_T_mayBePart_5 ?_
    refine mj_oldlen (j := 0) rfl (by decide) rfl md_T_mayBePart_8 ?_
    obtain ⟨H1, H2⟩ := H
    refine mj_icmp_ge (tgt := 20) md_T_mayBePart_9 (by decide) (fun hx => ?_) (fun hx => ?_)
    · replace H := H1 hx
      refine mj_iconst (v := 0) md_T_mayBePart_20 (by decide) ?_
      exact mj_ireturn md_T_mayBePart_21 rfl (by decide) H
    · replace H := H2 hx
      refine mj_iload_n 0 md_T_mayBePart_12 rfl ?_
      refine mj_gets (j := 1) (by decide) rfl tw_303 md_T_mayBePart_13 ?_
      refine mj_oldlen (j := 1) rfl (by decide) rfl md_T_mayBePart_16 ?_
      obtain ⟨H1, H2⟩ := H
      refine mj_icmp_lt (tgt := 22) md_T_mayBePart_17 (by decide) (fun hx => ?_) (fun hx => ?_)
      · replace H := H1 hx
        refine mj_lload_n 1 md_T_mayBePart_22 rfl ?_
        refine mj_gets (j := 0) (by decide) rfl tw_301 md_T_mayBePart_23 ?_
        refine mj_iload_n 0 md_T_mayBePart_26 rfl ?_
        obtain ⟨hi1, H⟩ := H
        refine mj_oldld (j := 0) rfl (by decide) rfl hi1 md_T_mayBePart_27 ?_
        refine mj_i2l md_T_mayBePart_28 ?_
        refine mj_lcmp md_T_mayBePart_29 ?_
        obtain ⟨H1, H2⟩ := H
        refine mj_if_lt (tgt := 44) md_T_mayBePart_30 (by decide) (fun hx => ?_) (fun hx => ?_)
        · replace H := H1 ((lg_cmp_lt v1 (Int32.toInt64 ((G.2.2.1.2 0).2.2 (Int32.toNatClampNeg v0)))).mp hx)
          refine mj_iconst (v := 0) md_T_mayBePart_44 (by decide) ?_
          exact mj_ireturn md_T_mayBePart_45 rfl (by decide) H
        · replace H := H2 (fun hy => hx ((lg_cmp_lt v1 (Int32.toInt64 ((G.2.2.1.2 0).2.2 (Int32.toNatClampNeg v0)))).mpr hy))
          refine mj_lload_n 1 md_T_mayBePart_33 rfl ?_
          refine mj_gets (j := 1) (by decide) rfl tw_303 md_T_mayBePart_34 ?_
          refine mj_iload_n 0 md_T_mayBePart_37 rfl ?_
          obtain ⟨hi2, H⟩ := H
          refine mj_oldld (j := 1) rfl (by decide) rfl hi2 md_T_mayBePart_38 ?_
          refine mj_i2l md_T_mayBePart_39 ?_
          refine mj_lcmp md_T_mayBePart_40 ?_
          obtain ⟨H1, H2⟩ := H
          refine mj_if_le (tgt := 46) md_T_mayBePart_41 (by decide) (fun hx => ?_) (fun hx => ?_)
          · replace H := H1 ((lg_cmp_le v1 (Int32.toInt64 ((G.2.2.1.2 1).2.2 (Int32.toNatClampNeg v0)))).mp hx)
            refine mj_iload_n 0 md_T_mayBePart_46 rfl ?_
            refine mj_iconst (v := 4) md_T_mayBePart_47 (by decide) ?_
            obtain ⟨H1, H2⟩ := H
            refine mj_icmp_ne (tgt := 61) md_T_mayBePart_48 (by decide) (fun hx => ?_) (fun hx => ?_)
            · replace H := H1 hx
              refine mj_iconst (v := 1) md_T_mayBePart_61 (by decide) ?_
              refine mj_goto (tgt := 66) md_T_mayBePart_62 (by decide) ?_
              exact mj_ireturn md_T_mayBePart_66 rfl (by decide) H
            · replace H := H2 hx
              refine mj_lload_n 1 md_T_mayBePart_51 rfl ?_
              refine mj_ldc2 (v := 65536) tw_305 md_T_mayBePart_52 ?_
              refine mj_lrem md_T_mayBePart_55 (by decide) ?_
              refine mj_lconst (v := 0) md_T_mayBePart_56 (by decide) ?_
              refine mj_lcmp md_T_mayBePart_57 ?_
              obtain ⟨H1, H2⟩ := H
              refine mj_if_eq (tgt := 65) md_T_mayBePart_58 (by decide) (fun hx => ?_) (fun hx => ?_)
              · replace H := H1 ((lg_cmp_eq (v1 - v1 / 65536 * 65536) 0).mp hx)
                refine mj_iconst (v := 0) md_T_mayBePart_65 (by decide) ?_
                exact mj_ireturn md_T_mayBePart_66 rfl (by decide) H
              · replace H := H2 (fun hy => hx ((lg_cmp_eq (v1 - v1 / 65536 * 65536) 0).mpr hy))
                refine mj_iconst (v := 1) md_T_mayBePart_61 (by decide) ?_
                refine mj_goto (tgt := 66) md_T_mayBePart_62 (by decide) ?_
                exact mj_ireturn md_T_mayBePart_66 rfl (by decide) H
          · replace H := H2 (fun hy => hx ((lg_cmp_le v1 (Int32.toInt64 ((G.2.2.1.2 1).2.2 (Int32.toNatClampNeg v0)))).mpr hy))
            refine mj_iconst (v := 0) md_T_mayBePart_44 (by decide) ?_
            exact mj_ireturn md_T_mayBePart_45 rfl (by decide) H
      · replace H := H2 hx
        refine mj_iconst (v := 0) md_T_mayBePart_20 (by decide) ?_
        exact mj_ireturn md_T_mayBePart_21 rfl (by decide) H

set_option maxRecDepth 20000 in
theorem bk_T_addTelling_0 {G : mj_G} {Ex : Option Value → mj_MM → Prop} {N S : Nat} {μ : mj_MM} {h0 : Nat} {v1 : Option Nat}
    (H : ((mj_t μ h0 = 1) ∧ mj_J G mY_T_addTelling Ex N S 7 [(0, va_rf (some h0)), (1, va_rf v1), (2, va_rf none), (3, va_rf (mj_r μ h0 7))] [] μ)) :
    mj_J G mY_T_addTelling Ex N S 0 [(0, va_rf (some h0)), (1, va_rf v1)] [] μ := by
  refine mj_null md_T_addTelling_0 ?_
  refine mj_astn (i := 2) (lv' := [(2, va_rf none), (0, va_rf (some h0)), (1, va_rf v1)]) md_T_addTelling_1 rfl (by decide) (by first | rfl | (simp [mj_rfc]; done) | (simp [mj_rfc]; rfl)) ?_
  refine mj_aload_n 1 md_T_addTelling_2 rfl ?_
  obtain ⟨ht1, H⟩ := H
  refine mj_getf (v := va_rf (mj_r μ h0 7)) rfl kc_T 7 (by decide) tw_144 md_T_addTelling_3 ht1 rfl ?_
  refine mj_astn (i := 3) (lv' := [(3, va_rf (mj_r μ h0 7)), (2, va_rf none), (0, va_rf (some h0)), (1, va_rf v1)]) md_T_addTelling_6 rfl (by decide) (by first | rfl | (simp [mj_rfc]; done) | (simp [mj_rfc]; rfl)) ?_
  exact mj_lvs [2, 3, 1, 0] rfl H

set_option maxRecDepth 20000 in
theorem bk_T_addTelling_7 {G : mj_G} {Ex : Option Value → mj_MM → Prop} {N S : Nat} {μ : mj_MM} {h0 : Nat} {v1 : Option Nat} {v2 : Option Nat} {v3 : Option Nat}
    (H : ((v3 = none → ((v2 = none → ((mj_t μ h0 = 1) ∧ ∃ b6 : Nat, (v1 = some b6) ∧ (mj_t μ b6 = 10) ∧ Ex none (mj_pR (mj_pR μ b6 2 (mj_r μ h0 7)) h0 7 v1))) ∧ (∀ b3 : Nat, v2 = some b3 → ((mj_t μ b3 = 10) ∧ ∃ b10 : Nat, (v1 = some b10) ∧ (mj_t μ b10 = 10) ∧ Ex none (mj_pR (mj_pR μ b10 2 (mj_r μ b3 2)) b3 2 v1))))) ∧ (∀ b1 : Nat, v3 = some b1 → ((mj_t μ b1 = 10) ∧ ∃ b14 : Nat, (v1 = some b14) ∧ (mj_t μ b14 = 10) ∧ (((mj_i μ b14 1) < (mj_i μ b1 1) → ((v2 = none → ((mj_t μ h0 = 1) ∧ Ex none (mj_pR (mj_pR μ b14 2 (mj_r μ h0 7)) h0 7 v1))) ∧ (∀ b17 : Nat, v2 = some b17 → ((mj_t μ b17 = 10) ∧ Ex none (mj_pR (mj_pR μ b14 2 (mj_r μ b17 2)) b17 2 v1))))) ∧ (¬ (mj_i μ b14 1) < (mj_i μ b1 1) → mj_J G mY_T_addTelling Ex N S 7 [(0, va_rf (some h0)), (1, va_rf v1), (2, va_rf v3), (3, va_rf (mj_r μ b1 2))] [] μ)))))) :
    mj_J G mY_T_addTelling Ex N S 7 [(0, va_rf (some h0)), (1, va_rf v1), (2, va_rf v2), (3, va_rf v3)] [] μ := by
  refine mj_aload_n 3 md_T_addTelling_7 rfl ?_
  obtain ⟨H1, H2⟩ := H
  refine mj_ifnull (tgt := 32) md_T_addTelling_8 (by decide) (fun hb => ?_) (fun b1 hb2 => ?_)
  · replace H := H1 hb
    refine mj_aload_n 2 md_T_addTelling_32 rfl ?_
    obtain ⟨H1, H2⟩ := H
    refine mj_ifnonnull (tgt := 52) md_T_addTelling_33 (by decide) (fun b3 hb4 => ?_) (fun hb => ?_)
    · replace H := H2 b3 hb4
      refine mj_aload_n 1 md_T_addTelling_52 rfl ?_
      refine mj_aload_n 2 md_T_addTelling_53 rfl ?_
      obtain ⟨ht9, H⟩ := H
      refine mj_getf (v := va_rf (mj_r μ b3 2)) hb4 kc_E 2 (by decide) tw_340 md_T_addTelling_54 ht9 rfl ?_
      obtain ⟨b10, hb11, H⟩ := H
      obtain ⟨ht12, H⟩ := H
      refine mj_putR hb11 kc_E 2 (by decide) rfl tw_340 md_T_addTelling_57 (Or.inl rfl) ht12 ?_
      refine mj_aload_n 2 md_T_addTelling_60 rfl ?_
      refine mj_aload_n 1 md_T_addTelling_61 rfl ?_
      refine mj_putR hb4 kc_E 2 (by decide) rfl tw_340 md_T_addTelling_62 (Or.inl rfl) ht9 ?_
      exact mj_return md_T_addTelling_65 rfl H
    · replace H := H1 hb
      refine mj_aload_n 1 md_T_addTelling_36 rfl ?_
      refine mj_aload_n 0 md_T_addTelling_37 rfl ?_
      obtain ⟨ht5, H⟩ := H
      refine mj_getf (v := va_rf (mj_r μ h0 7)) rfl kc_T 7 (by decide) tw_144 md_T_addTelling_38 ht5 rfl ?_
      obtain ⟨b6, hb7, H⟩ := H
      obtain ⟨ht8, H⟩ := H
      refine mj_putR hb7 kc_E 2 (by decide) rfl tw_340 md_T_addTelling_41 (Or.inl rfl) ht8 ?_
      refine mj_aload_n 0 md_T_addTelling_44 rfl ?_
      refine mj_aload_n 1 md_T_addTelling_45 rfl ?_
      refine mj_putR rfl kc_T 7 (by decide) rfl tw_144 md_T_addTelling_46 (Or.inl rfl) ht5 ?_
      refine mj_goto (tgt := 65) md_T_addTelling_49 (by decide) ?_
      exact mj_return md_T_addTelling_65 rfl H
  · replace H := H2 b1 hb2
    refine mj_aload_n 3 md_T_addTelling_11 rfl ?_
    obtain ⟨ht13, H⟩ := H
    refine mj_getf (v := .int (mj_i μ b1 1)) hb2 kc_E 1 (by decide) tw_339 md_T_addTelling_12 ht13 rfl ?_
    refine mj_aload_n 1 md_T_addTelling_15 rfl ?_
    obtain ⟨b14, hb15, H⟩ := H
    obtain ⟨ht16, H⟩ := H
    refine mj_getf (v := .int (mj_i μ b14 1)) hb15 kc_E 1 (by decide) tw_339 md_T_addTelling_16 ht16 rfl ?_
    obtain ⟨H1, H2⟩ := H
    refine mj_icmp_gt (tgt := 32) md_T_addTelling_19 (by decide) (fun hx => ?_) (fun hx => ?_)
    · replace H := H1 hx
      refine mj_aload_n 2 md_T_addTelling_32 rfl ?_
      obtain ⟨H1, H2⟩ := H
      refine mj_ifnonnull (tgt := 52) md_T_addTelling_33 (by decide) (fun b17 hb18 => ?_) (fun hb => ?_)
      · replace H := H2 b17 hb18
        refine mj_aload_n 1 md_T_addTelling_52 rfl ?_
        refine mj_aload_n 2 md_T_addTelling_53 rfl ?_
        obtain ⟨ht20, H⟩ := H
        refine mj_getf (v := va_rf (mj_r μ b17 2)) hb18 kc_E 2 (by decide) tw_340 md_T_addTelling_54 ht20 rfl ?_
        refine mj_putR hb15 kc_E 2 (by decide) rfl tw_340 md_T_addTelling_57 (Or.inl rfl) ht16 ?_
        refine mj_aload_n 2 md_T_addTelling_60 rfl ?_
        refine mj_aload_n 1 md_T_addTelling_61 rfl ?_
        refine mj_putR hb18 kc_E 2 (by decide) rfl tw_340 md_T_addTelling_62 (Or.inl rfl) ht20 ?_
        exact mj_return md_T_addTelling_65 rfl H
      · replace H := H1 hb
        refine mj_aload_n 1 md_T_addTelling_36 rfl ?_
        refine mj_aload_n 0 md_T_addTelling_37 rfl ?_
        obtain ⟨ht19, H⟩ := H
        refine mj_getf (v := va_rf (mj_r μ h0 7)) rfl kc_T 7 (by decide) tw_144 md_T_addTelling_38 ht19 rfl ?_
        refine mj_putR hb15 kc_E 2 (by decide) rfl tw_340 md_T_addTelling_41 (Or.inl rfl) ht16 ?_
        refine mj_aload_n 0 md_T_addTelling_44 rfl ?_
        refine mj_aload_n 1 md_T_addTelling_45 rfl ?_
        refine mj_putR rfl kc_T 7 (by decide) rfl tw_144 md_T_addTelling_46 (Or.inl rfl) ht19 ?_
        refine mj_goto (tgt := 65) md_T_addTelling_49 (by decide) ?_
        exact mj_return md_T_addTelling_65 rfl H
    · replace H := H2 hx
      refine mj_aload_n 3 md_T_addTelling_22 rfl ?_
      refine mj_astn (i := 2) (lv' := [(2, va_rf v3), (0, va_rf (some h0)), (1, va_rf v1), (3, va_rf v3)]) md_T_addTelling_23 rfl (by decide) (by first | rfl | (simp [mj_rfc]; done) | (simp [mj_rfc]; rfl)) ?_
      refine mj_aload_n 3 md_T_addTelling_24 rfl ?_
      refine mj_getf (v := va_rf (mj_r μ b1 2)) hb2 kc_E 2 (by decide) tw_340 md_T_addTelling_25 ht13 rfl ?_
      refine mj_astn (i := 3) (lv' := [(3, va_rf (mj_r μ b1 2)), (2, va_rf v3), (0, va_rf (some h0)), (1, va_rf v1)]) md_T_addTelling_28 rfl (by decide) (by first | rfl | (simp [mj_rfc]; done) | (simp [mj_rfc]; rfl)) ?_
      refine mj_goto (tgt := 7) md_T_addTelling_29 (by decide) ?_
      exact mj_lvs [2, 3, 1, 0] rfl H

set_option maxRecDepth 20000 in
theorem bk_T_activateThoseTold_0 {G : mj_G} {Ex : Option Value → mj_MM → Prop} {N S : Nat} {μ : mj_MM} {h0 : Nat}
    (H : ((mj_t μ h0 = 1) ∧ mj_J G mY_T_activateThoseTold Ex N S 5 [(0, va_rf (some h0)), (1, va_rf (mj_r μ h0 7))] [] μ)) :
    mj_J G mY_T_activateThoseTold Ex N S 0 [(0, va_rf (some h0))] [] μ := by
  refine mj_aload_n 0 md_T_activateThoseTold_0 rfl ?_
  obtain ⟨ht1, H⟩ := H
  refine mj_getf (v := va_rf (mj_r μ h0 7)) rfl kc_T 7 (by decide) tw_144 md_T_activateThoseTold_1 ht1 rfl ?_
  refine mj_astn (i := 1) (lv' := [(1, va_rf (mj_r μ h0 7)), (0, va_rf (some h0))]) md_T_activateThoseTold_4 rfl (by decide) (by first | rfl | (simp [mj_rfc]; done) | (simp [mj_rfc]; rfl)) ?_
  exact mj_lvs [1, 0] rfl H

set_option maxRecDepth 20000 in
theorem bk_T_activateThoseTold_5 {G : mj_G} {Ex : Option Value → mj_MM → Prop} {N S : Nat} {μ : mj_MM} {h0 : Nat} {v1 : Option Nat}
    (H : ((v1 = none → Ex none μ) ∧ (∀ b1 : Nat, v1 = some b1 → ((mj_t μ b1 = 10) ∧ (mj_t μ h0 = 1) ∧ (((mj_i μ h0 12) < (mj_i μ b1 1) → Ex none μ) ∧ (¬ (mj_i μ h0 12) < (mj_i μ b1 1) → (∃ (N' S' : Nat) (P : mj_MM → Prop), mj_M G my_T_activateTask mY_T_activateTask [va_rf (some h0), va_rf (mj_r μ b1 0)] N' S' (mj_pR μ h0 7 (mj_r μ b1 2)) (mj_XV P) ∧ (N' ≤ N ∧ S' ≤ S) ∧ ∀ (μ' : mj_MM), P μ' → mj_nc μ' = N' → mj_ns μ' = S' → mj_J G mY_T_activateThoseTold Ex N S 36 [(0, va_rf (some h0)), (1, va_rf v1)] [] μ'))))))) :
    mj_J G mY_T_activateThoseTold Ex N S 5 [(0, va_rf (some h0)), (1, va_rf v1)] [] μ := by
  refine mj_aload_n 1 md_T_activateThoseTold_5 rfl ?_
  obtain ⟨H1, H2⟩ := H
  refine mj_ifnull (tgt := 44) md_T_activateThoseTold_6 (by decide) (fun hb => ?_) (fun b1 hb2 => ?_)
  · replace H := H1 hb
    exact mj_return md_T_activateThoseTold_44 rfl H
  · replace H := H2 b1 hb2
    refine mj_aload_n 1 md_T_activateThoseTold_9 rfl ?_
    obtain ⟨ht3, H⟩ := H
    refine mj_getf (v := .int (mj_i μ b1 1)) hb2 kc_E 1 (by decide) tw_339 md_T_activateThoseTold_10 ht3 rfl ?_
    refine mj_aload_n 0 md_T_activateThoseTold_13 rfl ?_
    obtain ⟨ht4, H⟩ := H
    refine mj_getf (v := .int (mj_i μ h0 12)) rfl kc_T 12 (by decide) tw_149 md_T_activateThoseTold_14 ht4 rfl ?_
    obtain ⟨H1, H2⟩ := H
    refine mj_icmp_gt (tgt := 44) md_T_activateThoseTold_17 (by decide) (fun hx => ?_) (fun hx => ?_)
    · replace H := H1 hx
      exact mj_return md_T_activateThoseTold_44 rfl H
    · replace H := H2 hx
      refine mj_aload_n 0 md_T_activateThoseTold_20 rfl ?_
      refine mj_aload_n 1 md_T_activateThoseTold_21 rfl ?_
      refine mj_getf (v := va_rf (mj_r μ b1 2)) hb2 kc_E 2 (by decide) tw_340 md_T_activateThoseTold_22 ht3 rfl ?_
      refine mj_putR rfl kc_T 7 (by decide) rfl tw_144 md_T_activateThoseTold_25 (Or.inl rfl) ht4 ?_
      refine mj_aload_n 0 md_T_activateThoseTold_28 rfl ?_
      refine mj_aload_n 1 md_T_activateThoseTold_29 rfl ?_
      refine mj_getf (v := va_rf (mj_r μ b1 0)) hb2 kc_E 0 (by decide) tw_337 md_T_activateThoseTold_30 ht3 rfl ?_
      obtain ⟨N', S', P, hM, hNS, H⟩ := H
      exact mj_callV (n := 1) (As := [va_rf (mj_r μ b1 0)]) rfl hM kc_T ht4 ⟨tw_393, tw_1, tw_396, ⟨by decide, by decide, by decide +kernel⟩, by decide, by decide⟩ tw_395 tp_6 rfl md_T_activateThoseTold_33 (by first | decide | (simp only [List.map_cons, List.map_nil, List.sum_cons, List.sum_nil, mj_rfc, mj_ci, mj_cl]; done) | (simp only [List.map_cons, List.map_nil, List.sum_cons, List.sum_nil, mj_rfc, mj_ci, mj_cl]; decide)) (fun _ => hNS) (mj_kV (fun μ' hP e1 e2 => mj_lvs [0, 1] rfl (H μ' hP e1 e2)))

set_option maxRecDepth 20000 in
theorem bk_T_activateThoseTold_36 {G : mj_G} {Ex : Option Value → mj_MM → Prop} {N S : Nat} {μ : mj_MM} {h0 : Nat} {v1 : Option Nat}
    (H : (∃ b1 : Nat, (v1 = some b1) ∧ (mj_t μ b1 = 10) ∧ mj_J G mY_T_activateThoseTold Ex N S 5 [(0, va_rf (some h0)), (1, va_rf (mj_r μ b1 2))] [] μ)) :
    mj_J G mY_T_activateThoseTold Ex N S 36 [(0, va_rf (some h0)), (1, va_rf v1)] [] μ := by
  refine mj_aload_n 1 md_T_activateThoseTold_36 rfl ?_
  obtain ⟨b1, hb2, H⟩ := H
  obtain ⟨ht3, H⟩ := H
  refine mj_getf (v := va_rf (mj_r μ b1 2)) hb2 kc_E 2 (by decide) tw_340 md_T_activateThoseTold_37 ht3 rfl ?_
  refine mj_astn (i := 1) (lv' := [(1, va_rf (mj_r μ b1 2)), (0, va_rf (some h0))]) md_T_activateThoseTold_40 rfl (by decide) (by first | rfl | (simp [mj_rfc]; done) | (simp [mj_rfc]; rfl)) ?_
  refine mj_goto (tgt := 5) md_T_activateThoseTold_41 (by decide) ?_
  exact mj_lvs [1, 0] rfl H

set_option maxRecDepth 20000 in
theorem bk_T_takeSteps_0 {G : mj_G} {Ex : Option Value → mj_MM → Prop} {N S : Nat} {μ : mj_MM} {h0 : Nat}
    (H : mj_J G mY_T_takeSteps Ex N S 4 [(0, va_rf (some h0)), (1, .int 1), (2, .int 0)] [] μ) :
    mj_J G mY_T_takeSteps Ex N S 0 [(0, va_rf (some h0))] [] μ := by
  refine mj_iconst (v := 1) md_T_takeSteps_0 (by decide) ?_
  refine mj_istn (i := 1) (lv' := [(1, .int 1), (0, va_rf (some h0))]) md_T_takeSteps_1 rfl (by decide) (by first | rfl | (simp [mj_rfc]; done) | (simp [mj_rfc]; rfl)) ?_
  refine mj_iconst (v := 0) md_T_takeSteps_2 (by decide) ?_
  refine mj_istn (i := 2) (lv' := [(2, .int 0), (1, .int 1), (0, va_rf (some h0))]) md_T_takeSteps_3 rfl (by decide) (by first | rfl | (simp [mj_rfc]; done) | (simp [mj_rfc]; rfl)) ?_
  exact mj_lvs [2, 1, 0] rfl H

set_option maxRecDepth 20000 in
theorem bk_T_takeSteps_4 {G : mj_G} {Ex : Option Value → mj_MM → Prop} {N S : Nat} {μ : mj_MM} {h0 : Nat} {v1 : Int32} {v2 : Int32}
    (H : ((v1 = 0 → Ex none μ) ∧ (¬ v1 = 0 → ((1000 ≤ v2 → Ex none μ) ∧ (¬ 1000 ≤ v2 → ((mj_t μ h0 = 1) ∧ ∃ b2 : Nat, (mj_r μ h0 1 = some b2) ∧ (mj_t μ b2 = 1005) ∧ mj_J G mY_T_takeSteps Ex N S 29 [(0, va_rf (some h0)), (1, .int 0), (2, .int v2), (3, va_rf (mj_r μ h0 1)), (4, .int (nI (mj_n μ b2))), (5, .int 0)] [] μ)))))) :
    mj_J G mY_T_takeSteps Ex N S 4 [(0, va_rf (some h0)), (1, .int v1), (2, .int v2)] [] μ := by
  refine mj_iload_n 1 md_T_takeSteps_4 rfl ?_
  obtain ⟨H1, H2⟩ := H
  refine mj_if_eq (tgt := 100) md_T_takeSteps_5 (by decide) (fun hx => ?_) (fun hx => ?_)
  · replace H := H1 hx
    exact mj_return md_T_takeSteps_100 rfl H
  · replace H := H2 hx
    refine mj_iload_n 2 md_T_takeSteps_8 rfl ?_
    refine mj_sipush (v := 1000) md_T_takeSteps_9 (by decide) ?_
    obtain ⟨H1, H2⟩ := H
    refine mj_icmp_ge (tgt := 100) md_T_takeSteps_12 (by decide) (fun hx => ?_) (fun hx => ?_)
    · replace H := H1 hx
      exact mj_return md_T_takeSteps_100 rfl H
    · replace H := H2 hx
      refine mj_iconst (v := 0) md_T_takeSteps_15 (by decide) ?_
      refine mj_istn (i := 1) (lv' := [(1, .int 0), (0, va_rf (some h0)), (2, .int v2)]) md_T_takeSteps_16 rfl (by decide) (by first | rfl | (simp [mj_rfc]; done) | (simp [mj_rfc]; rfl)) ?_
      refine mj_aload_n 1 md_T_takeSteps_17 rfl ?_
      obtain ⟨ht1, H⟩ := H
      refine mj_getf (v := va_rf (mj_r μ h0 1)) rfl kc_T 1 (by decide) tw_138 md_T_takeSteps_18 ht1 rfl ?_
      refine mj_astn (i := 3) (lv' := [(3, va_rf (mj_r μ h0 1)), (1, .int 0), (0, va_rf (some h0)), (2, .int v2)]) md_T_takeSteps_21 rfl (by decide) (by first | rfl | (simp [mj_rfc]; done) | (simp [mj_rfc]; rfl)) ?_
      refine mj_aload_n 0 md_T_takeSteps_22 rfl ?_
      obtain ⟨b2, hb3, H⟩ := H
      obtain ⟨ht4, H⟩ := H
      refine mj_alen (t := 5) hb3 rfl ht4 md_T_takeSteps_23 ?_
      refine mj_istore (lv' := [(4, .int (nI (mj_n μ b2))), (3, va_rf (mj_r μ h0 1)), (1, .int 0), (0, va_rf (some h0)), (2, .int v2)]) md_T_takeSteps_24 (by decide) (by first | rfl | (simp [mj_rfc]; done) | (simp [mj_rfc]; rfl)) ?_
      refine mj_iconst (v := 0) md_T_takeSteps_26 (by decide) ?_
      refine mj_istore (lv' := [(5, .int 0), (4, .int (nI (mj_n μ b2))), (3, va_rf (mj_r μ h0 1)), (1, .int 0), (0, va_rf (some h0)), (2, .int v2)]) md_T_takeSteps_27 (by decide) (by first | rfl | (simp [mj_rfc]; done) | (simp [mj_rfc]; rfl)) ?_
      exact mj_lvs [4, 3, 5, 2, 1, 0] rfl H

set_option maxRecDepth 20000 in
theorem bk_T_takeSteps_29 {G : mj_G} {Ex : Option Value → mj_MM → Prop} {N S : Nat} {μ : mj_MM} {h0 : Nat} {v1 : Int32} {v2 : Int32} {v3 : Option Nat} {v4 : Int32} {v5 : Int32}
    (H : ((v4 ≤ v5 → mj_J G mY_T_takeSteps Ex N S 4 [(0, va_rf (some h0)), (1, .int v1), (2, .int (v2 + 1))] [] μ) ∧ (¬ v4 ≤ v5 → (∃ b1 : Nat, (v3 = some b1) ∧ (mj_t μ b1 = 1005) ∧ (vp_in v5 (mj_n μ b1)) ∧ (mj_t μ h0 = 1) ∧ (∃ P : Option Nat → mj_MM → Prop, mj_M G my_T_taskWithStep mY_T_taskWithStep [va_rf (some h0), va_rf (mj_r μ b1 (Int32.toNatClampNeg v5))] (mj_nc μ) (mj_ns μ) μ (mj_XR P) ∧ ∀ (x : Option Nat) (μ' : mj_MM), P x μ' → mj_nc μ' = mj_nc μ → mj_ns μ' = mj_ns μ → mj_J G mY_T_takeSteps Ex N S 48 [(0, va_rf (some h0)), (1, .int v1), (2, .int v2), (3, va_rf v3), (4, .int v4), (5, .int v5), (6, va_rf (mj_r μ b1 (Int32.toNatClampNeg v5)))] [va_rf x] μ'))))) :
    mj_J G mY_T_takeSteps Ex N S 29 [(0, va_rf (some h0)), (1, .int v1), (2, .int v2), (3, va_rf v3), (4, .int v4), (5, .int v5)] [] μ := by
  refine mj_iload 5 md_T_takeSteps_29 rfl ?_
  refine mj_iload 4 md_T_takeSteps_31 rfl ?_
  obtain ⟨H1, H2⟩ := H
  refine mj_icmp_ge (tgt := 94) md_T_takeSteps_33 (by decide) (fun hx => ?_) (fun hx => ?_)
  · replace H := H1 hx
    refine mj_iinc (j := 2) (v := v2 + 1) (lv' := [(2, .int (v2 + 1)), (0, va_rf (some h0)), (1, .int v1), (3, va_rf v3), (4, .int v4), (5, .int v5)]) md_T_takeSteps_94 rfl rfl (by decide) (by first | rfl | (simp [mj_rfc]; done) | (simp [mj_rfc]; rfl)) ?_
    refine mj_goto (tgt := 4) md_T_takeSteps_97 (by decide) ?_
    exact mj_lvs [1, 2, 0] rfl H
  · replace H := H2 hx
    refine mj_aload_n 3 md_T_takeSteps_36 rfl ?_
    refine mj_iload 5 md_T_takeSteps_37 rfl ?_
    obtain ⟨b1, hb2, H⟩ := H
    obtain ⟨ht3, H⟩ := H
    obtain ⟨hi4, H⟩ := H
    refine mj_aald (t := 5) hb2 rfl rfl ht3 hi4 md_T_takeSteps_39 ?_
    refine mj_astore (lv' := [(6, va_rf (mj_r μ b1 (Int32.toNatClampNeg v5))), (0, va_rf (some h0)), (1, .int v1), (2, .int v2), (3, va_rf v3), (4, .int v4), (5, .int v5)]) md_T_takeSteps_40 (by decide) (by first | rfl | (simp [mj_rfc]; done) | (simp [mj_rfc]; rfl)) ?_
    refine mj_aload_n 1 md_T_takeSteps_42 rfl ?_
    refine mj_aload 0 md_T_takeSteps_43 rfl ?_
    obtain ⟨ht5, H⟩ := H
    obtain ⟨P, hM, H⟩ := H
    exact mj_callV (n := 1) (As := [va_rf (mj_r μ b1 (Int32.toNatClampNeg v5))]) rfl hM kc_T ht5 ⟨tw_417, tw_1, tw_420, ⟨by decide, by decide, by decide +kernel⟩, by decide, by decide⟩ tw_419 tp_11 rfl md_T_takeSteps_45 (by first | decide | (simp only [List.map_cons, List.map_nil, List.sum_cons, List.sum_nil, mj_rfc, mj_ci, mj_cl]; done) | (simp only [List.map_cons, List.map_nil, List.sum_cons, List.sum_nil, mj_rfc, mj_ci, mj_cl]; decide)) id (mj_kR (fun x μ' hP e1 e2 => mj_lvs [1, 2, 3, 4, 5, 6, 0] rfl (H x μ' hP e1 e2)))

set_option maxRecDepth 20000 in
theorem bk_T_takeSteps_48 {G : mj_G} {Ex : Option Value → mj_MM → Prop} {N S : Nat} {μ : mj_MM} {h0 : Nat} {v1 : Int32} {v2 : Int32} {v3 : Option Nat} {v4 : Int32} {v5 : Int32} {v6 : Option Nat} {s0 : Option Nat}
    (H : mj_J G mY_T_takeSteps Ex N S 53 [(0, va_rf (some h0)), (1, .int v1), (2, .int v2), (3, va_rf v3), (4, .int v4), (5, .int v5), (6, va_rf v6), (7, va_rf s0), (8, .int 0)] [] μ) :
    mj_J G mY_T_takeSteps Ex N S 48 [(0, va_rf (some h0)), (1, .int v1), (2, .int v2), (3, va_rf v3), (4, .int v4), (5, .int v5), (6, va_rf v6)] [va_rf s0] μ := by
  refine mj_astore (lv' := [(7, va_rf s0), (0, va_rf (some h0)), (1, .int v1), (2, .int v2), (3, va_rf v3), (4, .int v4), (5, .int v5), (6, va_rf v6)]) md_T_takeSteps_48 (by decide) (by first | rfl | (simp [mj_rfc]; done) | (simp [mj_rfc]; rfl)) ?_
  refine mj_iconst (v := 0) md_T_takeSteps_50 (by decide) ?_
  refine mj_istore (lv' := [(8, .int 0), (7, va_rf s0), (0, va_rf (some h0)), (1, .int v1), (2, .int v2), (3, va_rf v3), (4, .int v4), (5, .int v5), (6, va_rf v6)]) md_T_takeSteps_51 (by decide) (by first | rfl | (simp [mj_rfc]; done) | (simp [mj_rfc]; rfl)) ?_
  exact mj_lvs [2, 3, 4, 5, 6, 7, 8, 1, 0] rfl H

set_option maxRecDepth 20000 in
theorem bk_T_takeSteps_53 {G : mj_G} {Ex : Option Value → mj_MM → Prop} {N S : Nat} {μ : mj_MM} {h0 : Nat} {v1 : Int32} {v2 : Int32} {v3 : Option Nat} {v4 : Int32} {v5 : Int32} {v6 : Option Nat} {v7 : Option Nat} {v8 : Int32}
    (H : ((v7 = none → mj_J G mY_T_takeSteps Ex N S 29 [(0, va_rf (some h0)), (1, .int v1), (2, .int v2), (3, va_rf v3), (4, .int v4), (5, .int (v5 + 1))] [] μ) ∧ (∀ b1 : Nat, v7 = some b1 → ((1000 ≤ v8 → mj_J G mY_T_takeSteps Ex N S 29 [(0, va_rf (some h0)), (1, .int v1), (2, .int v2), (3, va_rf v3), (4, .int v4), (5, .int (v5 + 1))] [] μ) ∧ (¬ 1000 ≤ v8 → ((mj_t μ h0 = 1) ∧ (∃ (N' S' : Nat) (P : mj_MM → Prop), mj_M G my_T_doNextPart mY_T_doNextPart [va_rf (some h0), va_rf v7] N' S' μ (mj_XV P) ∧ (N' ≤ N ∧ S' ≤ S) ∧ ∀ (μ' : mj_MM), P μ' → mj_nc μ' = N' → mj_ns μ' = S' → mj_J G mY_T_takeSteps Ex N S 72 [(0, va_rf (some h0)), (2, .int v2), (3, va_rf v3), (4, .int v4), (5, .int v5), (6, va_rf v6), (8, .int v8)] [] μ'))))))) :
    mj_J G mY_T_takeSteps Ex N S 53 [(0, va_rf (some h0)), (1, .int v1), (2, .int v2), (3, va_rf v3), (4, .int v4), (5, .int v5), (6, va_rf v6), (7, va_rf v7), (8, .int v8)] [] μ := by
  refine mj_aload 7 md_T_takeSteps_53 rfl ?_
  obtain ⟨H1, H2⟩ := H
  refine mj_ifnull (tgt := 88) md_T_takeSteps_55 (by decide) (fun hb => ?_) (fun b1 hb2 => ?_)
  · replace H := H1 hb
    refine mj_iinc (j := 5) (v := v5 + 1) (lv' := [(5, .int (v5 + 1)), (0, va_rf (some h0)), (1, .int v1), (2, .int v2), (3, va_rf v3), (4, .int v4), (6, va_rf v6), (7, va_rf v7), (8, .int v8)]) md_T_takeSteps_88 rfl rfl (by decide) (by first | rfl | (simp [mj_rfc]; done) | (simp [mj_rfc]; rfl)) ?_
    refine mj_goto (tgt := 29) md_T_takeSteps_91 (by decide) ?_
    exact mj_lvs [1, 2, 3, 4, 5, 0] rfl H
  · replace H := H2 b1 hb2
    refine mj_iload 8 md_T_takeSteps_58 rfl ?_
    refine mj_sipush (v := 1000) md_T_takeSteps_60 (by decide) ?_
    obtain ⟨H1, H2⟩ := H
    refine mj_icmp_ge (tgt := 88) md_T_takeSteps_63 (by decide) (fun hx => ?_) (fun hx => ?_)
    · replace H := H1 hx
      refine mj_iinc (j := 5) (v := v5 + 1) (lv' := [(5, .int (v5 + 1)), (0, va_rf (some h0)), (1, .int v1), (2, .int v2), (3, va_rf v3), (4, .int v4), (6, va_rf v6), (7, va_rf v7), (8, .int v8)]) md_T_takeSteps_88 rfl rfl (by decide) (by first | rfl | (simp [mj_rfc]; done) | (simp [mj_rfc]; rfl)) ?_
      refine mj_goto (tgt := 29) md_T_takeSteps_91 (by decide) ?_
      exact mj_lvs [1, 2, 3, 4, 5, 0] rfl H
    · replace H := H2 hx
      refine mj_aload_n 0 md_T_takeSteps_66 rfl ?_
      refine mj_aload 7 md_T_takeSteps_67 rfl ?_
      obtain ⟨ht3, H⟩ := H
      obtain ⟨N', S', P, hM, hNS, H⟩ := H
      exact mj_callV (n := 1) (As := [va_rf v7]) rfl hM kc_T ht3 ⟨tw_449, tw_1, tw_452, ⟨by decide, by decide, by decide +kernel⟩, by decide, by decide⟩ tw_451 tp_14 rfl md_T_takeSteps_69 (by first | decide | (simp only [List.map_cons, List.map_nil, List.sum_cons, List.sum_nil, mj_rfc, mj_ci, mj_cl]; done) | (simp only [List.map_cons, List.map_nil, List.sum_cons, List.sum_nil, mj_rfc, mj_ci, mj_cl]; decide)) (fun _ => hNS) (mj_kV (fun μ' hP e1 e2 => mj_lvs [0, 2, 3, 4, 5, 6, 8] rfl (H μ' hP e1 e2)))

set_option maxRecDepth 20000 in
theorem bk_T_takeSteps_72 {G : mj_G} {Ex : Option Value → mj_MM → Prop} {N S : Nat} {μ : mj_MM} {h0 : Nat} {v2 : Int32} {v3 : Option Nat} {v4 : Int32} {v5 : Int32} {v6 : Option Nat} {v8 : Int32}
    (H : ((mj_t μ h0 = 1) ∧ (∃ P : Option Nat → mj_MM → Prop, mj_M G my_T_taskWithStep mY_T_taskWithStep [va_rf (some h0), va_rf v6] (mj_nc μ) (mj_ns μ) μ (mj_XR P) ∧ ∀ (x : Option Nat) (μ' : mj_MM), P x μ' → mj_nc μ' = mj_nc μ → mj_ns μ' = mj_ns μ → mj_J G mY_T_takeSteps Ex N S 78 [(0, va_rf (some h0)), (2, .int v2), (3, va_rf v3), (4, .int v4), (5, .int v5), (6, va_rf v6), (8, .int v8)] [va_rf x] μ'))) :
    mj_J G mY_T_takeSteps Ex N S 72 [(0, va_rf (some h0)), (2, .int v2), (3, va_rf v3), (4, .int v4), (5, .int v5), (6, va_rf v6), (8, .int v8)] [] μ := by
  refine mj_aload_n 0 md_T_takeSteps_72 rfl ?_
  refine mj_aload 5 md_T_takeSteps_73 rfl ?_
  obtain ⟨ht1, H⟩ := H
  obtain ⟨P, hM, H⟩ := H
  exact mj_callV (n := 1) (As := [va_rf v6]) rfl hM kc_T ht1 ⟨tw_417, tw_1, tw_420, ⟨by decide, by decide, by decide +kernel⟩, by decide, by decide⟩ tw_419 tp_11 rfl md_T_takeSteps_75 (by first | decide | (simp only [List.map_cons, List.map_nil, List.sum_cons, List.sum_nil, mj_rfc, mj_ci, mj_cl]; done) | (simp only [List.map_cons, List.map_nil, List.sum_cons, List.sum_nil, mj_rfc, mj_ci, mj_cl]; decide)) id (mj_kR (fun x μ' hP e1 e2 => mj_lvs [0, 1, 2, 3, 4, 5, 6] rfl (H x μ' hP e1 e2)))

set_option maxRecDepth 20000 in
theorem bk_T_takeSteps_78 {G : mj_G} {Ex : Option Value → mj_MM → Prop} {N S : Nat} {μ : mj_MM} {h0 : Nat} {v2 : Int32} {v3 : Option Nat} {v4 : Int32} {v5 : Int32} {v6 : Option Nat} {v8 : Int32} {s0 : Option Nat}
    (H : mj_J G mY_T_takeSteps Ex N S 53 [(0, va_rf (some h0)), (1, .int 1), (2, .int v2), (3, va_rf v3), (4, .int v4), (5, .int v5), (6, va_rf v6), (7, va_rf s0), (8, .int (v8 + 1))] [] μ) :
    mj_J G mY_T_takeSteps Ex N S 78 [(0, va_rf (some h0)), (2, .int v2), (3, va_rf v3), (4, .int v4), (5, .int v5), (6, va_rf v6), (8, .int v8)] [va_rf s0] μ := by
  refine mj_astore (lv' := [(7, va_rf s0), (0, va_rf (some h0)), (2, .int v2), (3, va_rf v3), (4, .int v4), (5, .int v5), (6, va_rf v6), (8, .int v8)]) md_T_takeSteps_78 (by decide) (by first | rfl | (simp [mj_rfc]; done) | (simp [mj_rfc]; rfl)) ?_
  refine mj_iconst (v := 1) md_T_takeSteps_80 (by decide) ?_
  refine mj_istn (i := 1) (lv' := [(1, .int 1), (7, va_rf s0), (0, va_rf (some h0)), (2, .int v2), (3, va_rf v3), (4, .int v4), (5, .int v5), (6, va_rf v6), (8, .int v8)]) md_T_takeSteps_81 rfl (by decide) (by first | rfl | (simp [mj_rfc]; done) | (simp [mj_rfc]; rfl)) ?_
  refine mj_iinc (j := 8) (v := v8 + 1) (lv' := [(8, .int (v8 + 1)), (1, .int 1), (7, va_rf s0), (0, va_rf (some h0)), (2, .int v2), (3, va_rf v3), (4, .int v4), (5, .int v5), (6, va_rf v6)]) md_T_takeSteps_82 rfl rfl (by decide) (by first | rfl | (simp [mj_rfc]; done) | (simp [mj_rfc]; rfl)) ?_
  refine mj_goto (tgt := 53) md_T_takeSteps_85 (by decide) ?_
  exact mj_lvs [3, 1, 4, 5, 6, 7, 8, 2, 0] rfl H

set_option maxRecDepth 20000 in
theorem bk_T_taskWithStep_0 {G : mj_G} {Ex : Option Value → mj_MM → Prop} {N S : Nat} {μ : mj_MM} {h0 : Nat} {v1 : Option Nat}
    (H : (∃ b1 : Nat, (v1 = some b1) ∧ (mj_t μ b1 = 2) ∧ ((¬ (mj_i μ b1 0) = 0 → ((mj_t μ h0 = 1) ∧ (∃ P : mj_MM → Prop, mj_M G my_T_choose mY_T_choose [va_rf (some h0), va_rf v1] (mj_nc μ) (mj_ns μ) μ (mj_XV P) ∧ ∀ (μ' : mj_MM), P μ' → mj_nc μ' = mj_nc μ → mj_ns μ' = mj_ns μ → mj_J G mY_T_taskWithStep Ex N S 28 [(0, va_rf (some h0)), (1, va_rf v1)] [] μ'))) ∧ ((mj_i μ b1 0) = 0 → ((mj_t μ h0 = 1) ∧ ∃ b6 : Nat, (mj_r μ h0 4 = some b6) ∧ (mj_t μ b6 = 4) ∧ (∃ P : Option Nat → mj_MM → Prop, mj_M G my_U_atHand mY_U_atHand [va_rf (some b6), .int (mj_i μ h0 12)] (mj_nc μ) (mj_ns μ) μ (mj_XR P) ∧ ∀ (x : Option Nat) (μ' : mj_MM), P x μ' → mj_nc μ' = mj_nc μ → mj_ns μ' = mj_ns μ → mj_J G mY_T_taskWithStep Ex N S 18 [(0, va_rf (some h0)), (1, va_rf v1)] [va_rf x] μ')))))) :
    mj_J G mY_T_taskWithStep Ex N S 0 [(0, va_rf (some h0)), (1, va_rf v1)] [] μ := by
  refine mj_aload_n 1 md_T_taskWithStep_0 rfl ?_
  obtain ⟨b1, hb2, H⟩ := H
  obtain ⟨ht3, H⟩ := H
  refine mj_getf (v := .int (mj_i μ b1 0)) hb2 kc_C 0 (by decide) tw_82 md_T_taskWithStep_1 ht3 rfl ?_
  obtain ⟨H1, H2⟩ := H
  refine mj_if_ne (tgt := 23) md_T_taskWithStep_4 (by decide) (fun hx => ?_) (fun hx => ?_)
  · replace H := H1 hx
    refine mj_aload_n 0 md_T_taskWithStep_23 rfl ?_
    refine mj_aload_n 1 md_T_taskWithStep_24 rfl ?_
    obtain ⟨ht4, H⟩ := H
    obtain ⟨P, hM, H⟩ := H
    exact mj_callV (n := 1) (As := [va_rf v1]) rfl hM kc_T ht4 ⟨tw_425, tw_1, tw_428, ⟨by decide, by decide, by decide +kernel⟩, by decide, by decide⟩ tw_427 tp_12 rfl md_T_taskWithStep_25 (by first | decide | (simp only [List.map_cons, List.map_nil, List.sum_cons, List.sum_nil, mj_rfc, mj_ci, mj_cl]; done) | (simp only [List.map_cons, List.map_nil, List.sum_cons, List.sum_nil, mj_rfc, mj_ci, mj_cl]; decide)) id (mj_kV (fun μ' hP e1 e2 => mj_lvs [0, 1] rfl (H μ' hP e1 e2)))
  · replace H := H2 hx
    refine mj_aload_n 0 md_T_taskWithStep_7 rfl ?_
    obtain ⟨ht5, H⟩ := H
    refine mj_getf (v := va_rf (mj_r μ h0 4)) rfl kc_T 4 (by decide) tw_141 md_T_taskWithStep_8 ht5 rfl ?_
    refine mj_aload_n 0 md_T_taskWithStep_11 rfl ?_
    refine mj_getf (v := .int (mj_i μ h0 12)) rfl kc_T 12 (by decide) tw_149 md_T_taskWithStep_12 ht5 rfl ?_
    obtain ⟨b6, hb7, H⟩ := H
    obtain ⟨ht8, H⟩ := H
    obtain ⟨P, hM, H⟩ := H
    exact mj_callV (n := 1) (As := [.int (mj_i μ h0 12)]) hb7 hM kc_U ht8 ⟨tw_421, tw_2, tw_424, ⟨by decide, by decide, by decide +kernel⟩, by decide, by decide⟩ tw_422 tw_423 rfl md_T_taskWithStep_15 (by first | decide | (simp only [List.map_cons, List.map_nil, List.sum_cons, List.sum_nil, mj_rfc, mj_ci, mj_cl]; done) | (simp only [List.map_cons, List.map_nil, List.sum_cons, List.sum_nil, mj_rfc, mj_ci, mj_cl]; decide)) id (mj_kR (fun x μ' hP e1 e2 => mj_lvs [0, 1] rfl (H x μ' hP e1 e2)))

set_option maxRecDepth 20000 in
theorem bk_T_taskWithStep_28 {G : mj_G} {Ex : Option Value → mj_MM → Prop} {N S : Nat} {μ : mj_MM} {h0 : Nat} {v1 : Option Nat}
    (H : (∃ b1 : Nat, (v1 = some b1) ∧ (mj_t μ b1 = 2) ∧ ((mj_r μ b1 4 = none → Ex (some (va_rf (mj_r μ b1 4))) μ) ∧ (∀ b4 : Nat, mj_r μ b1 4 = some b4 → ((mj_t μ b4 = 9) ∧ ((mj_r μ b4 7 = none → Ex (some (va_rf (mj_r μ b1 4))) μ) ∧ (∀ b7 : Nat, mj_r μ b4 7 = some b7 → ((mj_t μ b7 = 7) ∧ (((mj_i μ b7 0) = 0 → Ex (some (va_rf none)) μ) ∧ (¬ (mj_i μ b7 0) = 0 → ((¬ (mj_i μ b7 0) = 8 → Ex (some (va_rf (mj_r μ b1 4))) μ) ∧ ((mj_i μ b7 0) = 8 → ((mj_t μ h0 = 1) ∧ (∃ P : Option Nat → mj_MM → Prop, mj_M G my_T_lockOf mY_T_lockOf [va_rf (some h0), .int (mj_i μ b7 1)] (mj_nc μ) (mj_ns μ) μ (mj_XR P) ∧ ∀ (x : Option Nat) (μ' : mj_MM), P x μ' → mj_nc μ' = mj_nc μ → mj_ns μ' = mj_ns μ → mj_J G mY_T_taskWithStep Ex N S 76 [(2, va_rf (mj_r μ b1 4))] [va_rf x, va_rf (mj_r μ b1 4)] μ')))))))))))))) :
    mj_J G mY_T_taskWithStep Ex N S 28 [(0, va_rf (some h0)), (1, va_rf v1)] [] μ := by
  refine mj_aload_n 1 md_T_taskWithStep_28 rfl ?_
  obtain ⟨b1, hb2, H⟩ := H
  obtain ⟨ht3, H⟩ := H
  refine mj_getf (v := va_rf (mj_r μ b1 4)) hb2 kc_C 4 (by decide) tw_87 md_T_taskWithStep_29 ht3 rfl ?_
  refine mj_astn (i := 2) (lv' := [(2, va_rf (mj_r μ b1 4)), (0, va_rf (some h0)), (1, va_rf v1)]) md_T_taskWithStep_32 rfl (by decide) (by first | rfl | (simp [mj_rfc]; done) | (simp [mj_rfc]; rfl)) ?_
  refine mj_aload_n 0 md_T_taskWithStep_33 rfl ?_
  obtain ⟨H1, H2⟩ := H
  refine mj_ifnull (tgt := 44) md_T_taskWithStep_34 (by decide) (fun hb => ?_) (fun b4 hb5 => ?_)
  · replace H := H1 hb
    refine mj_aload_n 0 md_T_taskWithStep_44 rfl ?_
    exact mj_areturn md_T_taskWithStep_45 rfl (Or.inl ⟨_, rfl⟩) H
  · replace H := H2 b4 hb5
    refine mj_aload_n 0 md_T_taskWithStep_37 rfl ?_
    obtain ⟨ht6, H⟩ := H
    refine mj_getf (v := va_rf (mj_r μ b4 7)) hb5 kc_K 7 (by decide) tw_229 md_T_taskWithStep_38 ht6 rfl ?_
    obtain ⟨H1, H2⟩ := H
    refine mj_ifnonnull (tgt := 46) md_T_taskWithStep_41 (by decide) (fun b7 hb8 => ?_) (fun hb => ?_)
    · replace H := H2 b7 hb8
      refine mj_aload_n 0 md_T_taskWithStep_46 rfl ?_
      refine mj_getf (v := va_rf (mj_r μ b4 7)) hb5 kc_K 7 (by decide) tw_229 md_T_taskWithStep_47 ht6 rfl ?_
      refine mj_astn (i := 3) (lv' := [(3, va_rf (mj_r μ b4 7)), (2, va_rf (mj_r μ b1 4)), (0, va_rf (some h0)), (1, va_rf v1)]) md_T_taskWithStep_50 rfl (by decide) (by first | rfl | (simp [mj_rfc]; done) | (simp [mj_rfc]; rfl)) ?_
      refine mj_aload_n 0 md_T_taskWithStep_51 rfl ?_
      obtain ⟨ht9, H⟩ := H
      refine mj_getf (v := .int (mj_i μ b7 0)) hb8 kc_P 0 (by decide) tw_198 md_T_taskWithStep_52 ht9 rfl ?_
      obtain ⟨H1, H2⟩ := H
      refine mj_if_eq (tgt := 82) md_T_taskWithStep_55 (by decide) (fun hx => ?_) (fun hx => ?_)
      · replace H := H1 hx
        refine mj_iconst (v := 1) md_T_taskWithStep_82 (by decide) ?_
        refine mj_goto (tgt := 87) md_T_taskWithStep_83 (by decide) ?_
        refine mj_istore (lv' := [(4, .int 1), (3, va_rf (mj_r μ b4 7)), (2, va_rf (mj_r μ b1 4)), (0, va_rf (some h0)), (1, va_rf v1)]) md_T_taskWithStep_87 (by decide) (by first | rfl | (simp [mj_rfc]; done) | (simp [mj_rfc]; rfl)) ?_
        refine mj_iload 0 md_T_taskWithStep_89 rfl ?_
        refine mj_if_eq (tgt := 98) md_T_taskWithStep_91 (by decide) (fun hx => absurd hx (by decide)) (fun _ => ?_)
        refine mj_null md_T_taskWithStep_94 ?_
        refine mj_goto (tgt := 99) md_T_taskWithStep_95 (by decide) ?_
        exact mj_areturn md_T_taskWithStep_99 rfl (Or.inl ⟨_, rfl⟩) H
      · replace H := H2 hx
        refine mj_aload_n 0 md_T_taskWithStep_58 rfl ?_
        refine mj_getf (v := .int (mj_i μ b7 0)) hb8 kc_P 0 (by decide) tw_198 md_T_taskWithStep_59 ht9 rfl ?_
        refine mj_bipush (v := 8) md_T_taskWithStep_62 (by decide) ?_
        obtain ⟨H1, H2⟩ := H
        refine mj_icmp_ne (tgt := 86) md_T_taskWithStep_64 (by decide) (fun hx => ?_) (fun hx => ?_)
        · replace H := H1 hx
          refine mj_iconst (v := 0) md_T_taskWithStep_86 (by decide) ?_
          refine mj_istore (lv' := [(4, .int 0), (3, va_rf (mj_r μ b4 7)), (2, va_rf (mj_r μ b1 4)), (0, va_rf (some h0)), (1, va_rf v1)]) md_T_taskWithStep_87 (by decide) (by first | rfl | (simp [mj_rfc]; done) | (simp [mj_rfc]; rfl)) ?_
          refine mj_iload 0 md_T_taskWithStep_89 rfl ?_
          refine mj_if_eq (tgt := 98) md_T_taskWithStep_91 (by decide) (fun _ => ?_) (fun hx => absurd hx (by decide))
          refine mj_aload_n 2 md_T_taskWithStep_98 rfl ?_
          exact mj_areturn md_T_taskWithStep_99 rfl (Or.inl ⟨_, rfl⟩) H
        · replace H := H2 hx
          refine mj_aload_n 1 md_T_taskWithStep_67 rfl ?_
          refine mj_aload_n 2 md_T_taskWithStep_68 rfl ?_
          refine mj_aload_n 0 md_T_taskWithStep_69 rfl ?_
          refine mj_getf (v := .int (mj_i μ b7 1)) hb8 kc_P 1 (by decide) tw_201 md_T_taskWithStep_70 ht9 rfl ?_
          obtain ⟨ht10, H⟩ := H
          obtain ⟨P, hM, H⟩ := H
          exact mj_callV (n := 1) (As := [.int (mj_i μ b7 1)]) rfl hM kc_T ht10 ⟨tw_438, tw_1, tw_441, ⟨by decide, by decide, by decide +kernel⟩, by decide, by decide⟩ tw_440 tp_13 rfl md_T_taskWithStep_73 (by first | decide | (simp only [List.map_cons, List.map_nil, List.sum_cons, List.sum_nil, mj_rfc, mj_ci, mj_cl]; done) | (simp only [List.map_cons, List.map_nil, List.sum_cons, List.sum_nil, mj_rfc, mj_ci, mj_cl]; decide)) id (mj_kR (fun x μ' hP e1 e2 => mj_lvs [1] rfl (H x μ' hP e1 e2)))
    · replace H := H1 hb
      refine mj_aload_n 0 md_T_taskWithStep_44 rfl ?_
      exact mj_areturn md_T_taskWithStep_45 rfl (Or.inl ⟨_, rfl⟩) H

set_option maxRecDepth 20000 in
theorem bk_T_taskWithStep_18 {G : mj_G} {Ex : Option Value → mj_MM → Prop} {N S : Nat} {μ : mj_MM} {h0 : Nat} {v1 : Option Nat} {s0 : Option Nat}
    (H : ((s0 = none → ((mj_t μ h0 = 1) ∧ (∃ P : mj_MM → Prop, mj_M G my_T_choose mY_T_choose [va_rf (some h0), va_rf v1] (mj_nc μ) (mj_ns μ) μ (mj_XV P) ∧ ∀ (μ' : mj_MM), P μ' → mj_nc μ' = mj_nc μ → mj_ns μ' = mj_ns μ → mj_J G mY_T_taskWithStep Ex N S 28 [(0, va_rf (some h0)), (1, va_rf v1)] [] μ'))) ∧ (∀ b1 : Nat, s0 = some b1 → Ex (some (va_rf none)) μ))) :
    mj_J G mY_T_taskWithStep Ex N S 18 [(0, va_rf (some h0)), (1, va_rf v1)] [va_rf s0] μ := by
  obtain ⟨H1, H2⟩ := H
  refine mj_ifnull (tgt := 23) md_T_taskWithStep_18 (by decide) (fun hb => ?_) (fun b1 hb2 => ?_)
  · replace H := H1 hb
    refine mj_aload_n 0 md_T_taskWithStep_23 rfl ?_
    refine mj_aload_n 1 md_T_taskWithStep_24 rfl ?_
    obtain ⟨ht3, H⟩ := H
    obtain ⟨P, hM, H⟩ := H
    exact mj_callV (n := 1) (As := [va_rf v1]) rfl hM kc_T ht3 ⟨tw_425, tw_1, tw_428, ⟨by decide, by decide, by decide +kernel⟩, by decide, by decide⟩ tw_427 tp_12 rfl md_T_taskWithStep_25 (by first | decide | (simp only [List.map_cons, List.map_nil, List.sum_cons, List.sum_nil, mj_rfc, mj_ci, mj_cl]; done) | (simp only [List.map_cons, List.map_nil, List.sum_cons, List.sum_nil, mj_rfc, mj_ci, mj_cl]; decide)) id (mj_kV (fun μ' hP e1 e2 => mj_lvs [0, 1] rfl (H μ' hP e1 e2)))
  · replace H := H2 b1 hb2
    refine mj_null md_T_taskWithStep_21 ?_
    exact mj_areturn md_T_taskWithStep_22 rfl (Or.inl ⟨_, rfl⟩) H

set_option maxRecDepth 20000 in
theorem bk_T_taskWithStep_76 {G : mj_G} {Ex : Option Value → mj_MM → Prop} {N S : Nat} {μ : mj_MM} {v2 : Option Nat} {s0 : Option Nat} {s1 : Option Nat}
    (H : (∃ P : Int32 → mj_MM → Prop, mj_M G my_T_startsToSpin mY_T_startsToSpin [va_rf s1, va_rf s0] (mj_nc μ) (mj_ns μ) μ (mj_XI P) ∧ ∀ (x : Int32) (μ' : mj_MM), P x μ' → mj_nc μ' = mj_nc μ → mj_ns μ' = mj_ns μ → mj_J G mY_T_taskWithStep Ex N S 79 [(2, va_rf v2)] [.int x] μ')) :
    mj_J G mY_T_taskWithStep Ex N S 76 [(2, va_rf v2)] [va_rf s0, va_rf s1] μ := by
  obtain ⟨P, hM, H⟩ := H
  exact mj_callS (n := 2) (As := [va_rf s1, va_rf s0]) hM ⟨tw_442, tw_1, tw_444, ⟨by decide, by decide, by decide +kernel⟩, by decide, by decide⟩ tw_443 rfl md_T_taskWithStep_76 (by first | decide | (simp only [List.map_cons, List.map_nil, List.sum_cons, List.sum_nil, mj_rfc, mj_ci, mj_cl]; done) | (simp only [List.map_cons, List.map_nil, List.sum_cons, List.sum_nil, mj_rfc, mj_ci, mj_cl]; decide)) id (mj_kI (fun x μ' hP e1 e2 => mj_lvs [0] rfl (H x μ' hP e1 e2)))

set_option maxRecDepth 20000 in
theorem bk_T_taskWithStep_79 {G : mj_G} {Ex : Option Value → mj_MM → Prop} {N S : Nat} {μ : mj_MM} {v2 : Option Nat} {s0 : Int32}
    (H : ((s0 = 0 → Ex (some (va_rf v2)) μ) ∧ (¬ s0 = 0 → Ex (some (va_rf none)) μ))) :
    mj_J G mY_T_taskWithStep Ex N S 79 [(2, va_rf v2)] [.int s0] μ := by
  obtain ⟨H1, H2⟩ := H
  refine mj_if_eq (tgt := 86) md_T_taskWithStep_79 (by decide) (fun hx => ?_) (fun hx => ?_)
  · replace H := H1 hx
    refine mj_iconst (v := 0) md_T_taskWithStep_86 (by decide) ?_
    refine mj_istore (lv' := [(4, .int 0), (2, va_rf v2)]) md_T_taskWithStep_87 (by decide) (by first | rfl | (simp [mj_rfc]; done) | (simp [mj_rfc]; rfl)) ?_
    refine mj_iload 0 md_T_taskWithStep_89 rfl ?_
    refine mj_if_eq (tgt := 98) md_T_taskWithStep_91 (by decide) (fun _ => ?_) (fun hx => absurd hx (by decide))
    refine mj_aload_n 1 md_T_taskWithStep_98 rfl ?_
    exact mj_areturn md_T_taskWithStep_99 rfl (Or.inl ⟨_, rfl⟩) H
  · replace H := H2 hx
    refine mj_iconst (v := 1) md_T_taskWithStep_82 (by decide) ?_
    refine mj_goto (tgt := 87) md_T_taskWithStep_83 (by decide) ?_
    refine mj_istore (lv' := [(4, .int 1), (2, va_rf v2)]) md_T_taskWithStep_87 (by decide) (by first | rfl | (simp [mj_rfc]; done) | (simp [mj_rfc]; rfl)) ?_
    refine mj_iload 0 md_T_taskWithStep_89 rfl ?_
    refine mj_if_eq (tgt := 98) md_T_taskWithStep_91 (by decide) (fun hx => absurd hx (by decide)) (fun _ => ?_)
    refine mj_null md_T_taskWithStep_94 ?_
    refine mj_goto (tgt := 99) md_T_taskWithStep_95 (by decide) ?_
    exact mj_areturn md_T_taskWithStep_99 rfl (Or.inl ⟨_, rfl⟩) H

set_option maxRecDepth 20000 in
theorem bk_T_choose_0 {G : mj_G} {Ex : Option Value → mj_MM → Prop} {N S : Nat} {μ : mj_MM} {h0 : Nat} {v1 : Option Nat}
    (H : (∃ b1 : Nat, (v1 = some b1) ∧ (mj_t μ b1 = 2) ∧ ((mj_r μ b1 4 = none → mj_J G mY_T_choose Ex N S 37 [(1, va_rf v1), (2, va_rf (mj_r μ b1 4)), (3, va_rf (mj_r μ b1 4)), (4, va_rf (mj_r μ b1 2))] [] (mj_pI μ b1 6 0)) ∧ (∀ b4 : Nat, mj_r μ b1 4 = some b4 → ((mj_t μ b4 = 9) ∧ ((¬ (mj_i μ b4 5) = 0 → mj_J G mY_T_choose Ex N S 37 [(1, va_rf v1), (2, va_rf (mj_r μ b1 4)), (3, va_rf (mj_r μ b1 4)), (4, va_rf (mj_r μ b1 2))] [] (mj_pI μ b1 6 0)) ∧ ((mj_i μ b4 5) = 0 → ((¬ (mj_i μ b1 6) = 0 → mj_J G mY_T_choose Ex N S 37 [(1, va_rf v1), (2, va_rf (mj_r μ b1 4)), (3, va_rf (mj_r μ b1 4)), (4, va_rf (mj_r μ b1 2))] [] (mj_pI μ b1 6 0)) ∧ ((mj_i μ b1 6) = 0 → Ex none μ))))))))) :
    mj_J G mY_T_choose Ex N S 0 [(0, va_rf (some h0)), (1, va_rf v1)] [] μ := by
  refine mj_aload_n 1 md_T_choose_0 rfl ?_
  obtain ⟨b1, hb2, H⟩ := H
  obtain ⟨ht3, H⟩ := H
  refine mj_getf (v := va_rf (mj_r μ b1 4)) hb2 kc_C 4 (by decide) tw_87 md_T_choose_1 ht3 rfl ?_
  refine mj_astn (i := 2) (lv' := [(2, va_rf (mj_r μ b1 4)), (0, va_rf (some h0)), (1, va_rf v1)]) md_T_choose_4 rfl (by decide) (by first | rfl | (simp [mj_rfc]; done) | (simp [mj_rfc]; rfl)) ?_
  refine mj_aload_n 0 md_T_choose_5 rfl ?_
  obtain ⟨H1, H2⟩ := H
  refine mj_ifnull (tgt := 24) md_T_choose_6 (by decide) (fun hb => ?_) (fun b4 hb5 => ?_)
  · replace H := H1 hb
    refine mj_aload_n 2 md_T_choose_24 rfl ?_
    refine mj_iconst (v := 0) md_T_choose_25 (by decide) ?_
    refine mj_putI hb2 kc_C 6 (by decide) rfl tw_90 md_T_choose_26 (Or.inl rfl) ht3 (by decide) (by decide) ?_
    refine mj_aload_n 0 md_T_choose_29 rfl ?_
    refine mj_astn (i := 3) (lv' := [(3, va_rf (mj_r μ b1 4)), (2, va_rf (mj_r μ b1 4)), (0, va_rf (some h0)), (1, va_rf v1)]) md_T_choose_30 rfl (by decide) (by first | rfl | (simp [mj_rfc]; done) | (simp [mj_rfc]; rfl)) ?_
    refine mj_aload_n 3 md_T_choose_31 rfl ?_
    refine mj_getf (v := va_rf (mj_r μ b1 2)) hb2 kc_C 2 (by decide) tw_85 md_T_choose_32 ht3 rfl ?_
    refine mj_astore (lv' := [(4, va_rf (mj_r μ b1 2)), (3, va_rf (mj_r μ b1 4)), (2, va_rf (mj_r μ b1 4)), (0, va_rf (some h0)), (1, va_rf v1)]) md_T_choose_35 (by decide) (by first | rfl | (simp [mj_rfc]; done) | (simp [mj_rfc]; rfl)) ?_
    exact mj_lvs [4, 2, 1, 0] rfl H
  · replace H := H2 b4 hb5
    refine mj_aload_n 0 md_T_choose_9 rfl ?_
    obtain ⟨ht6, H⟩ := H
    refine mj_getf (v := .int (mj_i μ b4 5)) hb5 kc_K 5 (by decide) tw_224 md_T_choose_10 ht6 rfl ?_
    obtain ⟨H1, H2⟩ := H
    refine mj_if_ne (tgt := 24) md_T_choose_13 (by decide) (fun hx => ?_) (fun hx => ?_)
    · replace H := H1 hx
      refine mj_aload_n 2 md_T_choose_24 rfl ?_
      refine mj_iconst (v := 0) md_T_choose_25 (by decide) ?_
      refine mj_putI hb2 kc_C 6 (by decide) rfl tw_90 md_T_choose_26 (Or.inl rfl) ht3 (by decide) (by decide) ?_
      refine mj_aload_n 0 md_T_choose_29 rfl ?_
      refine mj_astn (i := 3) (lv' := [(3, va_rf (mj_r μ b1 4)), (2, va_rf (mj_r μ b1 4)), (0, va_rf (some h0)), (1, va_rf v1)]) md_T_choose_30 rfl (by decide) (by first | rfl | (simp [mj_rfc]; done) | (simp [mj_rfc]; rfl)) ?_
      refine mj_aload_n 3 md_T_choose_31 rfl ?_
      refine mj_getf (v := va_rf (mj_r μ b1 2)) hb2 kc_C 2 (by decide) tw_85 md_T_choose_32 ht3 rfl ?_
      refine mj_astore (lv' := [(4, va_rf (mj_r μ b1 2)), (3, va_rf (mj_r μ b1 4)), (2, va_rf (mj_r μ b1 4)), (0, va_rf (some h0)), (1, va_rf v1)]) md_T_choose_35 (by decide) (by first | rfl | (simp [mj_rfc]; done) | (simp [mj_rfc]; rfl)) ?_
      exact mj_lvs [4, 2, 1, 0] rfl H
    · replace H := H2 hx
      refine mj_aload_n 2 md_T_choose_16 rfl ?_
      refine mj_getf (v := .int (mj_i μ b1 6)) hb2 kc_C 6 (by decide) tw_90 md_T_choose_17 ht3 rfl ?_
      obtain ⟨H1, H2⟩ := H
      refine mj_if_ne (tgt := 24) md_T_choose_20 (by decide) (fun hx => ?_) (fun hx => ?_)
      · replace H := H1 hx
        refine mj_aload_n 2 md_T_choose_24 rfl ?_
        refine mj_iconst (v := 0) md_T_choose_25 (by decide) ?_
        refine mj_putI hb2 kc_C 6 (by decide) rfl tw_90 md_T_choose_26 (Or.inl rfl) ht3 (by decide) (by decide) ?_
        refine mj_aload_n 0 md_T_choose_29 rfl ?_
        refine mj_astn (i := 3) (lv' := [(3, va_rf (mj_r μ b1 4)), (2, va_rf (mj_r μ b1 4)), (0, va_rf (some h0)), (1, va_rf v1)]) md_T_choose_30 rfl (by decide) (by first | rfl | (simp [mj_rfc]; done) | (simp [mj_rfc]; rfl)) ?_
        refine mj_aload_n 3 md_T_choose_31 rfl ?_
        refine mj_getf (v := va_rf (mj_r μ b1 2)) hb2 kc_C 2 (by decide) tw_85 md_T_choose_32 ht3 rfl ?_
        refine mj_astore (lv' := [(4, va_rf (mj_r μ b1 2)), (3, va_rf (mj_r μ b1 4)), (2, va_rf (mj_r μ b1 4)), (0, va_rf (some h0)), (1, va_rf v1)]) md_T_choose_35 (by decide) (by first | rfl | (simp [mj_rfc]; done) | (simp [mj_rfc]; rfl)) ?_
        exact mj_lvs [4, 2, 1, 0] rfl H
      · replace H := H2 hx
        exact mj_return md_T_choose_23 rfl H

set_option maxRecDepth 20000 in
theorem bk_T_choose_37 {G : mj_G} {Ex : Option Value → mj_MM → Prop} {N S : Nat} {μ : mj_MM} {v1 : Option Nat} {v2 : Option Nat} {v3 : Option Nat} {v4 : Option Nat}
    (H : ((v4 = none → ((v3 = none → Ex none μ) ∧ (∀ b3 : Nat, v3 = some b3 → ((¬ v3 = v2 → ((v2 = none → ((mj_t μ b3 = 9) ∧ ∃ b8 : Nat, (v1 = some b8) ∧ (mj_t μ b8 = 2) ∧ Ex none (mj_pR (mj_pI μ b3 9 2) b8 4 v3))) ∧ (∀ b5 : Nat, v2 = some b5 → ((mj_t μ b5 = 9) ∧ (mj_t μ b3 = 9) ∧ ∃ b13 : Nat, (v1 = some b13) ∧ (mj_t μ b13 = 2) ∧ Ex none (mj_pR (mj_pI (mj_pI μ b5 9 1) b3 9 2) b13 4 v3))))) ∧ (v3 = v2 → Ex none μ))))) ∧ (∀ b1 : Nat, v4 = some b1 → ((mj_t μ b1 = 9) ∧ ((¬ (mj_i μ b1 9) = 1 → mj_J G mY_T_choose Ex N S 37 [(1, va_rf v1), (2, va_rf v2), (3, va_rf v3), (4, va_rf (mj_r μ b1 17))] [] μ) ∧ ((mj_i μ b1 9) = 1 → ((v3 = none → mj_J G mY_T_choose Ex N S 37 [(1, va_rf v1), (2, va_rf v2), (3, va_rf v4), (4, va_rf (mj_r μ b1 17))] [] μ) ∧ (∀ b17 : Nat, v3 = some b17 → (∃ P : Int32 → mj_MM → Prop, mj_M G my_K_comesBefore mY_K_comesBefore [va_rf (some b1), va_rf v3] (mj_nc μ) (mj_ns μ) μ (mj_XI P) ∧ ∀ (x : Int32) (μ' : mj_MM), P x μ' → mj_nc μ' = mj_nc μ → mj_ns μ' = mj_ns μ → mj_J G mY_T_choose Ex N S 61 [(1, va_rf v1), (2, va_rf v2), (3, va_rf v3), (4, va_rf v4)] [.int x] μ'))))))))) :
    mj_J G mY_T_choose Ex N S 37 [(1, va_rf v1), (2, va_rf v2), (3, va_rf v3), (4, va_rf v4)] [] μ := by
  refine mj_aload 3 md_T_choose_37 rfl ?_
  obtain ⟨H1, H2⟩ := H
  refine mj_ifnull (tgt := 77) md_T_choose_39 (by decide) (fun hb => ?_) (fun b1 hb2 => ?_)
  · replace H := H1 hb
    refine mj_aload_n 2 md_T_choose_77 rfl ?_
    obtain ⟨H1, H2⟩ := H
    refine mj_ifnull (tgt := 86) md_T_choose_78 (by decide) (fun hb => ?_) (fun b3 hb4 => ?_)
    · replace H := H1 hb
      exact mj_return md_T_choose_86 rfl H
    · replace H := H2 b3 hb4
      refine mj_aload_n 2 md_T_choose_81 rfl ?_
      refine mj_aload_n 1 md_T_choose_82 rfl ?_
      obtain ⟨H1, H2⟩ := H
      refine mj_acmp_ne (tgt := 87) md_T_choose_83 (by decide) (fun hx => ?_) (fun hx => ?_)
      · replace H := H1 hx
        refine mj_aload_n 1 md_T_choose_87 rfl ?_
        obtain ⟨H1, H2⟩ := H
        refine mj_ifnull (tgt := 96) md_T_choose_88 (by decide) (fun hb => ?_) (fun b5 hb6 => ?_)
        · replace H := H1 hb
          refine mj_aload_n 2 md_T_choose_96 rfl ?_
          refine mj_iconst (v := 2) md_T_choose_97 (by decide) ?_
          obtain ⟨ht7, H⟩ := H
          refine mj_putI hb4 kc_K 9 (by decide) rfl tw_232 md_T_choose_98 (Or.inl rfl) ht7 rfl rfl ?_
          refine mj_aload_n 0 md_T_choose_101 rfl ?_
          refine mj_aload_n 2 md_T_choose_102 rfl ?_
          obtain ⟨b8, hb9, H⟩ := H
          obtain ⟨ht10, H⟩ := H
          refine mj_putR hb9 kc_C 4 (by decide) rfl tw_87 md_T_choose_103 (Or.inl rfl) ht10 ?_
          exact mj_return md_T_choose_106 rfl H
        · replace H := H2 b5 hb6
          refine mj_aload_n 1 md_T_choose_91 rfl ?_
          refine mj_iconst (v := 1) md_T_choose_92 (by decide) ?_
          obtain ⟨ht11, H⟩ := H
          refine mj_putI hb6 kc_K 9 (by decide) rfl tw_232 md_T_choose_93 (Or.inl rfl) ht11 rfl rfl ?_
          refine mj_aload_n 2 md_T_choose_96 rfl ?_
          refine mj_iconst (v := 2) md_T_choose_97 (by decide) ?_
          obtain ⟨ht12, H⟩ := H
          refine mj_putI hb4 kc_K 9 (by decide) rfl tw_232 md_T_choose_98 (Or.inl rfl) ht12 rfl rfl ?_
          refine mj_aload_n 0 md_T_choose_101 rfl ?_
          refine mj_aload_n 2 md_T_choose_102 rfl ?_
          obtain ⟨b13, hb14, H⟩ := H
          obtain ⟨ht15, H⟩ := H
          refine mj_putR hb14 kc_C 4 (by decide) rfl tw_87 md_T_choose_103 (Or.inl rfl) ht15 ?_
          exact mj_return md_T_choose_106 rfl H
      · replace H := H2 hx
        exact mj_return md_T_choose_86 rfl H
  · replace H := H2 b1 hb2
    refine mj_aload 3 md_T_choose_42 rfl ?_
    obtain ⟨ht16, H⟩ := H
    refine mj_getf (v := .int (mj_i μ b1 9)) hb2 kc_K 9 (by decide) tw_232 md_T_choose_44 ht16 rfl ?_
    refine mj_iconst (v := 1) md_T_choose_47 (by decide) ?_
    obtain ⟨H1, H2⟩ := H
    refine mj_icmp_ne (tgt := 67) md_T_choose_48 (by decide) (fun hx => ?_) (fun hx => ?_)
    · replace H := H1 hx
      refine mj_aload 3 md_T_choose_67 rfl ?_
      refine mj_getf (v := va_rf (mj_r μ b1 17)) hb2 kc_K 17 (by decide) tw_245 md_T_choose_69 ht16 rfl ?_
      refine mj_astore (lv' := [(4, va_rf (mj_r μ b1 17)), (1, va_rf v1), (2, va_rf v2), (3, va_rf v3)]) md_T_choose_72 (by decide) (by first | rfl | (simp [mj_rfc]; done) | (simp [mj_rfc]; rfl)) ?_
      refine mj_goto (tgt := 37) md_T_choose_74 (by decide) ?_
      exact mj_lvs [1, 2, 3, 0] rfl H
    · replace H := H2 hx
      refine mj_aload_n 2 md_T_choose_51 rfl ?_
      obtain ⟨H1, H2⟩ := H
      refine mj_ifnull (tgt := 64) md_T_choose_52 (by decide) (fun hb => ?_) (fun b17 hb18 => ?_)
      · replace H := H1 hb
        refine mj_aload 3 md_T_choose_64 rfl ?_
        refine mj_astn (i := 3) (lv' := [(3, va_rf v4), (1, va_rf v1), (2, va_rf v2), (4, va_rf v4)]) md_T_choose_66 rfl (by decide) (by first | rfl | (simp [mj_rfc]; done) | (simp [mj_rfc]; rfl)) ?_
        refine mj_aload 3 md_T_choose_67 rfl ?_
        refine mj_getf (v := va_rf (mj_r μ b1 17)) hb2 kc_K 17 (by decide) tw_245 md_T_choose_69 ht16 rfl ?_
        refine mj_astore (lv' := [(4, va_rf (mj_r μ b1 17)), (3, va_rf v4), (1, va_rf v1), (2, va_rf v2)]) md_T_choose_72 (by decide) (by first | rfl | (simp [mj_rfc]; done) | (simp [mj_rfc]; rfl)) ?_
        refine mj_goto (tgt := 37) md_T_choose_74 (by decide) ?_
        exact mj_lvs [2, 3, 1, 0] rfl H
      · replace H := H2 b17 hb18
        refine mj_aload 3 md_T_choose_55 rfl ?_
        refine mj_aload_n 2 md_T_choose_57 rfl ?_
        obtain ⟨P, hM, H⟩ := H
        exact mj_callV (n := 1) (As := [va_rf v3]) hb2 hM kc_K ht16 ⟨tw_429, tw_9, tw_432, ⟨by decide, by decide, by decide +kernel⟩, by decide, by decide⟩ tw_430 tw_431 rfl md_T_choose_58 (by first | decide | (simp only [List.map_cons, List.map_nil, List.sum_cons, List.sum_nil, mj_rfc, mj_ci, mj_cl]; done) | (simp only [List.map_cons, List.map_nil, List.sum_cons, List.sum_nil, mj_rfc, mj_ci, mj_cl]; decide)) id (mj_kI (fun x μ' hP e1 e2 => mj_lvs [0, 1, 2, 3] rfl (H x μ' hP e1 e2)))

set_option maxRecDepth 20000 in
theorem bk_T_choose_61 {G : mj_G} {Ex : Option Value → mj_MM → Prop} {N S : Nat} {μ : mj_MM} {v1 : Option Nat} {v2 : Option Nat} {v3 : Option Nat} {v4 : Option Nat} {s0 : Int32}
    (H : ((s0 = 0 → (∃ b1 : Nat, (v4 = some b1) ∧ (mj_t μ b1 = 9) ∧ mj_J G mY_T_choose Ex N S 37 [(1, va_rf v1), (2, va_rf v2), (3, va_rf v3), (4, va_rf (mj_r μ b1 17))] [] μ)) ∧ (¬ s0 = 0 → (∃ b4 : Nat, (v4 = some b4) ∧ (mj_t μ b4 = 9) ∧ mj_J G mY_T_choose Ex N S 37 [(1, va_rf v1), (2, va_rf v2), (3, va_rf v4), (4, va_rf (mj_r μ b4 17))] [] μ)))) :
    mj_J G mY_T_choose Ex N S 61 [(1, va_rf v1), (2, va_rf v2), (3, va_rf v3), (4, va_rf v4)] [.int s0] μ := by
  obtain ⟨H1, H2⟩ := H
  refine mj_if_eq (tgt := 67) md_T_choose_61 (by decide) (fun hx => ?_) (fun hx => ?_)
  · replace H := H1 hx
    refine mj_aload 3 md_T_choose_67 rfl ?_
    obtain ⟨b1, hb2, H⟩ := H
    obtain ⟨ht3, H⟩ := H
    refine mj_getf (v := va_rf (mj_r μ b1 17)) hb2 kc_K 17 (by decide) tw_245 md_T_choose_69 ht3 rfl ?_
    refine mj_astore (lv' := [(4, va_rf (mj_r μ b1 17)), (1, va_rf v1), (2, va_rf v2), (3, va_rf v3)]) md_T_choose_72 (by decide) (by first | rfl | (simp [mj_rfc]; done) | (simp [mj_rfc]; rfl)) ?_
    refine mj_goto (tgt := 37) md_T_choose_74 (by decide) ?_
    exact mj_lvs [1, 2, 3, 0] rfl H
  · replace H := H2 hx
    refine mj_aload 3 md_T_choose_64 rfl ?_
    refine mj_astn (i := 3) (lv' := [(3, va_rf v4), (1, va_rf v1), (2, va_rf v2), (4, va_rf v4)]) md_T_choose_66 rfl (by decide) (by first | rfl | (simp [mj_rfc]; done) | (simp [mj_rfc]; rfl)) ?_
    refine mj_aload 3 md_T_choose_67 rfl ?_
    obtain ⟨b4, hb5, H⟩ := H
    obtain ⟨ht6, H⟩ := H
    refine mj_getf (v := va_rf (mj_r μ b4 17)) hb5 kc_K 17 (by decide) tw_245 md_T_choose_69 ht6 rfl ?_
    refine mj_astore (lv' := [(4, va_rf (mj_r μ b4 17)), (3, va_rf v4), (1, va_rf v1), (2, va_rf v2)]) md_T_choose_72 (by decide) (by first | rfl | (simp [mj_rfc]; done) | (simp [mj_rfc]; rfl)) ?_
    refine mj_goto (tgt := 37) md_T_choose_74 (by decide) ?_
    exact mj_lvs [2, 3, 1, 0] rfl H

set_option maxRecDepth 20000 in
theorem bk_T_startsToSpin_0 {G : mj_G} {Ex : Option Value → mj_MM → Prop} {N S : Nat} {μ : mj_MM} {v0 : Option Nat} {v1 : Option Nat}
    (H : ((v1 = none → Ex (some (.int 0)) μ) ∧ (∀ b1 : Nat, v1 = some b1 → ((mj_t μ b1 = 5) ∧ ((mj_r μ b1 0 = none → Ex (some (.int 0)) μ) ∧ (∀ b4 : Nat, mj_r μ b1 0 = some b4 → ((¬ mj_r μ b1 0 = v0 → (∃ P : mj_MM → Prop, mj_M G my_L_addToQueue mY_L_addToQueue [va_rf (some b1), va_rf v0] (mj_nc μ) (mj_ns μ) μ (mj_XV P) ∧ ∀ (μ' : mj_MM), P μ' → mj_nc μ' = mj_nc μ → mj_ns μ' = mj_ns μ → mj_J G mY_T_startsToSpin Ex N S 26 [] [] μ')) ∧ (mj_r μ b1 0 = v0 → Ex (some (.int 0)) μ)))))))) :
    mj_J G mY_T_startsToSpin Ex N S 0 [(0, va_rf v0), (1, va_rf v1)] [] μ := by
  refine mj_aload_n 1 md_T_startsToSpin_0 rfl ?_
  obtain ⟨H1, H2⟩ := H
  refine mj_ifnull (tgt := 19) md_T_startsToSpin_1 (by decide) (fun hb => ?_) (fun b1 hb2 => ?_)
  · replace H := H1 hb
    refine mj_iconst (v := 0) md_T_startsToSpin_19 (by decide) ?_
    exact mj_ireturn md_T_startsToSpin_20 rfl (by decide) H
  · replace H := H2 b1 hb2
    refine mj_aload_n 1 md_T_startsToSpin_4 rfl ?_
    obtain ⟨ht3, H⟩ := H
    refine mj_getf (v := va_rf (mj_r μ b1 0)) hb2 kc_L 0 (by decide) tw_129 md_T_startsToSpin_5 ht3 rfl ?_
    obtain ⟨H1, H2⟩ := H
    refine mj_ifnull (tgt := 19) md_T_startsToSpin_8 (by decide) (fun hb => ?_) (fun b4 hb5 => ?_)
    · replace H := H1 hb
      refine mj_iconst (v := 0) md_T_startsToSpin_19 (by decide) ?_
      exact mj_ireturn md_T_startsToSpin_20 rfl (by decide) H
    · replace H := H2 b4 hb5
      refine mj_aload_n 1 md_T_startsToSpin_11 rfl ?_
      refine mj_getf (v := va_rf (mj_r μ b1 0)) hb2 kc_L 0 (by decide) tw_129 md_T_startsToSpin_12 ht3 rfl ?_
      refine mj_aload_n 0 md_T_startsToSpin_15 rfl ?_
      obtain ⟨H1, H2⟩ := H
      refine mj_acmp_ne (tgt := 21) md_T_startsToSpin_16 (by decide) (fun hx => ?_) (fun hx => ?_)
      · replace H := H1 hx
        refine mj_aload_n 1 md_T_startsToSpin_21 rfl ?_
        refine mj_aload_n 0 md_T_startsToSpin_22 rfl ?_
        obtain ⟨P, hM, H⟩ := H
        exact mj_callV (n := 1) (As := [va_rf v0]) hb2 hM kc_L ht3 ⟨tw_445, tw_7, tw_448, ⟨by decide, by decide, by decide +kernel⟩, by decide, by decide⟩ tw_446 tw_447 rfl md_T_startsToSpin_23 (by first | decide | (simp only [List.map_cons, List.map_nil, List.sum_cons, List.sum_nil, mj_rfc, mj_ci, mj_cl]; done) | (simp only [List.map_cons, List.map_nil, List.sum_cons, List.sum_nil, mj_rfc, mj_ci, mj_cl]; decide)) id (mj_kV (fun μ' hP e1 e2 => mj_lvs [] rfl (H μ' hP e1 e2)))
      · replace H := H2 hx
        refine mj_iconst (v := 0) md_T_startsToSpin_19 (by decide) ?_
        exact mj_ireturn md_T_startsToSpin_20 rfl (by decide) H

set_option maxRecDepth 20000 in
theorem bk_T_startsToSpin_26 {G : mj_G} {Ex : Option Value → mj_MM → Prop} {N S : Nat} {μ : mj_MM}
    (H : Ex (some (.int 1)) μ) :
    mj_J G mY_T_startsToSpin Ex N S 26 [] [] μ := by
  refine mj_iconst (v := 1) md_T_startsToSpin_26 (by decide) ?_
  exact mj_ireturn md_T_startsToSpin_27 rfl (by decide) H

set_option maxRecDepth 20000 in
theorem bk_T_doNextPart_0 {G : mj_G} {Ex : Option Value → mj_MM → Prop} {N S : Nat} {μ : mj_MM} {h0 : Nat} {v1 : Option Nat}
    (H : (∃ b1 : Nat, (v1 = some b1) ∧ (mj_t μ b1 = 9) ∧ ((mj_r μ b1 7 = none → ((mj_t μ h0 = 1) ∧ (∃ (N' S' : Nat) (P : mj_MM → Prop), mj_M G my_T_endTask mY_T_endTask [va_rf (some h0), va_rf v1] N' S' μ (mj_XV P) ∧ (N' ≤ N ∧ S' ≤ S) ∧ ∀ (μ' : mj_MM), P μ' → mj_nc μ' = N' → mj_ns μ' = S' → mj_J G mY_T_doNextPart Ex N S 14 [] [] μ'))) ∧ (∀ b4 : Nat, mj_r μ b1 7 = some b4 → ((mj_t μ b4 = 7) ∧ ((mj_i μ b4 0 = 1 → ((mj_t μ h0 = 1) ∧ (∃ (N' S' : Nat) (P : mj_MM → Prop), mj_M G my_T_activateByTask mY_T_activateByTask [va_rf (some h0), va_rf v1, .int (mj_i μ b4 1)] N' S' (mj_pR μ b1 7 (mj_r μ b4 2)) (mj_XV P) ∧ (N' ≤ N ∧ S' ≤ S) ∧ ∀ (μ' : mj_MM), P μ' → mj_nc μ' = N' → mj_ns μ' = S' → mj_J G mY_T_doNextPart Ex N S 106 [] [] μ'))) ∧ (mj_i μ b4 0 = 2 → ((mj_t μ h0 = 1) ∧ (∃ (N' S' : Nat) (P : mj_MM → Prop), mj_M G my_T_chain mY_T_chain [va_rf (some h0), va_rf v1, .int (mj_i μ b4 1)] N' S' (mj_pR μ b1 7 (mj_r μ b4 2)) (mj_XV P) ∧ (N' ≤ N ∧ S' ≤ S) ∧ ∀ (μ' : mj_MM), P μ' → mj_nc μ' = N' → mj_ns μ' = S' → mj_J G mY_T_doNextPart Ex N S 115 [] [] μ'))) ∧ (mj_i μ b4 0 = 3 → ((mj_t μ h0 = 1) ∧ (∃ (N' S' : Nat) (P : mj_MM → Prop), mj_M G my_T_waitFor mY_T_waitFor [va_rf (some h0), va_rf v1, .int (mj_i μ b4 1)] N' S' (mj_pR μ b1 7 (mj_r μ b4 2)) (mj_XV P) ∧ (N' ≤ N ∧ S' ≤ S) ∧ ∀ (μ' : mj_MM), P μ' → mj_nc μ' = N' → mj_ns μ' = S' → mj_J G mY_T_doNextPart Ex N S 124 [] [] μ'))) ∧ (mj_i μ b4 0 = 4 → ((mj_t μ h0 = 1) ∧ (∃ (N' S' : Nat) (P : mj_MM → Prop), mj_M G my_T_setByTask mY_T_setByTask [va_rf (some h0), va_rf v1, .int ((mj_i μ b4 1) / 65536), .int ((mj_i μ b4 1) - (mj_i μ b4 1) / 65536 * 65536)] N' S' (mj_pR μ b1 7 (mj_r μ b4 2)) (mj_XV P) ∧ (N' ≤ N ∧ S' ≤ S) ∧ ∀ (μ' : mj_MM), P μ' → mj_nc μ' = N' → mj_ns μ' = S' → mj_J G mY_T_doNextPart Ex N S 140 [] [] μ'))) ∧ (mj_i μ b4 0 = 5 → ((mj_t μ h0 = 1) ∧ (∃ (N' S' : Nat) (P : mj_MM → Prop), mj_M G my_T_clearEvents mY_T_clearEvents [va_rf (some h0), va_rf v1, .int (mj_i μ b4 1)] N' S' (mj_pR μ b1 7 (mj_r μ b4 2)) (mj_XV P) ∧ (N' ≤ N ∧ S' ≤ S) ∧ ∀ (μ' : mj_MM), P μ' → mj_nc μ' = N' → mj_ns μ' = S' → mj_J G mY_T_doNextPart Ex N S 149 [] [] μ'))) ∧ (mj_i μ b4 0 = 6 → ((mj_t μ h0 = 1) ∧ (∃ P : Option Nat → mj_MM → Prop, mj_M G my_T_resourceOf mY_T_resourceOf [va_rf (some h0), .int (mj_i μ b4 1)] (mj_nc μ) (mj_ns μ) (mj_pR μ b1 7 (mj_r μ b4 2)) (mj_XR P) ∧ ∀ (x : Option Nat) (μ' : mj_MM), P x μ' → mj_nc μ' = mj_nc μ → mj_ns μ' = mj_ns μ → mj_J G mY_T_doNextPart Ex N S 159 [] [va_rf x, va_rf v1, va_rf (some h0)] μ'))) ∧ (mj_i μ b4 0 = 7 → ((mj_t μ h0 = 1) ∧ (∃ P : Option Nat → mj_MM → Prop, mj_M G my_T_resourceOf mY_T_resourceOf [va_rf (some h0), .int (mj_i μ b4 1)] (mj_nc μ) (mj_ns μ) (mj_pR μ b1 7 (mj_r μ b4 2)) (mj_XR P) ∧ ∀ (x : Option Nat) (μ' : mj_MM), P x μ' → mj_nc μ' = mj_nc μ → mj_ns μ' = mj_ns μ → mj_J G mY_T_doNextPart Ex N S 172 [] [va_rf x, va_rf v1, va_rf (some h0)] μ'))) ∧ (mj_i μ b4 0 = 8 → ((mj_t μ h0 = 1) ∧ (∃ P : Option Nat → mj_MM → Prop, mj_M G my_T_lockOf mY_T_lockOf [va_rf (some h0), .int (mj_i μ b4 1)] (mj_nc μ) (mj_ns μ) (mj_pR μ b1 7 (mj_r μ b4 2)) (mj_XR P) ∧ ∀ (x : Option Nat) (μ' : mj_MM), P x μ' → mj_nc μ' = mj_nc μ → mj_ns μ' = mj_ns μ → mj_J G mY_T_doNextPart Ex N S 185 [] [va_rf x, va_rf v1, va_rf (some h0)] μ'))) ∧ (mj_i μ b4 0 = 9 → ((mj_t μ h0 = 1) ∧ (∃ P : Option Nat → mj_MM → Prop, mj_M G my_T_lockOf mY_T_lockOf [va_rf (some h0), .int (mj_i μ b4 1)] (mj_nc μ) (mj_ns μ) (mj_pR μ b1 7 (mj_r μ b4 2)) (mj_XR P) ∧ ∀ (x : Option Nat) (μ' : mj_MM), P x μ' → mj_nc μ' = mj_nc μ → mj_ns μ' = mj_ns μ → mj_J G mY_T_doNextPart Ex N S 198 [] [va_rf x, va_rf v1, va_rf (some h0)] μ'))) ∧ (mj_i μ b4 0 = 10 → (∃ b17 : Nat, (mj_r μ b1 2 = some b17) ∧ (mj_t μ b17 = 2) ∧ Ex none (mj_pI (mj_pR μ b1 7 (mj_r μ b4 2)) b17 6 1))) ∧ (mj_i μ b4 0 = 11 → ((mj_t μ h0 = 1) ∧ (∃ (N' S' : Nat) (P : mj_MM → Prop), mj_M G my_T_endTask mY_T_endTask [va_rf (some h0), va_rf v1] N' S' (mj_pR μ b1 7 (mj_r μ b4 2)) (mj_XV P) ∧ (N' ≤ N ∧ S' ≤ S) ∧ ∀ (μ' : mj_MM), P μ' → mj_nc μ' = N' → mj_ns μ' = S' → mj_J G mY_T_doNextPart Ex N S 220 [] [] μ'))) ∧ (mj_i μ b4 0 = 12 → ((mj_t μ h0 = 1) ∧ (∃ (N' S' : Nat) (P : mj_MM → Prop), mj_M G my_T_putOff mY_T_putOff [va_rf (some h0), va_rf v1, .int (mj_i μ b4 1)] N' S' (mj_pR μ b1 7 (mj_r μ b4 2)) (mj_XV P) ∧ (N' ≤ N ∧ S' ≤ S) ∧ ∀ (μ' : mj_MM), P μ' → mj_nc μ' = N' → mj_ns μ' = S' → mj_J G mY_T_doNextPart Ex N S 229 [] [] μ'))) ∧ (mj_i μ b4 0 = 13 → ((mj_t μ h0 = 1) ∧ (∃ (N' S' : Nat) (P : mj_MM → Prop), mj_M G my_T_putOn mY_T_putOn [va_rf (some h0), va_rf v1] N' S' (mj_pR μ b1 7 (mj_r μ b4 2)) (mj_XV P) ∧ (N' ≤ N ∧ S' ≤ S) ∧ ∀ (μ' : mj_MM), P μ' → mj_nc μ' = N' → mj_ns μ' = S' → mj_J G mY_T_doNextPart Ex N S 237 [] [] μ'))) ∧ ((mj_i μ b4 0).toInt < 1 ∨ 13 < (mj_i μ b4 0).toInt → Ex none (mj_pR μ b1 7 (mj_r μ b4 2))))))))) :
    mj_J G mY_T_doNextPart Ex N S 0 [(0, va_rf (some h0)), (1, va_rf v1)] [] μ := by
  refine mj_aload_n 1 md_T_doNextPart_0 rfl ?_
  obtain ⟨b1, hb2, H⟩ := H
  obtain ⟨ht3, H⟩ := H
  refine mj_getf (v := va_rf (mj_r μ b1 7)) hb2 kc_K 7 (by decide) tw_229 md_T_doNextPart_1 ht3 rfl ?_
  refine mj_astn (i := 2) (lv' := [(2, va_rf (mj_r μ b1 7)), (0, va_rf (some h0)), (1, va_rf v1)]) md_T_doNextPart_4 rfl (by decide) (by first | rfl | (simp [mj_rfc]; done) | (simp [mj_rfc]; rfl)) ?_
  refine mj_aload_n 0 md_T_doNextPart_5 rfl ?_
  obtain ⟨H1, H2⟩ := H
  refine mj_ifnonnull (tgt := 15) md_T_doNextPart_6 (by decide) (fun b4 hb5 => ?_) (fun hb => ?_)
  · replace H := H2 b4 hb5
    refine mj_aload_n 2 md_T_doNextPart_15 rfl ?_
    refine mj_aload_n 0 md_T_doNextPart_16 rfl ?_
    obtain ⟨ht7, H⟩ := H
    refine mj_getf (v := va_rf (mj_r μ b4 2)) hb5 kc_P 2 (by decide) tw_204 md_T_doNextPart_17 ht7 rfl ?_
    refine mj_putR hb2 kc_K 7 (by decide) rfl tw_229 md_T_doNextPart_20 (Or.inl rfl) ht3 ?_
    refine mj_aload_n 0 md_T_doNextPart_23 rfl ?_
    refine mj_getf (v := .int (mj_i μ b4 1)) hb5 kc_P 1 (by decide) tw_201 md_T_doNextPart_24 ht7 rfl ?_
    refine mj_istn (i := 3) (lv' := [(3, .int (mj_i μ b4 1)), (2, va_rf (mj_r μ b1 7)), (0, va_rf (some h0)), (1, va_rf v1)]) md_T_doNextPart_27 rfl (by decide) (by first | rfl | (simp [mj_rfc]; done) | (simp [mj_rfc]; rfl)) ?_
    refine mj_aload_n 1 md_T_doNextPart_28 rfl ?_
    refine mj_getf (v := .int (mj_i μ b4 0)) hb5 kc_P 0 (by decide) tw_198 md_T_doNextPart_29 ht7 rfl ?_
    obtain ⟨H0, H1, H2, H3, H4, H5, H6, H7, H8, H9, H10, H11, H12, H13⟩ := H
    by_cases hlo : (mj_i μ b4 0).toInt < 1
    · refine mj_tableOut (tgt := 240) md_T_doNextPart_32 (Or.inl hlo) (by decide) ?_
      have H := H13 (Or.inl hlo)
      exact mj_return md_T_doNextPart_240 rfl H
    by_cases hhi : 13 < (mj_i μ b4 0).toInt
    · refine mj_tableOut (tgt := 240) md_T_doNextPart_32 (Or.inr hhi) (by decide) ?_
      have H := H13 (Or.inr hhi)
      exact mj_return md_T_doNextPart_240 rfl H
    by_cases hq0 : mj_i μ b4 0 = 1
    · refine mj_tableIn (off := 68) (tgt := 100) md_T_doNextPart_32 hlo hhi (by rw [hq0]; decide) (by decide) ?_
      have H := H0 hq0
      refine mj_aload_n 2 md_T_doNextPart_100 rfl ?_
      refine mj_aload_n 3 md_T_doNextPart_101 rfl ?_
      refine mj_iload_n 0 md_T_doNextPart_102 rfl ?_
      obtain ⟨ht8, H⟩ := H
      obtain ⟨N', S', P, hM, hNS, H⟩ := H
      exact mj_callV (n := 2) (As := [va_rf v1, .int (mj_i μ b4 1)]) rfl hM kc_T ht8 ⟨tw_465, tw_1, tw_468, ⟨by decide, by decide, by decide +kernel⟩, by decide, by decide⟩ tw_467 tp_17 rfl md_T_doNextPart_103 (by first | decide | (simp only [List.map_cons, List.map_nil, List.sum_cons, List.sum_nil, mj_rfc, mj_ci, mj_cl]; done) | (simp only [List.map_cons, List.map_nil, List.sum_cons, List.sum_nil, mj_rfc, mj_ci, mj_cl]; decide)) (fun _ => hNS) (mj_kV (fun μ' hP e1 e2 => mj_lvs [] rfl (H μ' hP e1 e2)))
    by_cases hq1 : mj_i μ b4 0 = 2
    · refine mj_tableIn (off := 77) (tgt := 109) md_T_doNextPart_32 hlo hhi (by rw [hq1]; decide) (by decide) ?_
      have H := H1 hq1
      refine mj_aload_n 2 md_T_doNextPart_109 rfl ?_
      refine mj_aload_n 3 md_T_doNextPart_110 rfl ?_
      refine mj_iload_n 0 md_T_doNextPart_111 rfl ?_
      obtain ⟨ht9, H⟩ := H
      obtain ⟨N', S', P, hM, hNS, H⟩ := H
      exact mj_callV (n := 2) (As := [va_rf v1, .int (mj_i μ b4 1)]) rfl hM kc_T ht9 ⟨tw_469, tw_1, tw_472, ⟨by decide, by decide, by decide +kernel⟩, by decide, by decide⟩ tw_471 tp_18 rfl md_T_doNextPart_112 (by first | decide | (simp only [List.map_cons, List.map_nil, List.sum_cons, List.sum_nil, mj_rfc, mj_ci, mj_cl]; done) | (simp only [List.map_cons, List.map_nil, List.sum_cons, List.sum_nil, mj_rfc, mj_ci, mj_cl]; decide)) (fun _ => hNS) (mj_kV (fun μ' hP e1 e2 => mj_lvs [] rfl (H μ' hP e1 e2)))
    by_cases hq2 : mj_i μ b4 0 = 3
    · refine mj_tableIn (off := 86) (tgt := 118) md_T_doNextPart_32 hlo hhi (by rw [hq2]; decide) (by decide) ?_
      have H := H2 hq2
      refine mj_aload_n 2 md_T_doNextPart_118 rfl ?_
      refine mj_aload_n 3 md_T_doNextPart_119 rfl ?_
      refine mj_iload_n 0 md_T_doNextPart_120 rfl ?_
      obtain ⟨ht10, H⟩ := H
      obtain ⟨N', S', P, hM, hNS, H⟩ := H
      exact mj_callV (n := 2) (As := [va_rf v1, .int (mj_i μ b4 1)]) rfl hM kc_T ht10 ⟨tw_473, tw_1, tw_476, ⟨by decide, by decide, by decide +kernel⟩, by decide, by decide⟩ tw_475 tp_19 rfl md_T_doNextPart_121 (by first | decide | (simp only [List.map_cons, List.map_nil, List.sum_cons, List.sum_nil, mj_rfc, mj_ci, mj_cl]; done) | (simp only [List.map_cons, List.map_nil, List.sum_cons, List.sum_nil, mj_rfc, mj_ci, mj_cl]; decide)) (fun _ => hNS) (mj_kV (fun μ' hP e1 e2 => mj_lvs [] rfl (H μ' hP e1 e2)))
    by_cases hq3 : mj_i μ b4 0 = 4
    · refine mj_tableIn (off := 95) (tgt := 127) md_T_doNextPart_32 hlo hhi (by rw [hq3]; decide) (by decide) ?_
      have H := H3 hq3
      refine mj_aload_n 2 md_T_doNextPart_127 rfl ?_
      refine mj_aload_n 3 md_T_doNextPart_128 rfl ?_
      refine mj_iload_n 0 md_T_doNextPart_129 rfl ?_
      refine mj_ldc (v := 65536) tw_477 md_T_doNextPart_130 ?_
      refine mj_idiv md_T_doNextPart_132 (by decide) ?_
      refine mj_iload_n 0 md_T_doNextPart_133 rfl ?_
      refine mj_ldc (v := 65536) tw_477 md_T_doNextPart_134 ?_
      refine mj_irem md_T_doNextPart_136 (by decide) ?_
      obtain ⟨ht11, H⟩ := H
      obtain ⟨N', S', P, hM, hNS, H⟩ := H
      exact mj_callV (n := 3) (As := [va_rf v1, .int ((mj_i μ b4 1) / 65536), .int ((mj_i μ b4 1) - (mj_i μ b4 1) / 65536 * 65536)]) rfl hM kc_T ht11 ⟨tw_478, tw_1, tw_481, ⟨by decide, by decide, by decide +kernel⟩, by decide, by decide⟩ tw_480 tp_20 rfl md_T_doNextPart_137 (by first | decide | (simp only [List.map_cons, List.map_nil, List.sum_cons, List.sum_nil, mj_rfc, mj_ci, mj_cl]; done) | (simp only [List.map_cons, List.map_nil, List.sum_cons, List.sum_nil, mj_rfc, mj_ci, mj_cl]; decide)) (fun _ => hNS) (mj_kV (fun μ' hP e1 e2 => mj_lvs [] rfl (H μ' hP e1 e2)))
    by_cases hq4 : mj_i μ b4 0 = 5
    · refine mj_tableIn (off := 111) (tgt := 143) md_T_doNextPart_32 hlo hhi (by rw [hq4]; decide) (by decide) ?_
      have H := H4 hq4
      refine mj_aload_n 2 md_T_doNextPart_143 rfl ?_
      refine mj_aload_n 3 md_T_doNextPart_144 rfl ?_
      refine mj_iload_n 0 md_T_doNextPart_145 rfl ?_
      obtain ⟨ht12, H⟩ := H
      obtain ⟨N', S', P, hM, hNS, H⟩ := H
      exact mj_callV (n := 2) (As := [va_rf v1, .int (mj_i μ b4 1)]) rfl hM kc_T ht12 ⟨tw_490, tw_1, tw_493, ⟨by decide, by decide, by decide +kernel⟩, by decide, by decide⟩ tw_492 tp_22 rfl md_T_doNextPart_146 (by first | decide | (simp only [List.map_cons, List.map_nil, List.sum_cons, List.sum_nil, mj_rfc, mj_ci, mj_cl]; done) | (simp only [List.map_cons, List.map_nil, List.sum_cons, List.sum_nil, mj_rfc, mj_ci, mj_cl]; decide)) (fun _ => hNS) (mj_kV (fun μ' hP e1 e2 => mj_lvs [] rfl (H μ' hP e1 e2)))
    by_cases hq5 : mj_i μ b4 0 = 6
    · refine mj_tableIn (off := 120) (tgt := 152) md_T_doNextPart_32 hlo hhi (by rw [hq5]; decide) (by decide) ?_
      have H := H5 hq5
      refine mj_aload_n 2 md_T_doNextPart_152 rfl ?_
      refine mj_aload_n 3 md_T_doNextPart_153 rfl ?_
      refine mj_aload_n 2 md_T_doNextPart_154 rfl ?_
      refine mj_iload_n 0 md_T_doNextPart_155 rfl ?_
      obtain ⟨ht13, H⟩ := H
      obtain ⟨P, hM, H⟩ := H
      exact mj_callV (n := 1) (As := [.int (mj_i μ b4 1)]) rfl hM kc_T ht13 ⟨tw_306, tw_1, tw_309, ⟨by decide, by decide, by decide +kernel⟩, by decide, by decide⟩ tw_308 tp_2 rfl md_T_doNextPart_156 (by first | decide | (simp only [List.map_cons, List.map_nil, List.sum_cons, List.sum_nil, mj_rfc, mj_ci, mj_cl]; done) | (simp only [List.map_cons, List.map_nil, List.sum_cons, List.sum_nil, mj_rfc, mj_ci, mj_cl]; decide)) id (mj_kR (fun x μ' hP e1 e2 => mj_lvs [] rfl (H x μ' hP e1 e2)))
    by_cases hq6 : mj_i μ b4 0 = 7
    · refine mj_tableIn (off := 133) (tgt := 165) md_T_doNextPart_32 hlo hhi (by rw [hq6]; decide) (by decide) ?_
      have H := H6 hq6
      refine mj_aload_n 2 md_T_doNextPart_165 rfl ?_
      refine mj_aload_n 3 md_T_doNextPart_166 rfl ?_
      refine mj_aload_n 2 md_T_doNextPart_167 rfl ?_
      refine mj_iload_n 0 md_T_doNextPart_168 rfl ?_
      obtain ⟨ht14, H⟩ := H
      obtain ⟨P, hM, H⟩ := H
      exact mj_callV (n := 1) (As := [.int (mj_i μ b4 1)]) rfl hM kc_T ht14 ⟨tw_306, tw_1, tw_309, ⟨by decide, by decide, by decide +kernel⟩, by decide, by decide⟩ tw_308 tp_2 rfl md_T_doNextPart_169 (by first | decide | (simp only [List.map_cons, List.map_nil, List.sum_cons, List.sum_nil, mj_rfc, mj_ci, mj_cl]; done) | (simp only [List.map_cons, List.map_nil, List.sum_cons, List.sum_nil, mj_rfc, mj_ci, mj_cl]; decide)) id (mj_kR (fun x μ' hP e1 e2 => mj_lvs [] rfl (H x μ' hP e1 e2)))
    by_cases hq7 : mj_i μ b4 0 = 8
    · refine mj_tableIn (off := 146) (tgt := 178) md_T_doNextPart_32 hlo hhi (by rw [hq7]; decide) (by decide) ?_
      have H := H7 hq7
      refine mj_aload_n 2 md_T_doNextPart_178 rfl ?_
      refine mj_aload_n 3 md_T_doNextPart_179 rfl ?_
      refine mj_aload_n 2 md_T_doNextPart_180 rfl ?_
      refine mj_iload_n 0 md_T_doNextPart_181 rfl ?_
      obtain ⟨ht15, H⟩ := H
      obtain ⟨P, hM, H⟩ := H
      exact mj_callV (n := 1) (As := [.int (mj_i μ b4 1)]) rfl hM kc_T ht15 ⟨tw_438, tw_1, tw_441, ⟨by decide, by decide, by decide +kernel⟩, by decide, by decide⟩ tw_440 tp_13 rfl md_T_doNextPart_182 (by first | decide | (simp only [List.map_cons, List.map_nil, List.sum_cons, List.sum_nil, mj_rfc, mj_ci, mj_cl]; done) | (simp only [List.map_cons, List.map_nil, List.sum_cons, List.sum_nil, mj_rfc, mj_ci, mj_cl]; decide)) id (mj_kR (fun x μ' hP e1 e2 => mj_lvs [] rfl (H x μ' hP e1 e2)))
    by_cases hq8 : mj_i μ b4 0 = 9
    · refine mj_tableIn (off := 159) (tgt := 191) md_T_doNextPart_32 hlo hhi (by rw [hq8]; decide) (by decide) ?_
      have H := H8 hq8
      refine mj_aload_n 2 md_T_doNextPart_191 rfl ?_
      refine mj_aload_n 3 md_T_doNextPart_192 rfl ?_
      refine mj_aload_n 2 md_T_doNextPart_193 rfl ?_
      refine mj_iload_n 0 md_T_doNextPart_194 rfl ?_
      obtain ⟨ht16, H⟩ := H
      obtain ⟨P, hM, H⟩ := H
      exact mj_callV (n := 1) (As := [.int (mj_i μ b4 1)]) rfl hM kc_T ht16 ⟨tw_438, tw_1, tw_441, ⟨by decide, by decide, by decide +kernel⟩, by decide, by decide⟩ tw_440 tp_13 rfl md_T_doNextPart_195 (by first | decide | (simp only [List.map_cons, List.map_nil, List.sum_cons, List.sum_nil, mj_rfc, mj_ci, mj_cl]; done) | (simp only [List.map_cons, List.map_nil, List.sum_cons, List.sum_nil, mj_rfc, mj_ci, mj_cl]; decide)) id (mj_kR (fun x μ' hP e1 e2 => mj_lvs [] rfl (H x μ' hP e1 e2)))
    by_cases hq9 : mj_i μ b4 0 = 10
    · refine mj_tableIn (off := 172) (tgt := 204) md_T_doNextPart_32 hlo hhi (by rw [hq9]; decide) (by decide) ?_
      have H := H9 hq9
      refine mj_aload_n 3 md_T_doNextPart_204 rfl ?_
      refine mj_getf (v := va_rf (mj_r μ b1 2)) hb2 kc_K 2 (by decide) tw_218 md_T_doNextPart_205 ht3 rfl ?_
      refine mj_iconst (v := 1) md_T_doNextPart_208 (by decide) ?_
      obtain ⟨b17, hb18, H⟩ := H
      obtain ⟨ht19, H⟩ := H
      refine mj_putI hb18 kc_C 6 (by decide) rfl tw_90 md_T_doNextPart_209 (Or.inl rfl) ht19 (by decide) (by decide) ?_
      refine mj_goto (tgt := 240) md_T_doNextPart_212 (by decide) ?_
      exact mj_return md_T_doNextPart_240 rfl H
    by_cases hq10 : mj_i μ b4 0 = 11
    · refine mj_tableIn (off := 183) (tgt := 215) md_T_doNextPart_32 hlo hhi (by rw [hq10]; decide) (by decide) ?_
      have H := H10 hq10
      refine mj_aload_n 2 md_T_doNextPart_215 rfl ?_
      refine mj_aload_n 3 md_T_doNextPart_216 rfl ?_
      obtain ⟨ht20, H⟩ := H
      obtain ⟨N', S', P, hM, hNS, H⟩ := H
      exact mj_callV (n := 1) (As := [va_rf v1]) rfl hM kc_T ht20 ⟨tw_453, tw_1, tw_456, ⟨by decide, by decide, by decide +kernel⟩, by decide, by decide⟩ tw_455 tp_15 rfl md_T_doNextPart_217 (by first | decide | (simp only [List.map_cons, List.map_nil, List.sum_cons, List.sum_nil, mj_rfc, mj_ci, mj_cl]; done) | (simp only [List.map_cons, List.map_nil, List.sum_cons, List.sum_nil, mj_rfc, mj_ci, mj_cl]; decide)) (fun _ => hNS) (mj_kV (fun μ' hP e1 e2 => mj_lvs [] rfl (H μ' hP e1 e2)))
    by_cases hq11 : mj_i μ b4 0 = 12
    · refine mj_tableIn (off := 191) (tgt := 223) md_T_doNextPart_32 hlo hhi (by rw [hq11]; decide) (by decide) ?_
      have H := H11 hq11
      refine mj_aload_n 2 md_T_doNextPart_223 rfl ?_
      refine mj_aload_n 3 md_T_doNextPart_224 rfl ?_
      refine mj_iload_n 0 md_T_doNextPart_225 rfl ?_
      obtain ⟨ht21, H⟩ := H
      obtain ⟨N', S', P, hM, hNS, H⟩ := H
      exact mj_callV (n := 2) (As := [va_rf v1, .int (mj_i μ b4 1)]) rfl hM kc_T ht21 ⟨tw_510, tw_1, tw_513, ⟨by decide, by decide, by decide +kernel⟩, by decide, by decide⟩ tw_512 tp_27 rfl md_T_doNextPart_226 (by first | decide | (simp only [List.map_cons, List.map_nil, List.sum_cons, List.sum_nil, mj_rfc, mj_ci, mj_cl]; done) | (simp only [List.map_cons, List.map_nil, List.sum_cons, List.sum_nil, mj_rfc, mj_ci, mj_cl]; decide)) (fun _ => hNS) (mj_kV (fun μ' hP e1 e2 => mj_lvs [] rfl (H μ' hP e1 e2)))
    have hq12 : mj_i μ b4 0 = 13 := by
        apply Int32.toInt_inj.mp
        have z : ∀ k : Int32, ¬ mj_i μ b4 0 = k → ¬ (mj_i μ b4 0).toInt = k.toInt := fun k h e => h (Int32.toInt_inj.mp e)
        have z0 := z 1 hq0
        rw [show (1 : Int32).toInt = 1 from by decide] at z0
        have z1 := z 2 hq1
        rw [show (2 : Int32).toInt = 2 from by decide] at z1
        have z2 := z 3 hq2
        rw [show (3 : Int32).toInt = 3 from by decide] at z2
        have z3 := z 4 hq3
        rw [show (4 : Int32).toInt = 4 from by decide] at z3
        have z4 := z 5 hq4
        rw [show (5 : Int32).toInt = 5 from by decide] at z4
        have z5 := z 6 hq5
        rw [show (6 : Int32).toInt = 6 from by decide] at z5
        have z6 := z 7 hq6
        rw [show (7 : Int32).toInt = 7 from by decide] at z6
        have z7 := z 8 hq7
        rw [show (8 : Int32).toInt = 8 from by decide] at z7
        have z8 := z 9 hq8
        rw [show (9 : Int32).toInt = 9 from by decide] at z8
        have z9 := z 10 hq9
        rw [show (10 : Int32).toInt = 10 from by decide] at z9
        have z10 := z 11 hq10
        rw [show (11 : Int32).toInt = 11 from by decide] at z10
        have z11 := z 12 hq11
        rw [show (12 : Int32).toInt = 12 from by decide] at z11
        show (mj_i μ b4 0).toInt = 13
        omega
    · refine mj_tableIn (off := 200) (tgt := 232) md_T_doNextPart_32 hlo hhi (by rw [hq12]; decide) (by decide) ?_
      have H := H12 hq12
      refine mj_aload_n 2 md_T_doNextPart_232 rfl ?_
      refine mj_aload_n 3 md_T_doNextPart_233 rfl ?_
      obtain ⟨ht22, H⟩ := H
      obtain ⟨N', S', P, hM, hNS, H⟩ := H
      exact mj_callV (n := 1) (As := [va_rf v1]) rfl hM kc_T ht22 ⟨tw_514, tw_1, tw_517, ⟨by decide, by decide, by decide +kernel⟩, by decide, by decide⟩ tw_516 tp_28 rfl md_T_doNextPart_234 (by first | decide | (simp only [List.map_cons, List.map_nil, List.sum_cons, List.sum_nil, mj_rfc, mj_ci, mj_cl]; done) | (simp only [List.map_cons, List.map_nil, List.sum_cons, List.sum_nil, mj_rfc, mj_ci, mj_cl]; decide)) (fun _ => hNS) (mj_kV (fun μ' hP e1 e2 => mj_lvs [] rfl (H μ' hP e1 e2)))
  · replace H := H1 hb
    refine mj_aload_n 1 md_T_doNextPart_9 rfl ?_
    refine mj_aload_n 2 md_T_doNextPart_10 rfl ?_
    obtain ⟨ht6, H⟩ := H
    obtain ⟨N', S', P, hM, hNS, H⟩ := H
    exact mj_callV (n := 1) (As := [va_rf v1]) rfl hM kc_T ht6 ⟨tw_453, tw_1, tw_456, ⟨by decide, by decide, by decide +kernel⟩, by decide, by decide⟩ tw_455 tp_15 rfl md_T_doNextPart_11 (by first | decide | (simp only [List.map_cons, List.map_nil, List.sum_cons, List.sum_nil, mj_rfc, mj_ci, mj_cl]; done) | (simp only [List.map_cons, List.map_nil, List.sum_cons, List.sum_nil, mj_rfc, mj_ci, mj_cl]; decide)) (fun _ => hNS) (mj_kV (fun μ' hP e1 e2 => mj_lvs [] rfl (H μ' hP e1 e2)))

set_option maxRecDepth 20000 in
theorem bk_T_doNextPart_14 {G : mj_G} {Ex : Option Value → mj_MM → Prop} {N S : Nat} {μ : mj_MM}
    (H : Ex none μ) :
    mj_J G mY_T_doNextPart Ex N S 14 [] [] μ := by
  exact mj_return md_T_doNextPart_14 rfl H

set_option maxRecDepth 20000 in
theorem bk_T_doNextPart_106 {G : mj_G} {Ex : Option Value → mj_MM → Prop} {N S : Nat} {μ : mj_MM}
    (H : Ex none μ) :
    mj_J G mY_T_doNextPart Ex N S 106 [] [] μ := by
  refine mj_goto (tgt := 240) md_T_doNextPart_106 (by decide) ?_
  exact mj_return md_T_doNextPart_240 rfl H

set_option maxRecDepth 20000 in
theorem bk_T_doNextPart_115 {G : mj_G} {Ex : Option Value → mj_MM → Prop} {N S : Nat} {μ : mj_MM}
    (H : Ex none μ) :
    mj_J G mY_T_doNextPart Ex N S 115 [] [] μ := by
  refine mj_goto (tgt := 240) md_T_doNextPart_115 (by decide) ?_
  exact mj_return md_T_doNextPart_240 rfl H

set_option maxRecDepth 20000 in
theorem bk_T_doNextPart_124 {G : mj_G} {Ex : Option Value → mj_MM → Prop} {N S : Nat} {μ : mj_MM}
    (H : Ex none μ) :
    mj_J G mY_T_doNextPart Ex N S 124 [] [] μ := by
  refine mj_goto (tgt := 240) md_T_doNextPart_124 (by decide) ?_
  exact mj_return md_T_doNextPart_240 rfl H

set_option maxRecDepth 20000 in
theorem bk_T_doNextPart_140 {G : mj_G} {Ex : Option Value → mj_MM → Prop} {N S : Nat} {μ : mj_MM}
    (H : Ex none μ) :
    mj_J G mY_T_doNextPart Ex N S 140 [] [] μ := by
  refine mj_goto (tgt := 240) md_T_doNextPart_140 (by decide) ?_
  exact mj_return md_T_doNextPart_240 rfl H

set_option maxRecDepth 20000 in
theorem bk_T_doNextPart_149 {G : mj_G} {Ex : Option Value → mj_MM → Prop} {N S : Nat} {μ : mj_MM}
    (H : Ex none μ) :
    mj_J G mY_T_doNextPart Ex N S 149 [] [] μ := by
  refine mj_goto (tgt := 240) md_T_doNextPart_149 (by decide) ?_
  exact mj_return md_T_doNextPart_240 rfl H

set_option maxRecDepth 20000 in
theorem bk_T_doNextPart_159 {G : mj_G} {Ex : Option Value → mj_MM → Prop} {N S : Nat} {μ : mj_MM} {h0 : Nat} {s0 : Option Nat} {s1 : Option Nat}
    (H : ((mj_t μ h0 = 1) ∧ (∃ (N' S' : Nat) (P : mj_MM → Prop), mj_M G my_T_getResource mY_T_getResource [va_rf (some h0), va_rf s1, va_rf s0] N' S' μ (mj_XV P) ∧ (N' ≤ N ∧ S' ≤ S) ∧ ∀ (μ' : mj_MM), P μ' → mj_nc μ' = N' → mj_ns μ' = S' → mj_J G mY_T_doNextPart Ex N S 162 [] [] μ'))) :
    mj_J G mY_T_doNextPart Ex N S 159 [] [va_rf s0, va_rf s1, va_rf (some h0)] μ := by
  obtain ⟨ht1, H⟩ := H
  obtain ⟨N', S', P, hM, hNS, H⟩ := H
  exact mj_callV (n := 2) (As := [va_rf s1, va_rf s0]) rfl hM kc_T ht1 ⟨tw_494, tw_1, tw_497, ⟨by decide, by decide, by decide +kernel⟩, by decide, by decide⟩ tw_496 tp_23 rfl md_T_doNextPart_159 (by first | decide | (simp only [List.map_cons, List.map_nil, List.sum_cons, List.sum_nil, mj_rfc, mj_ci, mj_cl]; done) | (simp only [List.map_cons, List.map_nil, List.sum_cons, List.sum_nil, mj_rfc, mj_ci, mj_cl]; decide)) (fun _ => hNS) (mj_kV (fun μ' hP e1 e2 => mj_lvs [] rfl (H μ' hP e1 e2)))

set_option maxRecDepth 20000 in
theorem bk_T_doNextPart_172 {G : mj_G} {Ex : Option Value → mj_MM → Prop} {N S : Nat} {μ : mj_MM} {h0 : Nat} {s0 : Option Nat} {s1 : Option Nat}
    (H : ((mj_t μ h0 = 1) ∧ (∃ (N' S' : Nat) (P : mj_MM → Prop), mj_M G my_T_freeResource mY_T_freeResource [va_rf (some h0), va_rf s1, va_rf s0] N' S' μ (mj_XV P) ∧ (N' ≤ N ∧ S' ≤ S) ∧ ∀ (μ' : mj_MM), P μ' → mj_nc μ' = N' → mj_ns μ' = S' → mj_J G mY_T_doNextPart Ex N S 175 [] [] μ'))) :
    mj_J G mY_T_doNextPart Ex N S 172 [] [va_rf s0, va_rf s1, va_rf (some h0)] μ := by
  obtain ⟨ht1, H⟩ := H
  obtain ⟨N', S', P, hM, hNS, H⟩ := H
  exact mj_callV (n := 2) (As := [va_rf s1, va_rf s0]) rfl hM kc_T ht1 ⟨tw_498, tw_1, tw_501, ⟨by decide, by decide, by decide +kernel⟩, by decide, by decide⟩ tw_500 tp_24 rfl md_T_doNextPart_172 (by first | decide | (simp only [List.map_cons, List.map_nil, List.sum_cons, List.sum_nil, mj_rfc, mj_ci, mj_cl]; done) | (simp only [List.map_cons, List.map_nil, List.sum_cons, List.sum_nil, mj_rfc, mj_ci, mj_cl]; decide)) (fun _ => hNS) (mj_kV (fun μ' hP e1 e2 => mj_lvs [] rfl (H μ' hP e1 e2)))

set_option maxRecDepth 20000 in
theorem bk_T_doNextPart_185 {G : mj_G} {Ex : Option Value → mj_MM → Prop} {N S : Nat} {μ : mj_MM} {h0 : Nat} {s0 : Option Nat} {s1 : Option Nat}
    (H : ((mj_t μ h0 = 1) ∧ (∃ (N' S' : Nat) (P : mj_MM → Prop), mj_M G my_T_takeLock mY_T_takeLock [va_rf (some h0), va_rf s1, va_rf s0] N' S' μ (mj_XV P) ∧ (N' ≤ N ∧ S' ≤ S) ∧ ∀ (μ' : mj_MM), P μ' → mj_nc μ' = N' → mj_ns μ' = S' → mj_J G mY_T_doNextPart Ex N S 188 [] [] μ'))) :
    mj_J G mY_T_doNextPart Ex N S 185 [] [va_rf s0, va_rf s1, va_rf (some h0)] μ := by
  obtain ⟨ht1, H⟩ := H
  obtain ⟨N', S', P, hM, hNS, H⟩ := H
  exact mj_callV (n := 2) (As := [va_rf s1, va_rf s0]) rfl hM kc_T ht1 ⟨tw_502, tw_1, tw_505, ⟨by decide, by decide, by decide +kernel⟩, by decide, by decide⟩ tw_504 tp_25 rfl md_T_doNextPart_185 (by first | decide | (simp only [List.map_cons, List.map_nil, List.sum_cons, List.sum_nil, mj_rfc, mj_ci, mj_cl]; done) | (simp only [List.map_cons, List.map_nil, List.sum_cons, List.sum_nil, mj_rfc, mj_ci, mj_cl]; decide)) (fun _ => hNS) (mj_kV (fun μ' hP e1 e2 => mj_lvs [] rfl (H μ' hP e1 e2)))

set_option maxRecDepth 20000 in
theorem bk_T_doNextPart_198 {G : mj_G} {Ex : Option Value → mj_MM → Prop} {N S : Nat} {μ : mj_MM} {h0 : Nat} {s0 : Option Nat} {s1 : Option Nat}
    (H : ((mj_t μ h0 = 1) ∧ (∃ (N' S' : Nat) (P : mj_MM → Prop), mj_M G my_T_unlock mY_T_unlock [va_rf (some h0), va_rf s1, va_rf s0] N' S' μ (mj_XV P) ∧ (N' ≤ N ∧ S' ≤ S) ∧ ∀ (μ' : mj_MM), P μ' → mj_nc μ' = N' → mj_ns μ' = S' → mj_J G mY_T_doNextPart Ex N S 201 [] [] μ'))) :
    mj_J G mY_T_doNextPart Ex N S 198 [] [va_rf s0, va_rf s1, va_rf (some h0)] μ := by
  obtain ⟨ht1, H⟩ := H
  obtain ⟨N', S', P, hM, hNS, H⟩ := H
  exact mj_callV (n := 2) (As := [va_rf s1, va_rf s0]) rfl hM kc_T ht1 ⟨tw_506, tw_1, tw_509, ⟨by decide, by decide, by decide +kernel⟩, by decide, by decide⟩ tw_508 tp_26 rfl md_T_doNextPart_198 (by first | decide | (simp only [List.map_cons, List.map_nil, List.sum_cons, List.sum_nil, mj_rfc, mj_ci, mj_cl]; done) | (simp only [List.map_cons, List.map_nil, List.sum_cons, List.sum_nil, mj_rfc, mj_ci, mj_cl]; decide)) (fun _ => hNS) (mj_kV (fun μ' hP e1 e2 => mj_lvs [] rfl (H μ' hP e1 e2)))

set_option maxRecDepth 20000 in
theorem bk_T_doNextPart_220 {G : mj_G} {Ex : Option Value → mj_MM → Prop} {N S : Nat} {μ : mj_MM}
    (H : Ex none μ) :
    mj_J G mY_T_doNextPart Ex N S 220 [] [] μ := by
  refine mj_goto (tgt := 240) md_T_doNextPart_220 (by decide) ?_
  exact mj_return md_T_doNextPart_240 rfl H

set_option maxRecDepth 20000 in
theorem bk_T_doNextPart_229 {G : mj_G} {Ex : Option Value → mj_MM → Prop} {N S : Nat} {μ : mj_MM}
    (H : Ex none μ) :
    mj_J G mY_T_doNextPart Ex N S 229 [] [] μ := by
  refine mj_goto (tgt := 240) md_T_doNextPart_229 (by decide) ?_
  exact mj_return md_T_doNextPart_240 rfl H

set_option maxRecDepth 20000 in
theorem bk_T_doNextPart_237 {G : mj_G} {Ex : Option Value → mj_MM → Prop} {N S : Nat} {μ : mj_MM}
    (H : Ex none μ) :
    mj_J G mY_T_doNextPart Ex N S 237 [] [] μ := by
  refine mj_goto (tgt := 240) md_T_doNextPart_237 (by decide) ?_
  exact mj_return md_T_doNextPart_240 rfl H

set_option maxRecDepth 20000 in
theorem bk_T_doNextPart_162 {G : mj_G} {Ex : Option Value → mj_MM → Prop} {N S : Nat} {μ : mj_MM}
    (H : Ex none μ) :
    mj_J G mY_T_doNextPart Ex N S 162 [] [] μ := by
  refine mj_goto (tgt := 240) md_T_doNextPart_162 (by decide) ?_
  exact mj_return md_T_doNextPart_240 rfl H

set_option maxRecDepth 20000 in
theorem bk_T_doNextPart_175 {G : mj_G} {Ex : Option Value → mj_MM → Prop} {N S : Nat} {μ : mj_MM}
    (H : Ex none μ) :
    mj_J G mY_T_doNextPart Ex N S 175 [] [] μ := by
  refine mj_goto (tgt := 240) md_T_doNextPart_175 (by decide) ?_
  exact mj_return md_T_doNextPart_240 rfl H

set_option maxRecDepth 20000 in
theorem bk_T_doNextPart_188 {G : mj_G} {Ex : Option Value → mj_MM → Prop} {N S : Nat} {μ : mj_MM}
    (H : Ex none μ) :
    mj_J G mY_T_doNextPart Ex N S 188 [] [] μ := by
  refine mj_goto (tgt := 240) md_T_doNextPart_188 (by decide) ?_
  exact mj_return md_T_doNextPart_240 rfl H

set_option maxRecDepth 20000 in
theorem bk_T_doNextPart_201 {G : mj_G} {Ex : Option Value → mj_MM → Prop} {N S : Nat} {μ : mj_MM}
    (H : Ex none μ) :
    mj_J G mY_T_doNextPart Ex N S 201 [] [] μ := by
  refine mj_goto (tgt := 240) md_T_doNextPart_201 (by decide) ?_
  exact mj_return md_T_doNextPart_240 rfl H

set_option maxRecDepth 20000 in
theorem bk_T_activateByTask_0 {G : mj_G} {Ex : Option Value → mj_MM → Prop} {N S : Nat} {μ : mj_MM} {h0 : Nat} {v1 : Option Nat} {v2 : Int32}
    (H : ((mj_t μ h0 = 1) ∧ (∃ P : Option Nat → mj_MM → Prop, mj_M G my_T_taskOf mY_T_taskOf [va_rf (some h0), .int v2] (mj_nc μ) (mj_ns μ) μ (mj_XR P) ∧ ∀ (x : Option Nat) (μ' : mj_MM), P x μ' → mj_nc μ' = mj_nc μ → mj_ns μ' = mj_ns μ → mj_J G mY_T_activateByTask Ex N S 5 [(0, va_rf (some h0)), (1, va_rf v1)] [va_rf x] μ'))) :
    mj_J G mY_T_activateByTask Ex N S 0 [(0, va_rf (some h0)), (1, va_rf v1), (2, .int v2)] [] μ := by
  refine mj_aload_n 0 md_T_activateByTask_0 rfl ?_
  refine mj_iload_n 2 md_T_activateByTask_1 rfl ?_
  obtain ⟨ht1, H⟩ := H
  obtain ⟨P, hM, H⟩ := H
  exact mj_callV (n := 1) (As := [.int v2]) rfl hM kc_T ht1 ⟨tw_294, tw_1, tw_297, ⟨by decide, by decide, by decide +kernel⟩, by decide, by decide⟩ tw_296 tp_1 rfl md_T_activateByTask_2 (by first | decide | (simp only [List.map_cons, List.map_nil, List.sum_cons, List.sum_nil, mj_rfc, mj_ci, mj_cl]; done) | (simp only [List.map_cons, List.map_nil, List.sum_cons, List.sum_nil, mj_rfc, mj_ci, mj_cl]; decide)) id (mj_kR (fun x μ' hP e1 e2 => mj_lvs [0, 1] rfl (H x μ' hP e1 e2)))

set_option maxRecDepth 20000 in
theorem bk_T_activateByTask_5 {G : mj_G} {Ex : Option Value → mj_MM → Prop} {N S : Nat} {μ : mj_MM} {h0 : Nat} {v1 : Option Nat} {s0 : Option Nat}
    (H : ((s0 = none → ((mj_t μ h0 = 1) ∧ (∃ (N' S' : Nat) (P : mj_MM → Prop), mj_M G my_T_tellCode mY_T_tellCode [va_rf (some h0), .int 8, va_rf v1] N' S' μ (mj_XV P) ∧ (N' ≤ N ∧ S' ≤ S) ∧ ∀ (μ' : mj_MM), P μ' → mj_nc μ' = N' → mj_ns μ' = S' → mj_J G mY_T_activateByTask Ex N S 17 [] [] μ'))) ∧ (∀ b1 : Nat, s0 = some b1 → ((mj_t μ h0 = 1) ∧ (∃ (N' S' : Nat) (P : mj_MM → Prop), mj_M G my_T_activateTask mY_T_activateTask [va_rf (some h0), va_rf s0] N' S' μ (mj_XV P) ∧ (N' ≤ N ∧ S' ≤ S) ∧ ∀ (μ' : mj_MM), P μ' → mj_nc μ' = N' → mj_ns μ' = S' → mj_J G mY_T_activateByTask Ex N S 25 [] [] μ'))))) :
    mj_J G mY_T_activateByTask Ex N S 5 [(0, va_rf (some h0)), (1, va_rf v1)] [va_rf s0] μ := by
  refine mj_astn (i := 3) (lv' := [(3, va_rf s0), (0, va_rf (some h0)), (1, va_rf v1)]) md_T_activateByTask_5 rfl (by decide) (by first | rfl | (simp [mj_rfc]; done) | (simp [mj_rfc]; rfl)) ?_
  refine mj_aload_n 0 md_T_activateByTask_6 rfl ?_
  obtain ⟨H1, H2⟩ := H
  refine mj_ifnonnull (tgt := 20) md_T_activateByTask_7 (by decide) (fun b1 hb2 => ?_) (fun hb => ?_)
  · replace H := H2 b1 hb2
    refine mj_aload_n 1 md_T_activateByTask_20 rfl ?_
    refine mj_aload_n 0 md_T_activateByTask_21 rfl ?_
    obtain ⟨ht4, H⟩ := H
    obtain ⟨N', S', P, hM, hNS, H⟩ := H
    exact mj_callV (n := 1) (As := [va_rf s0]) rfl hM kc_T ht4 ⟨tw_393, tw_1, tw_396, ⟨by decide, by decide, by decide +kernel⟩, by decide, by decide⟩ tw_395 tp_6 rfl md_T_activateByTask_22 (by first | decide | (simp only [List.map_cons, List.map_nil, List.sum_cons, List.sum_nil, mj_rfc, mj_ci, mj_cl]; done) | (simp only [List.map_cons, List.map_nil, List.sum_cons, List.sum_nil, mj_rfc, mj_ci, mj_cl]; decide)) (fun _ => hNS) (mj_kV (fun μ' hP e1 e2 => mj_lvs [] rfl (H μ' hP e1 e2)))
  · replace H := H1 hb
    refine mj_aload_n 1 md_T_activateByTask_10 rfl ?_
    refine mj_bipush (v := 8) md_T_activateByTask_11 (by decide) ?_
    refine mj_aload_n 2 md_T_activateByTask_13 rfl ?_
    obtain ⟨ht3, H⟩ := H
    obtain ⟨N', S', P, hM, hNS, H⟩ := H
    exact mj_callV (n := 2) (As := [.int 8, va_rf v1]) rfl hM kc_T ht3 ⟨tw_405, tw_1, tw_408, ⟨by decide, by decide, by decide +kernel⟩, by decide, by decide⟩ tw_407 tp_9 rfl md_T_activateByTask_14 (by first | decide | (simp only [List.map_cons, List.map_nil, List.sum_cons, List.sum_nil, mj_rfc, mj_ci, mj_cl]; done) | (simp only [List.map_cons, List.map_nil, List.sum_cons, List.sum_nil, mj_rfc, mj_ci, mj_cl]; decide)) (fun _ => hNS) (mj_kV (fun μ' hP e1 e2 => mj_lvs [] rfl (H μ' hP e1 e2)))

set_option maxRecDepth 20000 in
theorem bk_T_activateByTask_17 {G : mj_G} {Ex : Option Value → mj_MM → Prop} {N S : Nat} {μ : mj_MM}
    (H : mj_J G mY_T_activateByTask Ex N S 25 [] [] μ) :
    mj_J G mY_T_activateByTask Ex N S 17 [] [] μ := by
  refine mj_goto (tgt := 25) md_T_activateByTask_17 (by decide) ?_
  exact mj_lvs [] rfl H

set_option maxRecDepth 20000 in
theorem bk_T_activateByTask_25 {G : mj_G} {Ex : Option Value → mj_MM → Prop} {N S : Nat} {μ : mj_MM}
    (H : Ex none μ) :
    mj_J G mY_T_activateByTask Ex N S 25 [] [] μ := by
  exact mj_return md_T_activateByTask_25 rfl H

set_option maxRecDepth 20000 in
theorem bk_T_chain_0 {G : mj_G} {Ex : Option Value → mj_MM → Prop} {N S : Nat} {μ : mj_MM} {h0 : Nat} {v1 : Option Nat} {v2 : Int32}
    (H : ((mj_t μ h0 = 1) ∧ (∃ P : Option Nat → mj_MM → Prop, mj_M G my_T_taskOf mY_T_taskOf [va_rf (some h0), .int v2] (mj_nc μ) (mj_ns μ) μ (mj_XR P) ∧ ∀ (x : Option Nat) (μ' : mj_MM), P x μ' → mj_nc μ' = mj_nc μ → mj_ns μ' = mj_ns μ → mj_J G mY_T_chain Ex N S 5 [(0, va_rf (some h0)), (1, va_rf v1)] [va_rf x] μ'))) :
    mj_J G mY_T_chain Ex N S 0 [(0, va_rf (some h0)), (1, va_rf v1), (2, .int v2)] [] μ := by
  refine mj_aload_n 0 md_T_chain_0 rfl ?_
  refine mj_iload_n 2 md_T_chain_1 rfl ?_
  obtain ⟨ht1, H⟩ := H
  obtain ⟨P, hM, H⟩ := H
  exact mj_callV (n := 1) (As := [.int v2]) rfl hM kc_T ht1 ⟨tw_294, tw_1, tw_297, ⟨by decide, by decide, by decide +kernel⟩, by decide, by decide⟩ tw_296 tp_1 rfl md_T_chain_2 (by first | decide | (simp only [List.map_cons, List.map_nil, List.sum_cons, List.sum_nil, mj_rfc, mj_ci, mj_cl]; done) | (simp only [List.map_cons, List.map_nil, List.sum_cons, List.sum_nil, mj_rfc, mj_ci, mj_cl]; decide)) id (mj_kR (fun x μ' hP e1 e2 => mj_lvs [0, 1] rfl (H x μ' hP e1 e2)))

set_option maxRecDepth 20000 in
theorem bk_T_chain_5 {G : mj_G} {Ex : Option Value → mj_MM → Prop} {N S : Nat} {μ : mj_MM} {h0 : Nat} {v1 : Option Nat} {s0 : Option Nat}
    (H : ((s0 = none → ((mj_t μ h0 = 1) ∧ (∃ (N' S' : Nat) (P : mj_MM → Prop), mj_M G my_T_tellCode mY_T_tellCode [va_rf (some h0), .int 8, va_rf v1] N' S' μ (mj_XV P) ∧ (N' ≤ N ∧ S' ≤ S) ∧ ∀ (μ' : mj_MM), P μ' → mj_nc μ' = N' → mj_ns μ' = S' → mj_J G mY_T_chain Ex N S 17 [(0, va_rf (some h0)), (1, va_rf v1), (3, va_rf s0)] [] μ'))) ∧ (∀ b1 : Nat, s0 = some b1 → mj_J G mY_T_chain Ex N S 17 [(0, va_rf (some h0)), (1, va_rf v1), (3, va_rf s0)] [] μ))) :
    mj_J G mY_T_chain Ex N S 5 [(0, va_rf (some h0)), (1, va_rf v1)] [va_rf s0] μ := by
  refine mj_astn (i := 3) (lv' := [(3, va_rf s0), (0, va_rf (some h0)), (1, va_rf v1)]) md_T_chain_5 rfl (by decide) (by first | rfl | (simp [mj_rfc]; done) | (simp [mj_rfc]; rfl)) ?_
  refine mj_aload_n 0 md_T_chain_6 rfl ?_
  obtain ⟨H1, H2⟩ := H
  refine mj_ifnonnull (tgt := 17) md_T_chain_7 (by decide) (fun b1 hb2 => ?_) (fun hb => ?_)
  · replace H := H2 b1 hb2
    exact mj_lvs [1, 2, 0] rfl H
  · replace H := H1 hb
    refine mj_aload_n 1 md_T_chain_10 rfl ?_
    refine mj_bipush (v := 8) md_T_chain_11 (by decide) ?_
    refine mj_aload_n 2 md_T_chain_13 rfl ?_
    obtain ⟨ht3, H⟩ := H
    obtain ⟨N', S', P, hM, hNS, H⟩ := H
    exact mj_callV (n := 2) (As := [.int 8, va_rf v1]) rfl hM kc_T ht3 ⟨tw_405, tw_1, tw_408, ⟨by decide, by decide, by decide +kernel⟩, by decide, by decide⟩ tw_407 tp_9 rfl md_T_chain_14 (by first | decide | (simp only [List.map_cons, List.map_nil, List.sum_cons, List.sum_nil, mj_rfc, mj_ci, mj_cl]; done) | (simp only [List.map_cons, List.map_nil, List.sum_cons, List.sum_nil, mj_rfc, mj_ci, mj_cl]; decide)) (fun _ => hNS) (mj_kV (fun μ' hP e1 e2 => mj_lvs [1, 2, 0] rfl (H μ' hP e1 e2)))

set_option maxRecDepth 20000 in
theorem bk_T_chain_17 {G : mj_G} {Ex : Option Value → mj_MM → Prop} {N S : Nat} {μ : mj_MM} {h0 : Nat} {v1 : Option Nat} {v3 : Option Nat}
    (H : ((mj_t μ h0 = 1) ∧ (∃ (N' S' : Nat) (P : mj_MM → Prop), mj_M G my_T_endTask mY_T_endTask [va_rf (some h0), va_rf v1] N' S' μ (mj_XV P) ∧ (N' ≤ N ∧ S' ≤ S) ∧ ∀ (μ' : mj_MM), P μ' → mj_nc μ' = N' → mj_ns μ' = S' → mj_J G mY_T_chain Ex N S 22 [(0, va_rf (some h0)), (3, va_rf v3)] [] μ'))) :
    mj_J G mY_T_chain Ex N S 17 [(0, va_rf (some h0)), (1, va_rf v1), (3, va_rf v3)] [] μ := by
  refine mj_aload_n 0 md_T_chain_17 rfl ?_
  refine mj_aload_n 1 md_T_chain_18 rfl ?_
  obtain ⟨ht1, H⟩ := H
  obtain ⟨N', S', P, hM, hNS, H⟩ := H
  exact mj_callV (n := 1) (As := [va_rf v1]) rfl hM kc_T ht1 ⟨tw_453, tw_1, tw_456, ⟨by decide, by decide, by decide +kernel⟩, by decide, by decide⟩ tw_455 tp_15 rfl md_T_chain_19 (by first | decide | (simp only [List.map_cons, List.map_nil, List.sum_cons, List.sum_nil, mj_rfc, mj_ci, mj_cl]; done) | (simp only [List.map_cons, List.map_nil, List.sum_cons, List.sum_nil, mj_rfc, mj_ci, mj_cl]; decide)) (fun _ => hNS) (mj_kV (fun μ' hP e1 e2 => mj_lvs [0, 2] rfl (H μ' hP e1 e2)))

set_option maxRecDepth 20000 in
theorem bk_T_chain_22 {G : mj_G} {Ex : Option Value → mj_MM → Prop} {N S : Nat} {μ : mj_MM} {h0 : Nat} {v3 : Option Nat}
    (H : ((v3 = none → mj_J G mY_T_chain Ex N S 31 [] [] μ) ∧ (∀ b1 : Nat, v3 = some b1 → ((mj_t μ h0 = 1) ∧ (∃ (N' S' : Nat) (P : mj_MM → Prop), mj_M G my_T_activateTask mY_T_activateTask [va_rf (some h0), va_rf v3] N' S' μ (mj_XV P) ∧ (N' ≤ N ∧ S' ≤ S) ∧ ∀ (μ' : mj_MM), P μ' → mj_nc μ' = N' → mj_ns μ' = S' → mj_J G mY_T_chain Ex N S 31 [] [] μ'))))) :
    mj_J G mY_T_chain Ex N S 22 [(0, va_rf (some h0)), (3, va_rf v3)] [] μ := by
  refine mj_aload_n 1 md_T_chain_22 rfl ?_
  obtain ⟨H1, H2⟩ := H
  refine mj_ifnull (tgt := 31) md_T_chain_23 (by decide) (fun hb => ?_) (fun b1 hb2 => ?_)
  · replace H := H1 hb
    exact mj_lvs [] rfl H
  · replace H := H2 b1 hb2
    refine mj_aload_n 0 md_T_chain_26 rfl ?_
    refine mj_aload_n 1 md_T_chain_27 rfl ?_
    obtain ⟨ht3, H⟩ := H
    obtain ⟨N', S', P, hM, hNS, H⟩ := H
    exact mj_callV (n := 1) (As := [va_rf v3]) rfl hM kc_T ht3 ⟨tw_393, tw_1, tw_396, ⟨by decide, by decide, by decide +kernel⟩, by decide, by decide⟩ tw_395 tp_6 rfl md_T_chain_28 (by first | decide | (simp only [List.map_cons, List.map_nil, List.sum_cons, List.sum_nil, mj_rfc, mj_ci, mj_cl]; done) | (simp only [List.map_cons, List.map_nil, List.sum_cons, List.sum_nil, mj_rfc, mj_ci, mj_cl]; decide)) (fun _ => hNS) (mj_kV (fun μ' hP e1 e2 => mj_lvs [] rfl (H μ' hP e1 e2)))

set_option maxRecDepth 20000 in
theorem bk_T_chain_31 {G : mj_G} {Ex : Option Value → mj_MM → Prop} {N S : Nat} {μ : mj_MM}
    (H : Ex none μ) :
    mj_J G mY_T_chain Ex N S 31 [] [] μ := by
  exact mj_return md_T_chain_31 rfl H

set_option maxRecDepth 20000 in
theorem bk_T_waitFor_0 {G : mj_G} {Ex : Option Value → mj_MM → Prop} {N S : Nat} {μ : mj_MM} {h0 : Nat} {v1 : Option Nat} {v2 : Int32}
    (H : (∃ b1 : Nat, (v1 = some b1) ∧ (mj_t μ b1 = 9) ∧ ((¬ (mj_i μ b1 4) = 0 → ((mj_r μ b1 15 = none → (((mj_i μ b1 16) ≤ 0 → ((¬ ((mj_i μ b1 12) &&& v2) = 0 → Ex none μ) ∧ (((mj_i μ b1 12) &&& v2) = 0 → (∃ b6 : Nat, (mj_r μ b1 2 = some b6) ∧ (mj_t μ b6 = 2) ∧ Ex none (mj_pR (mj_pI (mj_pI μ b1 13 v2) b1 9 3) b6 4 none))))) ∧ (¬ (mj_i μ b1 16) ≤ 0 → ((mj_t μ h0 = 1) ∧ (∃ (N' S' : Nat) (P : mj_MM → Prop), mj_M G my_T_tellCode mY_T_tellCode [va_rf (some h0), .int 4, va_rf v1] N' S' μ (mj_XV P) ∧ (N' ≤ N ∧ S' ≤ S) ∧ ∀ (μ' : mj_MM), P μ' → mj_nc μ' = N' → mj_ns μ' = S' → mj_J G mY_T_waitFor Ex N S 36 [] [] μ'))))) ∧ (∀ b4 : Nat, mj_r μ b1 15 = some b4 → ((mj_t μ h0 = 1) ∧ (∃ (N' S' : Nat) (P : mj_MM → Prop), mj_M G my_T_tellCode mY_T_tellCode [va_rf (some h0), .int 4, va_rf v1] N' S' μ (mj_XV P) ∧ (N' ≤ N ∧ S' ≤ S) ∧ ∀ (μ' : mj_MM), P μ' → mj_nc μ' = N' → mj_ns μ' = S' → mj_J G mY_T_waitFor Ex N S 36 [] [] μ'))))) ∧ ((mj_i μ b1 4) = 0 → ((mj_t μ h0 = 1) ∧ (∃ (N' S' : Nat) (P : mj_MM → Prop), mj_M G my_T_tellCode mY_T_tellCode [va_rf (some h0), .int 2, va_rf v1] N' S' μ (mj_XV P) ∧ (N' ≤ N ∧ S' ≤ S) ∧ ∀ (μ' : mj_MM), P μ' → mj_nc μ' = N' → mj_ns μ' = S' → mj_J G mY_T_waitFor Ex N S 13 [] [] μ')))))) :
    mj_J G mY_T_waitFor Ex N S 0 [(0, va_rf (some h0)), (1, va_rf v1), (2, .int v2)] [] μ := by
  refine mj_aload_n 1 md_T_waitFor_0 rfl ?_
  obtain ⟨b1, hb2, H⟩ := H
  obtain ⟨ht3, H⟩ := H
  refine mj_getf (v := .int (mj_i μ b1 4)) hb2 kc_K 4 (by decide) tw_222 md_T_waitFor_1 ht3 rfl ?_
  obtain ⟨H1, H2⟩ := H
  refine mj_if_ne (tgt := 16) md_T_waitFor_4 (by decide) (fun hx => ?_) (fun hx => ?_)
  · replace H := H1 hx
    refine mj_aload_n 1 md_T_waitFor_16 rfl ?_
    refine mj_getf (v := va_rf (mj_r μ b1 15)) hb2 kc_K 15 (by decide) tw_241 md_T_waitFor_17 ht3 rfl ?_
    obtain ⟨H1, H2⟩ := H
    refine mj_ifnonnull (tgt := 30) md_T_waitFor_20 (by decide) (fun b4 hb5 => ?_) (fun hb => ?_)
    · replace H := H2 b4 hb5
      refine mj_aload_n 0 md_T_waitFor_30 rfl ?_
      refine mj_iconst (v := 4) md_T_waitFor_31 (by decide) ?_
      refine mj_aload_n 1 md_T_waitFor_32 rfl ?_
      obtain ⟨ht10, H⟩ := H
      obtain ⟨N', S', P, hM, hNS, H⟩ := H
      exact mj_callV (n := 2) (As := [.int 4, va_rf v1]) rfl hM kc_T ht10 ⟨tw_405, tw_1, tw_408, ⟨by decide, by decide, by decide +kernel⟩, by decide, by decide⟩ tw_407 tp_9 rfl md_T_waitFor_33 (by first | decide | (simp only [List.map_cons, List.map_nil, List.sum_cons, List.sum_nil, mj_rfc, mj_ci, mj_cl]; done) | (simp only [List.map_cons, List.map_nil, List.sum_cons, List.sum_nil, mj_rfc, mj_ci, mj_cl]; decide)) (fun _ => hNS) (mj_kV (fun μ' hP e1 e2 => mj_lvs [] rfl (H μ' hP e1 e2)))
    · replace H := H1 hb
      refine mj_aload_n 1 md_T_waitFor_23 rfl ?_
      refine mj_getf (v := .int (mj_i μ b1 16)) hb2 kc_K 16 (by decide) tw_243 md_T_waitFor_24 ht3 rfl ?_
      obtain ⟨H1, H2⟩ := H
      refine mj_if_le (tgt := 39) md_T_waitFor_27 (by decide) (fun hx => ?_) (fun hx => ?_)
      · replace H := H1 hx
        refine mj_aload_n 1 md_T_waitFor_39 rfl ?_
        refine mj_getf (v := .int (mj_i μ b1 12)) hb2 kc_K 12 (by decide) tw_236 md_T_waitFor_40 ht3 rfl ?_
        refine mj_iload_n 2 md_T_waitFor_43 rfl ?_
        refine mj_iand md_T_waitFor_44 ?_
        obtain ⟨H1, H2⟩ := H
        refine mj_if_ne (tgt := 66) md_T_waitFor_45 (by decide) (fun hx => ?_) (fun hx => ?_)
        · replace H := H1 hx
          exact mj_return md_T_waitFor_66 rfl H
        · replace H := H2 hx
          refine mj_aload_n 1 md_T_waitFor_48 rfl ?_
          refine mj_iload_n 2 md_T_waitFor_49 rfl ?_
          refine mj_putI hb2 kc_K 13 (by decide) rfl tw_237 md_T_waitFor_50 (Or.inl rfl) ht3 rfl rfl ?_
          refine mj_aload_n 1 md_T_waitFor_53 rfl ?_
          refine mj_iconst (v := 3) md_T_waitFor_54 (by decide) ?_
          refine mj_putI hb2 kc_K 9 (by decide) rfl tw_232 md_T_waitFor_55 (Or.inl rfl) ht3 rfl rfl ?_
          refine mj_aload_n 1 md_T_waitFor_58 rfl ?_
          refine mj_getf (v := va_rf (mj_r μ b1 2)) hb2 kc_K 2 (by decide) tw_218 md_T_waitFor_59 ht3 rfl ?_
          refine mj_null md_T_waitFor_62 ?_
          obtain ⟨b6, hb7, H⟩ := H
          obtain ⟨ht8, H⟩ := H
          refine mj_putR hb7 kc_C 4 (by decide) rfl tw_87 md_T_waitFor_63 (Or.inl rfl) ht8 ?_
          exact mj_return md_T_waitFor_66 rfl H
      · replace H := H2 hx
        refine mj_aload_n 0 md_T_waitFor_30 rfl ?_
        refine mj_iconst (v := 4) md_T_waitFor_31 (by decide) ?_
        refine mj_aload_n 1 md_T_waitFor_32 rfl ?_
        obtain ⟨ht9, H⟩ := H
        obtain ⟨N', S', P, hM, hNS, H⟩ := H
        exact mj_callV (n := 2) (As := [.int 4, va_rf v1]) rfl hM kc_T ht9 ⟨tw_405, tw_1, tw_408, ⟨by decide, by decide, by decide +kernel⟩, by decide, by decide⟩ tw_407 tp_9 rfl md_T_waitFor_33 (by first | decide | (simp only [List.map_cons, List.map_nil, List.sum_cons, List.sum_nil, mj_rfc, mj_ci, mj_cl]; done) | (simp only [List.map_cons, List.map_nil, List.sum_cons, List.sum_nil, mj_rfc, mj_ci, mj_cl]; decide)) (fun _ => hNS) (mj_kV (fun μ' hP e1 e2 => mj_lvs [] rfl (H μ' hP e1 e2)))
  · replace H := H2 hx
    refine mj_aload_n 0 md_T_waitFor_7 rfl ?_
    refine mj_iconst (v := 2) md_T_waitFor_8 (by decide) ?_
    refine mj_aload_n 1 md_T_waitFor_9 rfl ?_
    obtain ⟨ht11, H⟩ := H
    obtain ⟨N', S', P, hM, hNS, H⟩ := H
    exact mj_callV (n := 2) (As := [.int 2, va_rf v1]) rfl hM kc_T ht11 ⟨tw_405, tw_1, tw_408, ⟨by decide, by decide, by decide +kernel⟩, by decide, by decide⟩ tw_407 tp_9 rfl md_T_waitFor_10 (by first | decide | (simp only [List.map_cons, List.map_nil, List.sum_cons, List.sum_nil, mj_rfc, mj_ci, mj_cl]; done) | (simp only [List.map_cons, List.map_nil, List.sum_cons, List.sum_nil, mj_rfc, mj_ci, mj_cl]; decide)) (fun _ => hNS) (mj_kV (fun μ' hP e1 e2 => mj_lvs [] rfl (H μ' hP e1 e2)))

set_option maxRecDepth 20000 in
theorem bk_T_waitFor_36 {G : mj_G} {Ex : Option Value → mj_MM → Prop} {N S : Nat} {μ : mj_MM}
    (H : Ex none μ) :
    mj_J G mY_T_waitFor Ex N S 36 [] [] μ := by
  refine mj_goto (tgt := 66) md_T_waitFor_36 (by decide) ?_
  exact mj_return md_T_waitFor_66 rfl H

set_option maxRecDepth 20000 in
theorem bk_T_waitFor_13 {G : mj_G} {Ex : Option Value → mj_MM → Prop} {N S : Nat} {μ : mj_MM}
    (H : Ex none μ) :
    mj_J G mY_T_waitFor Ex N S 13 [] [] μ := by
  refine mj_goto (tgt := 66) md_T_waitFor_13 (by decide) ?_
  exact mj_return md_T_waitFor_66 rfl H

set_option maxRecDepth 20000 in
theorem bk_T_setByTask_0 {G : mj_G} {Ex : Option Value → mj_MM → Prop} {N S : Nat} {μ : mj_MM} {h0 : Nat} {v1 : Option Nat} {v2 : Int32} {v3 : Int32}
    (H : ((mj_t μ h0 = 1) ∧ (∃ P : Option Nat → mj_MM → Prop, mj_M G my_T_taskOf mY_T_taskOf [va_rf (some h0), .int v2] (mj_nc μ) (mj_ns μ) μ (mj_XR P) ∧ ∀ (x : Option Nat) (μ' : mj_MM), P x μ' → mj_nc μ' = mj_nc μ → mj_ns μ' = mj_ns μ → mj_J G mY_T_setByTask Ex N S 5 [(0, va_rf (some h0)), (1, va_rf v1), (3, .int v3)] [va_rf x] μ'))) :
    mj_J G mY_T_setByTask Ex N S 0 [(0, va_rf (some h0)), (1, va_rf v1), (2, .int v2), (3, .int v3)] [] μ := by
  refine mj_aload_n 0 md_T_setByTask_0 rfl ?_
  refine mj_iload_n 2 md_T_setByTask_1 rfl ?_
  obtain ⟨ht1, H⟩ := H
  obtain ⟨P, hM, H⟩ := H
  exact mj_callV (n := 1) (As := [.int v2]) rfl hM kc_T ht1 ⟨tw_294, tw_1, tw_297, ⟨by decide, by decide, by decide +kernel⟩, by decide, by decide⟩ tw_296 tp_1 rfl md_T_setByTask_2 (by first | decide | (simp only [List.map_cons, List.map_nil, List.sum_cons, List.sum_nil, mj_rfc, mj_ci, mj_cl]; done) | (simp only [List.map_cons, List.map_nil, List.sum_cons, List.sum_nil, mj_rfc, mj_ci, mj_cl]; decide)) id (mj_kR (fun x μ' hP e1 e2 => mj_lvs [0, 1, 3] rfl (H x μ' hP e1 e2)))

set_option maxRecDepth 20000 in
theorem bk_T_setByTask_5 {G : mj_G} {Ex : Option Value → mj_MM → Prop} {N S : Nat} {μ : mj_MM} {h0 : Nat} {v1 : Option Nat} {v3 : Int32} {s0 : Option Nat}
    (H : ((s0 = none → ((mj_t μ h0 = 1) ∧ (∃ (N' S' : Nat) (P : mj_MM → Prop), mj_M G my_T_tellCode mY_T_tellCode [va_rf (some h0), .int 8, va_rf v1] N' S' μ (mj_XV P) ∧ (N' ≤ N ∧ S' ≤ S) ∧ ∀ (μ' : mj_MM), P μ' → mj_nc μ' = N' → mj_ns μ' = S' → mj_J G mY_T_setByTask Ex N S 19 [] [] μ'))) ∧ (∀ b1 : Nat, s0 = some b1 → ((mj_t μ b1 = 9) ∧ (∃ P : Int32 → mj_MM → Prop, mj_M G my_K_mayBeSet mY_K_mayBeSet [va_rf (some b1)] (mj_nc μ) (mj_ns μ) μ (mj_XI P) ∧ ∀ (x : Int32) (μ' : mj_MM), P x μ' → mj_nc μ' = mj_nc μ → mj_ns μ' = mj_ns μ → mj_J G mY_T_setByTask Ex N S 27 [(0, va_rf (some h0)), (1, va_rf v1), (3, .int v3), (4, va_rf s0)] [.int x] μ'))))) :
    mj_J G mY_T_setByTask Ex N S 5 [(0, va_rf (some h0)), (1, va_rf v1), (3, .int v3)] [va_rf s0] μ := by
  refine mj_astore (lv' := [(4, va_rf s0), (0, va_rf (some h0)), (1, va_rf v1), (3, .int v3)]) md_T_setByTask_5 (by decide) (by first | rfl | (simp [mj_rfc]; done) | (simp [mj_rfc]; rfl)) ?_
  refine mj_aload 0 md_T_setByTask_7 rfl ?_
  obtain ⟨H1, H2⟩ := H
  refine mj_ifnonnull (tgt := 22) md_T_setByTask_9 (by decide) (fun b1 hb2 => ?_) (fun hb => ?_)
  · replace H := H2 b1 hb2
    refine mj_aload 0 md_T_setByTask_22 rfl ?_
    obtain ⟨ht4, H⟩ := H
    obtain ⟨P, hM, H⟩ := H
    exact mj_callV (n := 0) (As := []) hb2 hM kc_K ht4 ⟨tw_482, tw_9, tw_485, ⟨by decide, by decide, by decide +kernel⟩, by decide, by decide⟩ tw_483 tw_484 rfl md_T_setByTask_24 (by first | decide | (simp only [List.map_cons, List.map_nil, List.sum_cons, List.sum_nil, mj_rfc, mj_ci, mj_cl]; done) | (simp only [List.map_cons, List.map_nil, List.sum_cons, List.sum_nil, mj_rfc, mj_ci, mj_cl]; decide)) id (mj_kI (fun x μ' hP e1 e2 => mj_lvs [1, 2, 3, 0] rfl (H x μ' hP e1 e2)))
  · replace H := H1 hb
    refine mj_aload_n 1 md_T_setByTask_12 rfl ?_
    refine mj_bipush (v := 8) md_T_setByTask_13 (by decide) ?_
    refine mj_aload_n 2 md_T_setByTask_15 rfl ?_
    obtain ⟨ht3, H⟩ := H
    obtain ⟨N', S', P, hM, hNS, H⟩ := H
    exact mj_callV (n := 2) (As := [.int 8, va_rf v1]) rfl hM kc_T ht3 ⟨tw_405, tw_1, tw_408, ⟨by decide, by decide, by decide +kernel⟩, by decide, by decide⟩ tw_407 tp_9 rfl md_T_setByTask_16 (by first | decide | (simp only [List.map_cons, List.map_nil, List.sum_cons, List.sum_nil, mj_rfc, mj_ci, mj_cl]; done) | (simp only [List.map_cons, List.map_nil, List.sum_cons, List.sum_nil, mj_rfc, mj_ci, mj_cl]; decide)) (fun _ => hNS) (mj_kV (fun μ' hP e1 e2 => mj_lvs [] rfl (H μ' hP e1 e2)))

set_option maxRecDepth 20000 in
theorem bk_T_setByTask_19 {G : mj_G} {Ex : Option Value → mj_MM → Prop} {N S : Nat} {μ : mj_MM}
    (H : mj_J G mY_T_setByTask Ex N S 46 [] [] μ) :
    mj_J G mY_T_setByTask Ex N S 19 [] [] μ := by
  refine mj_goto (tgt := 46) md_T_setByTask_19 (by decide) ?_
  exact mj_lvs [] rfl H

set_option maxRecDepth 20000 in
theorem bk_T_setByTask_27 {G : mj_G} {Ex : Option Value → mj_MM → Prop} {N S : Nat} {μ : mj_MM} {h0 : Nat} {v1 : Option Nat} {v3 : Int32} {v4 : Option Nat} {s0 : Int32}
    (H : ((¬ s0 = 0 → ((mj_t μ h0 = 1) ∧ (∃ P : mj_MM → Prop, mj_M G my_T_setEvents mY_T_setEvents [va_rf (some h0), va_rf v4, .int v3] (mj_nc μ) (mj_ns μ) μ (mj_XV P) ∧ ∀ (μ' : mj_MM), P μ' → mj_nc μ' = mj_nc μ → mj_ns μ' = mj_ns μ → mj_J G mY_T_setByTask Ex N S 46 [] [] μ'))) ∧ (s0 = 0 → ((mj_t μ h0 = 1) ∧ (∃ (N' S' : Nat) (P : mj_MM → Prop), mj_M G my_T_tellCode mY_T_tellCode [va_rf (some h0), .int 5, va_rf v1] N' S' μ (mj_XV P) ∧ (N' ≤ N ∧ S' ≤ S) ∧ ∀ (μ' : mj_MM), P μ' → mj_nc μ' = N' → mj_ns μ' = S' → mj_J G mY_T_setByTask Ex N S 36 [] [] μ'))))) :
    mj_J G mY_T_setByTask Ex N S 27 [(0, va_rf (some h0)), (1, va_rf v1), (3, .int v3), (4, va_rf v4)] [.int s0] μ := by
  obtain ⟨H1, H2⟩ := H
  refine mj_if_ne (tgt := 39) md_T_setByTask_27 (by decide) (fun hx => ?_) (fun hx => ?_)
  · replace H := H1 hx
    refine mj_aload_n 0 md_T_setByTask_39 rfl ?_
    refine mj_aload 3 md_T_setByTask_40 rfl ?_
    refine mj_iload_n 2 md_T_setByTask_42 rfl ?_
    obtain ⟨ht1, H⟩ := H
    obtain ⟨P, hM, H⟩ := H
    exact mj_callV (n := 2) (As := [va_rf v4, .int v3]) rfl hM kc_T ht1 ⟨tw_486, tw_1, tw_489, ⟨by decide, by decide, by decide +kernel⟩, by decide, by decide⟩ tw_488 tp_21 rfl md_T_setByTask_43 (by first | decide | (simp only [List.map_cons, List.map_nil, List.sum_cons, List.sum_nil, mj_rfc, mj_ci, mj_cl]; done) | (simp only [List.map_cons, List.map_nil, List.sum_cons, List.sum_nil, mj_rfc, mj_ci, mj_cl]; decide)) id (mj_kV (fun μ' hP e1 e2 => mj_lvs [] rfl (H μ' hP e1 e2)))
  · replace H := H2 hx
    refine mj_aload_n 0 md_T_setByTask_30 rfl ?_
    refine mj_iconst (v := 5) md_T_setByTask_31 (by decide) ?_
    refine mj_aload_n 1 md_T_setByTask_32 rfl ?_
    obtain ⟨ht2, H⟩ := H
    obtain ⟨N', S', P, hM, hNS, H⟩ := H
    exact mj_callV (n := 2) (As := [.int 5, va_rf v1]) rfl hM kc_T ht2 ⟨tw_405, tw_1, tw_408, ⟨by decide, by decide, by decide +kernel⟩, by decide, by decide⟩ tw_407 tp_9 rfl md_T_setByTask_33 (by first | decide | (simp only [List.map_cons, List.map_nil, List.sum_cons, List.sum_nil, mj_rfc, mj_ci, mj_cl]; done) | (simp only [List.map_cons, List.map_nil, List.sum_cons, List.sum_nil, mj_rfc, mj_ci, mj_cl]; decide)) (fun _ => hNS) (mj_kV (fun μ' hP e1 e2 => mj_lvs [] rfl (H μ' hP e1 e2)))

set_option maxRecDepth 20000 in
theorem bk_T_setByTask_46 {G : mj_G} {Ex : Option Value → mj_MM → Prop} {N S : Nat} {μ : mj_MM}
    (H : Ex none μ) :
    mj_J G mY_T_setByTask Ex N S 46 [] [] μ := by
  exact mj_return md_T_setByTask_46 rfl H

set_option maxRecDepth 20000 in
theorem bk_T_setByTask_36 {G : mj_G} {Ex : Option Value → mj_MM → Prop} {N S : Nat} {μ : mj_MM}
    (H : mj_J G mY_T_setByTask Ex N S 46 [] [] μ) :
    mj_J G mY_T_setByTask Ex N S 36 [] [] μ := by
  refine mj_goto (tgt := 46) md_T_setByTask_36 (by decide) ?_
  exact mj_lvs [] rfl H

set_option maxRecDepth 20000 in
theorem bk_T_clearEvents_0 {G : mj_G} {Ex : Option Value → mj_MM → Prop} {N S : Nat} {μ : mj_MM} {h0 : Nat} {v1 : Option Nat} {v2 : Int32}
    (H : (∃ b1 : Nat, (v1 = some b1) ∧ (mj_t μ b1 = 9) ∧ (((mj_i μ b1 4) = 0 → ((mj_t μ h0 = 1) ∧ (∃ (N' S' : Nat) (P : mj_MM → Prop), mj_M G my_T_tellCode mY_T_tellCode [va_rf (some h0), .int 2, va_rf v1] N' S' μ (mj_XV P) ∧ (N' ≤ N ∧ S' ≤ S) ∧ ∀ (μ' : mj_MM), P μ' → mj_nc μ' = N' → mj_ns μ' = S' → mj_J G mY_T_clearEvents Ex N S 28 [] [] μ'))) ∧ (¬ (mj_i μ b1 4) = 0 → mj_J G mY_T_clearEvents Ex N S 28 [] [] (mj_pI μ b1 12 ((mj_i μ b1 12) &&& (v2 ^^^ (-1)))))))) :
    mj_J G mY_T_clearEvents Ex N S 0 [(0, va_rf (some h0)), (1, va_rf v1), (2, .int v2)] [] μ := by
  refine mj_aload_n 1 md_T_clearEvents_0 rfl ?_
  obtain ⟨b1, hb2, H⟩ := H
  obtain ⟨ht3, H⟩ := H
  refine mj_getf (v := .int (mj_i μ b1 4)) hb2 kc_K 4 (by decide) tw_222 md_T_clearEvents_1 ht3 rfl ?_
  obtain ⟨H1, H2⟩ := H
  refine mj_if_eq (tgt := 22) md_T_clearEvents_4 (by decide) (fun hx => ?_) (fun hx => ?_)
  · replace H := H1 hx
    refine mj_aload_n 0 md_T_clearEvents_22 rfl ?_
    refine mj_iconst (v := 2) md_T_clearEvents_23 (by decide) ?_
    refine mj_aload_n 1 md_T_clearEvents_24 rfl ?_
    obtain ⟨ht4, H⟩ := H
    obtain ⟨N', S', P, hM, hNS, H⟩ := H
    exact mj_callV (n := 2) (As := [.int 2, va_rf v1]) rfl hM kc_T ht4 ⟨tw_405, tw_1, tw_408, ⟨by decide, by decide, by decide +kernel⟩, by decide, by decide⟩ tw_407 tp_9 rfl md_T_clearEvents_25 (by first | decide | (simp only [List.map_cons, List.map_nil, List.sum_cons, List.sum_nil, mj_rfc, mj_ci, mj_cl]; done) | (simp only [List.map_cons, List.map_nil, List.sum_cons, List.sum_nil, mj_rfc, mj_ci, mj_cl]; decide)) (fun _ => hNS) (mj_kV (fun μ' hP e1 e2 => mj_lvs [] rfl (H μ' hP e1 e2)))
  · replace H := H2 hx
    refine mj_aload_n 1 md_T_clearEvents_7 rfl ?_
    refine mj_dup md_T_clearEvents_8 (mj_rfc _) ?_
    refine mj_getf (v := .int (mj_i μ b1 12)) hb2 kc_K 12 (by decide) tw_236 md_T_clearEvents_9 ht3 rfl ?_
    refine mj_iload_n 2 md_T_clearEvents_12 rfl ?_
    refine mj_iconst (v := (-1)) md_T_clearEvents_13 (by decide) ?_
    refine mj_ixor md_T_clearEvents_14 ?_
    refine mj_iand md_T_clearEvents_15 ?_
    refine mj_putI hb2 kc_K 12 (by decide) rfl tw_236 md_T_clearEvents_16 (Or.inl rfl) ht3 rfl rfl ?_
    refine mj_goto (tgt := 28) md_T_clearEvents_19 (by decide) ?_
    exact mj_lvs [] rfl H

set_option maxRecDepth 20000 in
theorem bk_T_clearEvents_28 {G : mj_G} {Ex : Option Value → mj_MM → Prop} {N S : Nat} {μ : mj_MM}
    (H : Ex none μ) :
    mj_J G mY_T_clearEvents Ex N S 28 [] [] μ := by
  exact mj_return md_T_clearEvents_28 rfl H

set_option maxRecDepth 20000 in
theorem bk_T_getResource_0 {G : mj_G} {Ex : Option Value → mj_MM → Prop} {N S : Nat} {μ : mj_MM} {h0 : Nat} {v1 : Option Nat} {v2 : Option Nat}
    (H : ((v2 = none → ((mj_t μ h0 = 1) ∧ (∃ (N' S' : Nat) (P : mj_MM → Prop), mj_M G my_T_tellCode mY_T_tellCode [va_rf (some h0), .int 4, va_rf v1] N' S' μ (mj_XV P) ∧ (N' ≤ N ∧ S' ≤ S) ∧ ∀ (μ' : mj_MM), P μ' → mj_nc μ' = N' → mj_ns μ' = S' → mj_J G mY_T_getResource Ex N S 17 [] [] μ'))) ∧ (∀ b1 : Nat, v2 = some b1 → ((mj_t μ b1 = 8) ∧ ((mj_r μ b1 1 = none → (∃ b7 : Nat, (v1 = some b7) ∧ (mj_t μ b7 = 9) ∧ Ex none (mj_pR (mj_pR (mj_pR μ b1 1 v1) b1 2 (mj_r μ b7 15)) b7 15 v2))) ∧ (∀ b5 : Nat, mj_r μ b1 1 = some b5 → ((mj_t μ h0 = 1) ∧ (∃ (N' S' : Nat) (P : mj_MM → Prop), mj_M G my_T_tellCode mY_T_tellCode [va_rf (some h0), .int 4, va_rf v1] N' S' μ (mj_XV P) ∧ (N' ≤ N ∧ S' ≤ S) ∧ ∀ (μ' : mj_MM), P μ' → mj_nc μ' = N' → mj_ns μ' = S' → mj_J G mY_T_getResource Ex N S 17 [] [] μ')))))))) :
    mj_J G mY_T_getResource Ex N S 0 [(0, va_rf (some h0)), (1, va_rf v1), (2, va_rf v2)] [] μ := by
  refine mj_aload_n 2 md_T_getResource_0 rfl ?_
  obtain ⟨H1, H2⟩ := H
  refine mj_ifnull (tgt := 11) md_T_getResource_1 (by decide) (fun hb => ?_) (fun b1 hb2 => ?_)
  · replace H := H1 hb
    refine mj_aload_n 0 md_T_getResource_11 rfl ?_
    refine mj_iconst (v := 4) md_T_getResource_12 (by decide) ?_
    refine mj_aload_n 1 md_T_getResource_13 rfl ?_
    obtain ⟨ht3, H⟩ := H
    obtain ⟨N', S', P, hM, hNS, H⟩ := H
    exact mj_callV (n := 2) (As := [.int 4, va_rf v1]) rfl hM kc_T ht3 ⟨tw_405, tw_1, tw_408, ⟨by decide, by decide, by decide +kernel⟩, by decide, by decide⟩ tw_407 tp_9 rfl md_T_getResource_14 (by first | decide | (simp only [List.map_cons, List.map_nil, List.sum_cons, List.sum_nil, mj_rfc, mj_ci, mj_cl]; done) | (simp only [List.map_cons, List.map_nil, List.sum_cons, List.sum_nil, mj_rfc, mj_ci, mj_cl]; decide)) (fun _ => hNS) (mj_kV (fun μ' hP e1 e2 => mj_lvs [] rfl (H μ' hP e1 e2)))
  · replace H := H2 b1 hb2
    refine mj_aload_n 2 md_T_getResource_4 rfl ?_
    obtain ⟨ht4, H⟩ := H
    refine mj_getf (v := va_rf (mj_r μ b1 1)) hb2 kc_R 1 (by decide) tw_113 md_T_getResource_5 ht4 rfl ?_
    obtain ⟨H1, H2⟩ := H
    refine mj_ifnull (tgt := 18) md_T_getResource_8 (by decide) (fun hb => ?_) (fun b5 hb6 => ?_)
    · replace H := H1 hb
      refine mj_aload_n 2 md_T_getResource_18 rfl ?_
      refine mj_aload_n 1 md_T_getResource_19 rfl ?_
      refine mj_putR hb2 kc_R 1 (by decide) rfl tw_113 md_T_getResource_20 (Or.inl rfl) ht4 ?_
      refine mj_aload_n 2 md_T_getResource_23 rfl ?_
      refine mj_aload_n 1 md_T_getResource_24 rfl ?_
      obtain ⟨b7, hb8, H⟩ := H
      obtain ⟨ht9, H⟩ := H
      refine mj_getf (v := va_rf (mj_r μ b7 15)) hb8 kc_K 15 (by decide) tw_241 md_T_getResource_25 ht9 rfl ?_
      refine mj_putR hb2 kc_R 2 (by decide) rfl tw_115 md_T_getResource_28 (Or.inl rfl) ht4 ?_
      refine mj_aload_n 1 md_T_getResource_31 rfl ?_
      refine mj_aload_n 2 md_T_getResource_32 rfl ?_
      refine mj_putR hb8 kc_K 15 (by decide) rfl tw_241 md_T_getResource_33 (Or.inl rfl) ht9 ?_
      exact mj_return md_T_getResource_36 rfl H
    · replace H := H2 b5 hb6
      refine mj_aload_n 0 md_T_getResource_11 rfl ?_
      refine mj_iconst (v := 4) md_T_getResource_12 (by decide) ?_
      refine mj_aload_n 1 md_T_getResource_13 rfl ?_
      obtain ⟨ht10, H⟩ := H
      obtain ⟨N', S', P, hM, hNS, H⟩ := H
      exact mj_callV (n := 2) (As := [.int 4, va_rf v1]) rfl hM kc_T ht10 ⟨tw_405, tw_1, tw_408, ⟨by decide, by decide, by decide +kernel⟩, by decide, by decide⟩ tw_407 tp_9 rfl md_T_getResource_14 (by first | decide | (simp only [List.map_cons, List.map_nil, List.sum_cons, List.sum_nil, mj_rfc, mj_ci, mj_cl]; done) | (simp only [List.map_cons, List.map_nil, List.sum_cons, List.sum_nil, mj_rfc, mj_ci, mj_cl]; decide)) (fun _ => hNS) (mj_kV (fun μ' hP e1 e2 => mj_lvs [] rfl (H μ' hP e1 e2)))

set_option maxRecDepth 20000 in
theorem bk_T_getResource_17 {G : mj_G} {Ex : Option Value → mj_MM → Prop} {N S : Nat} {μ : mj_MM}
    (H : Ex none μ) :
    mj_J G mY_T_getResource Ex N S 17 [] [] μ := by
  exact mj_return md_T_getResource_17 rfl H

set_option maxRecDepth 20000 in
theorem bk_T_freeResource_0 {G : mj_G} {Ex : Option Value → mj_MM → Prop} {N S : Nat} {μ : mj_MM} {h0 : Nat} {v1 : Option Nat} {v2 : Option Nat}
    (H : ((v2 = none → ((mj_t μ h0 = 1) ∧ (∃ (N' S' : Nat) (P : mj_MM → Prop), mj_M G my_T_tellCode mY_T_tellCode [va_rf (some h0), .int 4, va_rf v1] N' S' μ (mj_XV P) ∧ (N' ≤ N ∧ S' ≤ S) ∧ ∀ (μ' : mj_MM), P μ' → mj_nc μ' = N' → mj_ns μ' = S' → mj_J G mY_T_freeResource Ex N S 18 [] [] μ'))) ∧ (∀ b1 : Nat, v2 = some b1 → (∃ b4 : Nat, (v1 = some b4) ∧ (mj_t μ b4 = 9) ∧ ((v2 = mj_r μ b4 15 → ((mj_t μ b1 = 8) ∧ Ex none (mj_pR (mj_pR μ b1 1 none) b4 15 (mj_r μ b1 2)))) ∧ (¬ v2 = mj_r μ b4 15 → ((mj_t μ h0 = 1) ∧ (∃ (N' S' : Nat) (P : mj_MM → Prop), mj_M G my_T_tellCode mY_T_tellCode [va_rf (some h0), .int 4, va_rf v1] N' S' μ (mj_XV P) ∧ (N' ≤ N ∧ S' ≤ S) ∧ ∀ (μ' : mj_MM), P μ' → mj_nc μ' = N' → mj_ns μ' = S' → mj_J G mY_T_freeResource Ex N S 18 [] [] μ')))))))) :
    mj_J G mY_T_freeResource Ex N S 0 [(0, va_rf (some h0)), (1, va_rf v1), (2, va_rf v2)] [] μ := by
  refine mj_aload_n 2 md_T_freeResource_0 rfl ?_
  obtain ⟨H1, H2⟩ := H
  refine mj_ifnull (tgt := 12) md_T_freeResource_1 (by decide) (fun hb => ?_) (fun b1 hb2 => ?_)
  · replace H := H1 hb
    refine mj_aload_n 0 md_T_freeResource_12 rfl ?_
    refine mj_iconst (v := 4) md_T_freeResource_13 (by decide) ?_
    refine mj_aload_n 1 md_T_freeResource_14 rfl ?_
    obtain ⟨ht3, H⟩ := H
    obtain ⟨N', S', P, hM, hNS, H⟩ := H
    exact mj_callV (n := 2) (As := [.int 4, va_rf v1]) rfl hM kc_T ht3 ⟨tw_405, tw_1, tw_408, ⟨by decide, by decide, by decide +kernel⟩, by decide, by decide⟩ tw_407 tp_9 rfl md_T_freeResource_15 (by first | decide | (simp only [List.map_cons, List.map_nil, List.sum_cons, List.sum_nil, mj_rfc, mj_ci, mj_cl]; done) | (simp only [List.map_cons, List.map_nil, List.sum_cons, List.sum_nil, mj_rfc, mj_ci, mj_cl]; decide)) (fun _ => hNS) (mj_kV (fun μ' hP e1 e2 => mj_lvs [] rfl (H μ' hP e1 e2)))
  · replace H := H2 b1 hb2
    refine mj_aload_n 2 md_T_freeResource_4 rfl ?_
    refine mj_aload_n 1 md_T_freeResource_5 rfl ?_
    obtain ⟨b4, hb5, H⟩ := H
    obtain ⟨ht6, H⟩ := H
    refine mj_getf (v := va_rf (mj_r μ b4 15)) hb5 kc_K 15 (by decide) tw_241 md_T_freeResource_6 ht6 rfl ?_
    obtain ⟨H1, H2⟩ := H
    refine mj_acmp_eq (tgt := 19) md_T_freeResource_9 (by decide) (fun hx => ?_) (fun hx => ?_)
    · replace H := H1 hx
      refine mj_aload_n 2 md_T_freeResource_19 rfl ?_
      refine mj_null md_T_freeResource_20 ?_
      obtain ⟨ht7, H⟩ := H
      refine mj_putR hb2 kc_R 1 (by decide) rfl tw_113 md_T_freeResource_21 (Or.inl rfl) ht7 ?_
      refine mj_aload_n 1 md_T_freeResource_24 rfl ?_
      refine mj_aload_n 2 md_T_freeResource_25 rfl ?_
      refine mj_getf (v := va_rf (mj_r μ b1 2)) hb2 kc_R 2 (by decide) tw_115 md_T_freeResource_26 ht7 rfl ?_
      refine mj_putR hb5 kc_K 15 (by decide) rfl tw_241 md_T_freeResource_29 (Or.inl rfl) ht6 ?_
      exact mj_return md_T_freeResource_32 rfl H
    · replace H := H2 hx
      refine mj_aload_n 0 md_T_freeResource_12 rfl ?_
      refine mj_iconst (v := 4) md_T_freeResource_13 (by decide) ?_
      refine mj_aload_n 1 md_T_freeResource_14 rfl ?_
      obtain ⟨ht8, H⟩ := H
      obtain ⟨N', S', P, hM, hNS, H⟩ := H
      exact mj_callV (n := 2) (As := [.int 4, va_rf v1]) rfl hM kc_T ht8 ⟨tw_405, tw_1, tw_408, ⟨by decide, by decide, by decide +kernel⟩, by decide, by decide⟩ tw_407 tp_9 rfl md_T_freeResource_15 (by first | decide | (simp only [List.map_cons, List.map_nil, List.sum_cons, List.sum_nil, mj_rfc, mj_ci, mj_cl]; done) | (simp only [List.map_cons, List.map_nil, List.sum_cons, List.sum_nil, mj_rfc, mj_ci, mj_cl]; decide)) (fun _ => hNS) (mj_kV (fun μ' hP e1 e2 => mj_lvs [] rfl (H μ' hP e1 e2)))

set_option maxRecDepth 20000 in
theorem bk_T_freeResource_18 {G : mj_G} {Ex : Option Value → mj_MM → Prop} {N S : Nat} {μ : mj_MM}
    (H : Ex none μ) :
    mj_J G mY_T_freeResource Ex N S 18 [] [] μ := by
  exact mj_return md_T_freeResource_18 rfl H

set_option maxRecDepth 20000 in
theorem bk_T_takeLock_0 {G : mj_G} {Ex : Option Value → mj_MM → Prop} {N S : Nat} {μ : mj_MM} {h0 : Nat} {v1 : Option Nat} {v2 : Option Nat}
    (H : ((v2 = none → ((mj_t μ h0 = 1) ∧ (∃ (N' S' : Nat) (P : mj_MM → Prop), mj_M G my_T_tellCode mY_T_tellCode [va_rf (some h0), .int 6, va_rf v1] N' S' μ (mj_XV P) ∧ (N' ≤ N ∧ S' ≤ S) ∧ ∀ (μ' : mj_MM), P μ' → mj_nc μ' = N' → mj_ns μ' = S' → mj_J G mY_T_takeLock Ex N S 18 [] [] μ'))) ∧ (∀ b1 : Nat, v2 = some b1 → ((mj_t μ b1 = 5) ∧ ((mj_r μ b1 0 = none → (∃ b7 : Nat, (v1 = some b7) ∧ (mj_t μ b7 = 9) ∧ Ex none (mj_pI (mj_pR μ b1 0 v1) b7 16 ((mj_i μ b7 16) + 1)))) ∧ (∀ b5 : Nat, mj_r μ b1 0 = some b5 → ((mj_t μ h0 = 1) ∧ (∃ (N' S' : Nat) (P : mj_MM → Prop), mj_M G my_T_tellCode mY_T_tellCode [va_rf (some h0), .int 6, va_rf v1] N' S' μ (mj_XV P) ∧ (N' ≤ N ∧ S' ≤ S) ∧ ∀ (μ' : mj_MM), P μ' → mj_nc μ' = N' → mj_ns μ' = S' → mj_J G mY_T_takeLock Ex N S 18 [] [] μ')))))))) :
    mj_J G mY_T_takeLock Ex N S 0 [(0, va_rf (some h0)), (1, va_rf v1), (2, va_rf v2)] [] μ := by
  refine mj_aload_n 2 md_T_takeLock_0 rfl ?_
  obtain ⟨H1, H2⟩ := H
  refine mj_ifnull (tgt := 11) md_T_takeLock_1 (by decide) (fun hb => ?_) (fun b1 hb2 => ?_)
  · replace H := H1 hb
    refine mj_aload_n 0 md_T_takeLock_11 rfl ?_
    refine mj_bipush (v := 6) md_T_takeLock_12 (by decide) ?_
    refine mj_aload_n 1 md_T_takeLock_14 rfl ?_
    obtain ⟨ht3, H⟩ := H
    obtain ⟨N', S', P, hM, hNS, H⟩ := H
    exact mj_callV (n := 2) (As := [.int 6, va_rf v1]) rfl hM kc_T ht3 ⟨tw_405, tw_1, tw_408, ⟨by decide, by decide, by decide +kernel⟩, by decide, by decide⟩ tw_407 tp_9 rfl md_T_takeLock_15 (by first | decide | (simp only [List.map_cons, List.map_nil, List.sum_cons, List.sum_nil, mj_rfc, mj_ci, mj_cl]; done) | (simp only [List.map_cons, List.map_nil, List.sum_cons, List.sum_nil, mj_rfc, mj_ci, mj_cl]; decide)) (fun _ => hNS) (mj_kV (fun μ' hP e1 e2 => mj_lvs [] rfl (H μ' hP e1 e2)))
  · replace H := H2 b1 hb2
    refine mj_aload_n 2 md_T_takeLock_4 rfl ?_
    obtain ⟨ht4, H⟩ := H
    refine mj_getf (v := va_rf (mj_r μ b1 0)) hb2 kc_L 0 (by decide) tw_129 md_T_takeLock_5 ht4 rfl ?_
    obtain ⟨H1, H2⟩ := H
    refine mj_ifnull (tgt := 19) md_T_takeLock_8 (by decide) (fun hb => ?_) (fun b5 hb6 => ?_)
    · replace H := H1 hb
      refine mj_aload_n 2 md_T_takeLock_19 rfl ?_
      refine mj_aload_n 1 md_T_takeLock_20 rfl ?_
      refine mj_putR hb2 kc_L 0 (by decide) rfl tw_129 md_T_takeLock_21 (Or.inl rfl) ht4 ?_
      refine mj_aload_n 1 md_T_takeLock_24 rfl ?_
      refine mj_dup md_T_takeLock_25 (mj_rfc _) ?_
      obtain ⟨b7, hb8, H⟩ := H
      obtain ⟨ht9, H⟩ := H
      refine mj_getf (v := .int (mj_i μ b7 16)) hb8 kc_K 16 (by decide) tw_243 md_T_takeLock_26 ht9 rfl ?_
      refine mj_iconst (v := 1) md_T_takeLock_29 (by decide) ?_
      refine mj_iadd md_T_takeLock_30 ?_
      refine mj_putI hb8 kc_K 16 (by decide) rfl tw_243 md_T_takeLock_31 (Or.inl rfl) ht9 rfl rfl ?_
      exact mj_return md_T_takeLock_34 rfl H
    · replace H := H2 b5 hb6
      refine mj_aload_n 0 md_T_takeLock_11 rfl ?_
      refine mj_bipush (v := 6) md_T_takeLock_12 (by decide) ?_
      refine mj_aload_n 1 md_T_takeLock_14 rfl ?_
      obtain ⟨ht10, H⟩ := H
      obtain ⟨N', S', P, hM, hNS, H⟩ := H
      exact mj_callV (n := 2) (As := [.int 6, va_rf v1]) rfl hM kc_T ht10 ⟨tw_405, tw_1, tw_408, ⟨by decide, by decide, by decide +kernel⟩, by decide, by decide⟩ tw_407 tp_9 rfl md_T_takeLock_15 (by first | decide | (simp only [List.map_cons, List.map_nil, List.sum_cons, List.sum_nil, mj_rfc, mj_ci, mj_cl]; done) | (simp only [List.map_cons, List.map_nil, List.sum_cons, List.sum_nil, mj_rfc, mj_ci, mj_cl]; decide)) (fun _ => hNS) (mj_kV (fun μ' hP e1 e2 => mj_lvs [] rfl (H μ' hP e1 e2)))

set_option maxRecDepth 20000 in
theorem bk_T_takeLock_18 {G : mj_G} {Ex : Option Value → mj_MM → Prop} {N S : Nat} {μ : mj_MM}
    (H : Ex none μ) :
    mj_J G mY_T_takeLock Ex N S 18 [] [] μ := by
  exact mj_return md_T_takeLock_18 rfl H

set_option maxRecDepth 20000 in
theorem bk_T_unlock_0 {G : mj_G} {Ex : Option Value → mj_MM → Prop} {N S : Nat} {μ : mj_MM} {h0 : Nat} {v1 : Option Nat} {v2 : Option Nat}
    (H : ((v2 = none → ((mj_t μ h0 = 1) ∧ (∃ (N' S' : Nat) (P : mj_MM → Prop), mj_M G my_T_tellCode mY_T_tellCode [va_rf (some h0), .int 6, va_rf v1] N' S' μ (mj_XV P) ∧ (N' ≤ N ∧ S' ≤ S) ∧ ∀ (μ' : mj_MM), P μ' → mj_nc μ' = N' → mj_ns μ' = S' → mj_J G mY_T_unlock Ex N S 19 [] [] μ'))) ∧ (∀ b1 : Nat, v2 = some b1 → ((mj_t μ b1 = 5) ∧ ((mj_r μ b1 0 = v1 → (∃ b5 : Nat, (v1 = some b5) ∧ (mj_t μ b5 = 9) ∧ (∃ P : mj_MM → Prop, mj_M G my_L_handOn mY_L_handOn [va_rf (some b1)] (mj_nc μ) (mj_ns μ) (mj_pI μ b5 16 ((mj_i μ b5 16) - 1)) (mj_XV P) ∧ ∀ (μ' : mj_MM), P μ' → mj_nc μ' = mj_nc μ → mj_ns μ' = mj_ns μ → mj_J G mY_T_unlock Ex N S 34 [] [] μ'))) ∧ (¬ mj_r μ b1 0 = v1 → ((mj_t μ h0 = 1) ∧ (∃ (N' S' : Nat) (P : mj_MM → Prop), mj_M G my_T_tellCode mY_T_tellCode [va_rf (some h0), .int 6, va_rf v1] N' S' μ (mj_XV P) ∧ (N' ≤ N ∧ S' ≤ S) ∧ ∀ (μ' : mj_MM), P μ' → mj_nc μ' = N' → mj_ns μ' = S' → mj_J G mY_T_unlock Ex N S 19 [] [] μ')))))))) :
    mj_J G mY_T_unlock Ex N S 0 [(0, va_rf (some h0)), (1, va_rf v1), (2, va_rf v2)] [] μ := by
  refine mj_aload_n 2 md_T_unlock_0 rfl ?_
  obtain ⟨H1, H2⟩ := H
  refine mj_ifnull (tgt := 12) md_T_unlock_1 (by decide) (fun hb => ?_) (fun b1 hb2 => ?_)
  · replace H := H1 hb
    refine mj_aload_n 0 md_T_unlock_12 rfl ?_
    refine mj_bipush (v := 6) md_T_unlock_13 (by decide) ?_
    refine mj_aload_n 1 md_T_unlock_15 rfl ?_
    obtain ⟨ht3, H⟩ := H
    obtain ⟨N', S', P, hM, hNS, H⟩ := H
    exact mj_callV (n := 2) (As := [.int 6, va_rf v1]) rfl hM kc_T ht3 ⟨tw_405, tw_1, tw_408, ⟨by decide, by decide, by decide +kernel⟩, by decide, by decide⟩ tw_407 tp_9 rfl md_T_unlock_16 (by first | decide | (simp only [List.map_cons, List.map_nil, List.sum_cons, List.sum_nil, mj_rfc, mj_ci, mj_cl]; done) | (simp only [List.map_cons, List.map_nil, List.sum_cons, List.sum_nil, mj_rfc, mj_ci, mj_cl]; decide)) (fun _ => hNS) (mj_kV (fun μ' hP e1 e2 => mj_lvs [] rfl (H μ' hP e1 e2)))
  · replace H := H2 b1 hb2
    refine mj_aload_n 2 md_T_unlock_4 rfl ?_
    obtain ⟨ht4, H⟩ := H
    refine mj_getf (v := va_rf (mj_r μ b1 0)) hb2 kc_L 0 (by decide) tw_129 md_T_unlock_5 ht4 rfl ?_
    refine mj_aload_n 1 md_T_unlock_8 rfl ?_
    obtain ⟨H1, H2⟩ := H
    refine mj_acmp_eq (tgt := 20) md_T_unlock_9 (by decide) (fun hx => ?_) (fun hx => ?_)
    · replace H := H1 hx
      refine mj_aload_n 1 md_T_unlock_20 rfl ?_
      refine mj_dup md_T_unlock_21 (mj_rfc _) ?_
      obtain ⟨b5, hb6, H⟩ := H
      obtain ⟨ht7, H⟩ := H
      refine mj_getf (v := .int (mj_i μ b5 16)) hb6 kc_K 16 (by decide) tw_243 md_T_unlock_22 ht7 rfl ?_
      refine mj_iconst (v := 1) md_T_unlock_25 (by decide) ?_
      refine mj_isub md_T_unlock_26 ?_
      refine mj_putI hb6 kc_K 16 (by decide) rfl tw_243 md_T_unlock_27 (Or.inl rfl) ht7 rfl rfl ?_
      refine mj_aload_n 2 md_T_unlock_30 rfl ?_
      obtain ⟨P, hM, H⟩ := H
      exact mj_callV (n := 0) (As := []) hb2 hM kc_L ht4 ⟨tw_461, tw_7, tw_464, ⟨by decide, by decide, by decide +kernel⟩, by decide, by decide⟩ tw_462 tw_463 rfl md_T_unlock_31 (by first | decide | (simp only [List.map_cons, List.map_nil, List.sum_cons, List.sum_nil, mj_rfc, mj_ci, mj_cl]; done) | (simp only [List.map_cons, List.map_nil, List.sum_cons, List.sum_nil, mj_rfc, mj_ci, mj_cl]; decide)) id (mj_kV (fun μ' hP e1 e2 => mj_lvs [] rfl (H μ' hP e1 e2)))
    · replace H := H2 hx
      refine mj_aload_n 0 md_T_unlock_12 rfl ?_
      refine mj_bipush (v := 6) md_T_unlock_13 (by decide) ?_
      refine mj_aload_n 1 md_T_unlock_15 rfl ?_
      obtain ⟨ht8, H⟩ := H
      obtain ⟨N', S', P, hM, hNS, H⟩ := H
      exact mj_callV (n := 2) (As := [.int 6, va_rf v1]) rfl hM kc_T ht8 ⟨tw_405, tw_1, tw_408, ⟨by decide, by decide, by decide +kernel⟩, by decide, by decide⟩ tw_407 tp_9 rfl md_T_unlock_16 (by first | decide | (simp only [List.map_cons, List.map_nil, List.sum_cons, List.sum_nil, mj_rfc, mj_ci, mj_cl]; done) | (simp only [List.map_cons, List.map_nil, List.sum_cons, List.sum_nil, mj_rfc, mj_ci, mj_cl]; decide)) (fun _ => hNS) (mj_kV (fun μ' hP e1 e2 => mj_lvs [] rfl (H μ' hP e1 e2)))

set_option maxRecDepth 20000 in
theorem bk_T_unlock_19 {G : mj_G} {Ex : Option Value → mj_MM → Prop} {N S : Nat} {μ : mj_MM}
    (H : Ex none μ) :
    mj_J G mY_T_unlock Ex N S 19 [] [] μ := by
  exact mj_return md_T_unlock_19 rfl H

set_option maxRecDepth 20000 in
theorem bk_T_unlock_34 {G : mj_G} {Ex : Option Value → mj_MM → Prop} {N S : Nat} {μ : mj_MM}
    (H : Ex none μ) :
    mj_J G mY_T_unlock Ex N S 34 [] [] μ := by
  exact mj_return md_T_unlock_34 rfl H

set_option maxRecDepth 20000 in
theorem bk_T_putOff_0 {G : mj_G} {Ex : Option Value → mj_MM → Prop} {N S : Nat} {μ : mj_MM} {h0 : Nat} {v1 : Option Nat} {v2 : Int32}
    (H : (∃ b1 : Nat, (v1 = some b1) ∧ (mj_t μ b1 = 9) ∧ ∃ b4 : Nat, (mj_r μ b1 2 = some b4) ∧ (mj_t μ b4 = 2) ∧ ((¬ (mj_i μ b4 0) = 0 → ((mj_t μ h0 = 1) ∧ (∃ (N' S' : Nat) (P : mj_MM → Prop), mj_M G my_T_tellCode mY_T_tellCode [va_rf (some h0), .int 7, va_rf v1] N' S' μ (mj_XV P) ∧ (N' ≤ N ∧ S' ≤ S) ∧ ∀ (μ' : mj_MM), P μ' → mj_nc μ' = N' → mj_ns μ' = S' → mj_J G mY_T_putOff Ex N S 27 [] [] μ'))) ∧ ((mj_i μ b4 0) = 0 → ((mj_t μ h0 = 1) ∧ ∃ b9 : Nat, (mj_r μ h0 4 = some b9) ∧ (mj_t μ b9 = 4) ∧ ((mj_r μ b9 2 = none → Ex none (mj_pI (mj_pR μ b9 2 v1) b9 3 ((mj_i μ h0 12) + v2))) ∧ (∀ b12 : Nat, mj_r μ b9 2 = some b12 → (∃ (N' S' : Nat) (P : mj_MM → Prop), mj_M G my_T_tellCode mY_T_tellCode [va_rf (some h0), .int 7, va_rf v1] N' S' μ (mj_XV P) ∧ (N' ≤ N ∧ S' ≤ S) ∧ ∀ (μ' : mj_MM), P μ' → mj_nc μ' = N' → mj_ns μ' = S' → mj_J G mY_T_putOff Ex N S 27 [] [] μ')))))))) :
    mj_J G mY_T_putOff Ex N S 0 [(0, va_rf (some h0)), (1, va_rf v1), (2, .int v2)] [] μ := by
  refine mj_aload_n 1 md_T_putOff_0 rfl ?_
  obtain ⟨b1, hb2, H⟩ := H
  obtain ⟨ht3, H⟩ := H
  refine mj_getf (v := va_rf (mj_r μ b1 2)) hb2 kc_K 2 (by decide) tw_218 md_T_putOff_1 ht3 rfl ?_
  obtain ⟨b4, hb5, H⟩ := H
  obtain ⟨ht6, H⟩ := H
  refine mj_getf (v := .int (mj_i μ b4 0)) hb5 kc_C 0 (by decide) tw_82 md_T_putOff_4 ht6 rfl ?_
  obtain ⟨H1, H2⟩ := H
  refine mj_if_ne (tgt := 20) md_T_putOff_7 (by decide) (fun hx => ?_) (fun hx => ?_)
  · replace H := H1 hx
    refine mj_aload_n 0 md_T_putOff_20 rfl ?_
    refine mj_bipush (v := 7) md_T_putOff_21 (by decide) ?_
    refine mj_aload_n 1 md_T_putOff_23 rfl ?_
    obtain ⟨ht7, H⟩ := H
    obtain ⟨N', S', P, hM, hNS, H⟩ := H
    exact mj_callV (n := 2) (As := [.int 7, va_rf v1]) rfl hM kc_T ht7 ⟨tw_405, tw_1, tw_408, ⟨by decide, by decide, by decide +kernel⟩, by decide, by decide⟩ tw_407 tp_9 rfl md_T_putOff_24 (by first | decide | (simp only [List.map_cons, List.map_nil, List.sum_cons, List.sum_nil, mj_rfc, mj_ci, mj_cl]; done) | (simp only [List.map_cons, List.map_nil, List.sum_cons, List.sum_nil, mj_rfc, mj_ci, mj_cl]; decide)) (fun _ => hNS) (mj_kV (fun μ' hP e1 e2 => mj_lvs [] rfl (H μ' hP e1 e2)))
  · replace H := H2 hx
    refine mj_aload_n 0 md_T_putOff_10 rfl ?_
    obtain ⟨ht8, H⟩ := H
    refine mj_getf (v := va_rf (mj_r μ h0 4)) rfl kc_T 4 (by decide) tw_141 md_T_putOff_11 ht8 rfl ?_
    obtain ⟨b9, hb10, H⟩ := H
    obtain ⟨ht11, H⟩ := H
    refine mj_getf (v := va_rf (mj_r μ b9 2)) hb10 kc_U 2 (by decide) tw_37 md_T_putOff_14 ht11 rfl ?_
    obtain ⟨H1, H2⟩ := H
    refine mj_ifnull (tgt := 28) md_T_putOff_17 (by decide) (fun hb => ?_) (fun b12 hb13 => ?_)
    · replace H := H1 hb
      refine mj_aload_n 0 md_T_putOff_28 rfl ?_
      refine mj_getf (v := va_rf (mj_r μ h0 4)) rfl kc_T 4 (by decide) tw_141 md_T_putOff_29 ht8 rfl ?_
      refine mj_aload_n 1 md_T_putOff_32 rfl ?_
      refine mj_putR hb10 kc_U 2 (by decide) rfl tw_37 md_T_putOff_33 (Or.inl rfl) ht11 ?_
      refine mj_aload_n 0 md_T_putOff_36 rfl ?_
      refine mj_getf (v := va_rf (mj_r μ h0 4)) rfl kc_T 4 (by decide) tw_141 md_T_putOff_37 ht8 rfl ?_
      refine mj_aload_n 0 md_T_putOff_40 rfl ?_
      refine mj_getf (v := .int (mj_i μ h0 12)) rfl kc_T 12 (by decide) tw_149 md_T_putOff_41 ht8 rfl ?_
      refine mj_iload_n 2 md_T_putOff_44 rfl ?_
      refine mj_iadd md_T_putOff_45 ?_
      refine mj_putI hb10 kc_U 3 (by decide) rfl tw_39 md_T_putOff_46 (Or.inl rfl) ht11 rfl rfl ?_
      exact mj_return md_T_putOff_49 rfl H
    · replace H := H2 b12 hb13
      refine mj_aload_n 0 md_T_putOff_20 rfl ?_
      refine mj_bipush (v := 7) md_T_putOff_21 (by decide) ?_
      refine mj_aload_n 1 md_T_putOff_23 rfl ?_
      obtain ⟨N', S', P, hM, hNS, H⟩ := H
      exact mj_callV (n := 2) (As := [.int 7, va_rf v1]) rfl hM kc_T ht8 ⟨tw_405, tw_1, tw_408, ⟨by decide, by decide, by decide +kernel⟩, by decide, by decide⟩ tw_407 tp_9 rfl md_T_putOff_24 (by first | decide | (simp only [List.map_cons, List.map_nil, List.sum_cons, List.sum_nil, mj_rfc, mj_ci, mj_cl]; done) | (simp only [List.map_cons, List.map_nil, List.sum_cons, List.sum_nil, mj_rfc, mj_ci, mj_cl]; decide)) (fun _ => hNS) (mj_kV (fun μ' hP e1 e2 => mj_lvs [] rfl (H μ' hP e1 e2)))

set_option maxRecDepth 20000 in
theorem bk_T_putOff_27 {G : mj_G} {Ex : Option Value → mj_MM → Prop} {N S : Nat} {μ : mj_MM}
    (H : Ex none μ) :
    mj_J G mY_T_putOff Ex N S 27 [] [] μ := by
  exact mj_return md_T_putOff_27 rfl H

set_option maxRecDepth 20000 in
theorem bk_T_putOn_0 {G : mj_G} {Ex : Option Value → mj_MM → Prop} {N S : Nat} {μ : mj_MM} {h0 : Nat} {v1 : Option Nat}
    (H : (∃ b1 : Nat, (v1 = some b1) ∧ (mj_t μ b1 = 9) ∧ ∃ b4 : Nat, (mj_r μ b1 2 = some b4) ∧ (mj_t μ b4 = 2) ∧ ((¬ (mj_i μ b4 0) = 0 → ((mj_t μ h0 = 1) ∧ (∃ (N' S' : Nat) (P : mj_MM → Prop), mj_M G my_T_tellCode mY_T_tellCode [va_rf (some h0), .int 7, va_rf v1] N' S' μ (mj_XV P) ∧ (N' ≤ N ∧ S' ≤ S) ∧ ∀ (μ' : mj_MM), P μ' → mj_nc μ' = N' → mj_ns μ' = S' → mj_J G mY_T_putOn Ex N S 27 [] [] μ'))) ∧ ((mj_i μ b4 0) = 0 → ((mj_t μ h0 = 1) ∧ ∃ b9 : Nat, (mj_r μ h0 4 = some b9) ∧ (mj_t μ b9 = 4) ∧ ((mj_r μ b9 2 = none → (∃ (N' S' : Nat) (P : mj_MM → Prop), mj_M G my_T_tellCode mY_T_tellCode [va_rf (some h0), .int 7, va_rf v1] N' S' μ (mj_XV P) ∧ (N' ≤ N ∧ S' ≤ S) ∧ ∀ (μ' : mj_MM), P μ' → mj_nc μ' = N' → mj_ns μ' = S' → mj_J G mY_T_putOn Ex N S 27 [] [] μ')) ∧ (∀ b12 : Nat, mj_r μ b9 2 = some b12 → Ex none (mj_pR μ b9 2 none)))))))) :
    mj_J G mY_T_putOn Ex N S 0 [(0, va_rf (some h0)), (1, va_rf v1)] [] μ := by
  refine mj_aload_n 1 md_T_putOn_0 rfl ?_
  obtain ⟨b1, hb2, H⟩ := H
  obtain ⟨ht3, H⟩ := H
  refine mj_getf (v := va_rf (mj_r μ b1 2)) hb2 kc_K 2 (by decide) tw_218 md_T_putOn_1 ht3 rfl ?_
  obtain ⟨b4, hb5, H⟩ := H
  obtain ⟨ht6, H⟩ := H
  refine mj_getf (v := .int (mj_i μ b4 0)) hb5 kc_C 0 (by decide) tw_82 md_T_putOn_4 ht6 rfl ?_
  obtain ⟨H1, H2⟩ := H
  refine mj_if_ne (tgt := 20) md_T_putOn_7 (by decide) (fun hx => ?_) (fun hx => ?_)
  · replace H := H1 hx
    refine mj_aload_n 0 md_T_putOn_20 rfl ?_
    refine mj_bipush (v := 7) md_T_putOn_21 (by decide) ?_
    refine mj_aload_n 1 md_T_putOn_23 rfl ?_
    obtain ⟨ht7, H⟩ := H
    obtain ⟨N', S', P, hM, hNS, H⟩ := H
    exact mj_callV (n := 2) (As := [.int 7, va_rf v1]) rfl hM kc_T ht7 ⟨tw_405, tw_1, tw_408, ⟨by decide, by decide, by decide +kernel⟩, by decide, by decide⟩ tw_407 tp_9 rfl md_T_putOn_24 (by first | decide | (simp only [List.map_cons, List.map_nil, List.sum_cons, List.sum_nil, mj_rfc, mj_ci, mj_cl]; done) | (simp only [List.map_cons, List.map_nil, List.sum_cons, List.sum_nil, mj_rfc, mj_ci, mj_cl]; decide)) (fun _ => hNS) (mj_kV (fun μ' hP e1 e2 => mj_lvs [] rfl (H μ' hP e1 e2)))
  · replace H := H2 hx
    refine mj_aload_n 0 md_T_putOn_10 rfl ?_
    obtain ⟨ht8, H⟩ := H
    refine mj_getf (v := va_rf (mj_r μ h0 4)) rfl kc_T 4 (by decide) tw_141 md_T_putOn_11 ht8 rfl ?_
    obtain ⟨b9, hb10, H⟩ := H
    obtain ⟨ht11, H⟩ := H
    refine mj_getf (v := va_rf (mj_r μ b9 2)) hb10 kc_U 2 (by decide) tw_37 md_T_putOn_14 ht11 rfl ?_
    obtain ⟨H1, H2⟩ := H
    refine mj_ifnonnull (tgt := 28) md_T_putOn_17 (by decide) (fun b12 hb13 => ?_) (fun hb => ?_)
    · replace H := H2 b12 hb13
      refine mj_aload_n 0 md_T_putOn_28 rfl ?_
      refine mj_getf (v := va_rf (mj_r μ h0 4)) rfl kc_T 4 (by decide) tw_141 md_T_putOn_29 ht8 rfl ?_
      refine mj_null md_T_putOn_32 ?_
      refine mj_putR hb10 kc_U 2 (by decide) rfl tw_37 md_T_putOn_33 (Or.inl rfl) ht11 ?_
      exact mj_return md_T_putOn_36 rfl H
    · replace H := H1 hb
      refine mj_aload_n 0 md_T_putOn_20 rfl ?_
      refine mj_bipush (v := 7) md_T_putOn_21 (by decide) ?_
      refine mj_aload_n 1 md_T_putOn_23 rfl ?_
      obtain ⟨N', S', P, hM, hNS, H⟩ := H
      exact mj_callV (n := 2) (As := [.int 7, va_rf v1]) rfl hM kc_T ht8 ⟨tw_405, tw_1, tw_408, ⟨by decide, by decide, by decide +kernel⟩, by decide, by decide⟩ tw_407 tp_9 rfl md_T_putOn_24 (by first | decide | (simp only [List.map_cons, List.map_nil, List.sum_cons, List.sum_nil, mj_rfc, mj_ci, mj_cl]; done) | (simp only [List.map_cons, List.map_nil, List.sum_cons, List.sum_nil, mj_rfc, mj_ci, mj_cl]; decide)) (fun _ => hNS) (mj_kV (fun μ' hP e1 e2 => mj_lvs [] rfl (H μ' hP e1 e2)))

set_option maxRecDepth 20000 in
theorem bk_T_putOn_27 {G : mj_G} {Ex : Option Value → mj_MM → Prop} {N S : Nat} {μ : mj_MM}
    (H : Ex none μ) :
    mj_J G mY_T_putOn Ex N S 27 [] [] μ := by
  exact mj_return md_T_putOn_27 rfl H

set_option maxRecDepth 20000 in
theorem bk_T_setEvents_0 {G : mj_G} {Ex : Option Value → mj_MM → Prop} {N S : Nat} {μ : mj_MM} {h0 : Nat} {v1 : Option Nat} {v2 : Int32}
    (H : (∃ b1 : Nat, (v1 = some b1) ∧ (mj_t μ b1 = 9) ∧ ((¬ (mj_i μ b1 9) = 3 → mj_J G mY_T_setEvents Ex N S 35 [] [] (mj_pI μ b1 12 ((mj_i μ b1 12) ||| v2))) ∧ ((mj_i μ b1 9) = 3 → (((((mj_i μ b1 12) ||| v2) &&& (mj_i μ b1 13)) = 0 → mj_J G mY_T_setEvents Ex N S 35 [] [] (mj_pI μ b1 12 ((mj_i μ b1 12) ||| v2))) ∧ (¬ (((mj_i μ b1 12) ||| v2) &&& (mj_i μ b1 13)) = 0 → ((mj_t μ h0 = 1) ∧ (∃ P : mj_MM → Prop, mj_M G my_T_makeReady mY_T_makeReady [va_rf (some h0), va_rf v1] (mj_nc μ) (mj_ns μ) (mj_pI μ b1 12 ((mj_i μ b1 12) ||| v2)) (mj_XV P) ∧ ∀ (μ' : mj_MM), P μ' → mj_nc μ' = mj_nc μ → mj_ns μ' = mj_ns μ → mj_J G mY_T_setEvents Ex N S 35 [] [] μ')))))))) :
    mj_J G mY_T_setEvents Ex N S 0 [(0, va_rf (some h0)), (1, va_rf v1), (2, .int v2)] [] μ := by
  refine mj_aload_n 1 md_T_setEvents_0 rfl ?_
  refine mj_dup md_T_setEvents_1 (mj_rfc _) ?_
  obtain ⟨b1, hb2, H⟩ := H
  obtain ⟨ht3, H⟩ := H
  refine mj_getf (v := .int (mj_i μ b1 12)) hb2 kc_K 12 (by decide) tw_236 md_T_setEvents_2 ht3 rfl ?_
  refine mj_iload_n 2 md_T_setEvents_5 rfl ?_
  refine mj_ior md_T_setEvents_6 ?_
  refine mj_putI hb2 kc_K 12 (by decide) rfl tw_236 md_T_setEvents_7 (Or.inl rfl) ht3 rfl rfl ?_
  refine mj_aload_n 1 md_T_setEvents_10 rfl ?_
  refine mj_getf (v := .int (mj_i μ b1 9)) hb2 kc_K 9 (by decide) tw_232 md_T_setEvents_11 ht3 rfl ?_
  refine mj_iconst (v := 3) md_T_setEvents_14 (by decide) ?_
  obtain ⟨H1, H2⟩ := H
  refine mj_icmp_ne (tgt := 35) md_T_setEvents_15 (by decide) (fun hx => ?_) (fun hx => ?_)
  · replace H := H1 hx
    exact mj_lvs [] rfl H
  · replace H := H2 hx
    refine mj_aload_n 1 md_T_setEvents_18 rfl ?_
    refine mj_getf (v := .int ((mj_i μ b1 12) ||| v2)) hb2 kc_K 12 (by decide) tw_236 md_T_setEvents_19 ht3 (by show Value.int (mj_i (mj_pI μ b1 12 ((mj_i μ b1 12) ||| v2)) b1 12) = _; rw [mj_sI]) ?_
    refine mj_aload_n 1 md_T_setEvents_22 rfl ?_
    refine mj_getf (v := .int (mj_i μ b1 13)) hb2 kc_K 13 (by decide) tw_237 md_T_setEvents_23 ht3 rfl ?_
    refine mj_iand md_T_setEvents_26 ?_
    obtain ⟨H1, H2⟩ := H
    refine mj_if_eq (tgt := 35) md_T_setEvents_27 (by decide) (fun hx => ?_) (fun hx => ?_)
    · replace H := H1 hx
      exact mj_lvs [] rfl H
    · replace H := H2 hx
      refine mj_aload_n 0 md_T_setEvents_30 rfl ?_
      refine mj_aload_n 1 md_T_setEvents_31 rfl ?_
      obtain ⟨ht4, H⟩ := H
      obtain ⟨P, hM, H⟩ := H
      exact mj_callV (n := 1) (As := [va_rf v1]) rfl hM kc_T ht4 ⟨tw_401, tw_1, tw_404, ⟨by decide, by decide, by decide +kernel⟩, by decide, by decide⟩ tw_403 tp_8 rfl md_T_setEvents_32 (by first | decide | (simp only [List.map_cons, List.map_nil, List.sum_cons, List.sum_nil, mj_rfc, mj_ci, mj_cl]; done) | (simp only [List.map_cons, List.map_nil, List.sum_cons, List.sum_nil, mj_rfc, mj_ci, mj_cl]; decide)) id (mj_kV (fun μ' hP e1 e2 => mj_lvs [] rfl (H μ' hP e1 e2)))

set_option maxRecDepth 20000 in
theorem bk_T_setEvents_35 {G : mj_G} {Ex : Option Value → mj_MM → Prop} {N S : Nat} {μ : mj_MM}
    (H : Ex none μ) :
    mj_J G mY_T_setEvents Ex N S 35 [] [] μ := by
  exact mj_return md_T_setEvents_35 rfl H

set_option maxRecDepth 20000 in
theorem bk_T_activateTask_0 {G : mj_G} {Ex : Option Value → mj_MM → Prop} {N S : Nat} {μ : mj_MM} {h0 : Nat} {v1 : Option Nat}
    (H : (∃ b1 : Nat, (v1 = some b1) ∧ (mj_t μ b1 = 9) ∧ ((¬ (mj_i μ b1 9) = 0 → (((mj_i μ b1 3) ≤ (1 + (mj_i μ b1 11)) → ((mj_t μ h0 = 1) ∧ (∃ (N' S' : Nat) (P : mj_MM → Prop), mj_M G my_T_tellCode mY_T_tellCode [va_rf (some h0), .int 1, va_rf v1] N' S' μ (mj_XV P) ∧ (N' ≤ N ∧ S' ≤ S) ∧ ∀ (μ' : mj_MM), P μ' → mj_nc μ' = N' → mj_ns μ' = S' → mj_J G mY_T_activateTask Ex N S 47 [] [] μ'))) ∧ (¬ (mj_i μ b1 3) ≤ (1 + (mj_i μ b1 11)) → mj_J G mY_T_activateTask Ex N S 47 [] [] (mj_pI μ b1 11 ((mj_i μ b1 11) + 1))))) ∧ ((mj_i μ b1 9) = 0 → ((mj_t μ h0 = 1) ∧ (∃ P : mj_MM → Prop, mj_M G my_T_startTask mY_T_startTask [va_rf (some h0), va_rf v1] (mj_nc μ) (mj_ns μ) μ (mj_XV P) ∧ ∀ (μ' : mj_MM), P μ' → mj_nc μ' = mj_nc μ → mj_ns μ' = mj_ns μ → mj_J G mY_T_activateTask Ex N S 12 [] [] μ')))))) :
    mj_J G mY_T_activateTask Ex N S 0 [(0, va_rf (some h0)), (1, va_rf v1)] [] μ := by
  refine mj_aload_n 1 md_T_activateTask_0 rfl ?_
  obtain ⟨b1, hb2, H⟩ := H
  obtain ⟨ht3, H⟩ := H
  refine mj_getf (v := .int (mj_i μ b1 9)) hb2 kc_K 9 (by decide) tw_232 md_T_activateTask_1 ht3 rfl ?_
  obtain ⟨H1, H2⟩ := H
  refine mj_if_ne (tgt := 15) md_T_activateTask_4 (by decide) (fun hx => ?_) (fun hx => ?_)
  · replace H := H1 hx
    refine mj_iconst (v := 1) md_T_activateTask_15 (by decide) ?_
    refine mj_aload_n 1 md_T_activateTask_16 rfl ?_
    refine mj_getf (v := .int (mj_i μ b1 11)) hb2 kc_K 11 (by decide) tw_235 md_T_activateTask_17 ht3 rfl ?_
    refine mj_iadd md_T_activateTask_20 ?_
    refine mj_aload_n 1 md_T_activateTask_21 rfl ?_
    refine mj_getf (v := .int (mj_i μ b1 3)) hb2 kc_K 3 (by decide) tw_220 md_T_activateTask_22 ht3 rfl ?_
    obtain ⟨H1, H2⟩ := H
    refine mj_icmp_ge (tgt := 41) md_T_activateTask_25 (by decide) (fun hx => ?_) (fun hx => ?_)
    · replace H := H1 hx
      refine mj_aload_n 0 md_T_activateTask_41 rfl ?_
      refine mj_iconst (v := 1) md_T_activateTask_42 (by decide) ?_
      refine mj_aload_n 1 md_T_activateTask_43 rfl ?_
      obtain ⟨ht4, H⟩ := H
      obtain ⟨N', S', P, hM, hNS, H⟩ := H
      exact mj_callV (n := 2) (As := [.int 1, va_rf v1]) rfl hM kc_T ht4 ⟨tw_405, tw_1, tw_408, ⟨by decide, by decide, by decide +kernel⟩, by decide, by decide⟩ tw_407 tp_9 rfl md_T_activateTask_44 (by first | decide | (simp only [List.map_cons, List.map_nil, List.sum_cons, List.sum_nil, mj_rfc, mj_ci, mj_cl]; done) | (simp only [List.map_cons, List.map_nil, List.sum_cons, List.sum_nil, mj_rfc, mj_ci, mj_cl]; decide)) (fun _ => hNS) (mj_kV (fun μ' hP e1 e2 => mj_lvs [] rfl (H μ' hP e1 e2)))
    · replace H := H2 hx
      refine mj_aload_n 1 md_T_activateTask_28 rfl ?_
      refine mj_dup md_T_activateTask_29 (mj_rfc _) ?_
      refine mj_getf (v := .int (mj_i μ b1 11)) hb2 kc_K 11 (by decide) tw_235 md_T_activateTask_30 ht3 rfl ?_
      refine mj_iconst (v := 1) md_T_activateTask_33 (by decide) ?_
      refine mj_iadd md_T_activateTask_34 ?_
      refine mj_putI hb2 kc_K 11 (by decide) rfl tw_235 md_T_activateTask_35 (Or.inl rfl) ht3 rfl rfl ?_
      refine mj_goto (tgt := 47) md_T_activateTask_38 (by decide) ?_
      exact mj_lvs [] rfl H
  · replace H := H2 hx
    refine mj_aload_n 0 md_T_activateTask_7 rfl ?_
    refine mj_aload_n 1 md_T_activateTask_8 rfl ?_
    obtain ⟨ht5, H⟩ := H
    obtain ⟨P, hM, H⟩ := H
    exact mj_callV (n := 1) (As := [va_rf v1]) rfl hM kc_T ht5 ⟨tw_397, tw_1, tw_400, ⟨by decide, by decide, by decide +kernel⟩, by decide, by decide⟩ tw_399 tp_7 rfl md_T_activateTask_9 (by first | decide | (simp only [List.map_cons, List.map_nil, List.sum_cons, List.sum_nil, mj_rfc, mj_ci, mj_cl]; done) | (simp only [List.map_cons, List.map_nil, List.sum_cons, List.sum_nil, mj_rfc, mj_ci, mj_cl]; decide)) id (mj_kV (fun μ' hP e1 e2 => mj_lvs [] rfl (H μ' hP e1 e2)))

set_option maxRecDepth 20000 in
theorem bk_T_activateTask_47 {G : mj_G} {Ex : Option Value → mj_MM → Prop} {N S : Nat} {μ : mj_MM}
    (H : Ex none μ) :
    mj_J G mY_T_activateTask Ex N S 47 [] [] μ := by
  exact mj_return md_T_activateTask_47 rfl H

set_option maxRecDepth 20000 in
theorem bk_T_activateTask_12 {G : mj_G} {Ex : Option Value → mj_MM → Prop} {N S : Nat} {μ : mj_MM}
    (H : mj_J G mY_T_activateTask Ex N S 47 [] [] μ) :
    mj_J G mY_T_activateTask Ex N S 12 [] [] μ := by
  refine mj_goto (tgt := 47) md_T_activateTask_12 (by decide) ?_
  exact mj_lvs [] rfl H

set_option maxRecDepth 20000 in
theorem bk_T_endTask_0 {G : mj_G} {Ex : Option Value → mj_MM → Prop} {N S : Nat} {μ : mj_MM} {h0 : Nat} {v1 : Option Nat}
    (H : ((mj_t μ h0 = 1) ∧ (∃ P : Int32 → mj_MM → Prop, mj_M G my_T_freeAll mY_T_freeAll [va_rf (some h0), va_rf v1] (mj_nc μ) (mj_ns μ) μ (mj_XI P) ∧ ∀ (x : Int32) (μ' : mj_MM), P x μ' → mj_nc μ' = mj_nc μ → mj_ns μ' = mj_ns μ → mj_J G mY_T_endTask Ex N S 5 [(0, va_rf (some h0)), (1, va_rf v1)] [.int x] μ'))) :
    mj_J G mY_T_endTask Ex N S 0 [(0, va_rf (some h0)), (1, va_rf v1)] [] μ := by
  refine mj_aload_n 0 md_T_endTask_0 rfl ?_
  refine mj_aload_n 1 md_T_endTask_1 rfl ?_
  obtain ⟨ht1, H⟩ := H
  obtain ⟨P, hM, H⟩ := H
  exact mj_callV (n := 1) (As := [va_rf v1]) rfl hM kc_T ht1 ⟨tw_457, tw_1, tw_460, ⟨by decide, by decide, by decide +kernel⟩, by decide, by decide⟩ tw_459 tp_16 rfl md_T_endTask_2 (by first | decide | (simp only [List.map_cons, List.map_nil, List.sum_cons, List.sum_nil, mj_rfc, mj_ci, mj_cl]; done) | (simp only [List.map_cons, List.map_nil, List.sum_cons, List.sum_nil, mj_rfc, mj_ci, mj_cl]; decide)) id (mj_kI (fun x μ' hP e1 e2 => mj_lvs [0, 1] rfl (H x μ' hP e1 e2)))

set_option maxRecDepth 20000 in
theorem bk_T_endTask_5 {G : mj_G} {Ex : Option Value → mj_MM → Prop} {N S : Nat} {μ : mj_MM} {h0 : Nat} {v1 : Option Nat} {s0 : Int32}
    (H : ((s0 = 0 → mj_J G mY_T_endTask Ex N S 14 [(0, va_rf (some h0)), (1, va_rf v1)] [] μ) ∧ (¬ s0 = 0 → ((mj_t μ h0 = 1) ∧ (∃ (N' S' : Nat) (P : mj_MM → Prop), mj_M G my_T_tellCode mY_T_tellCode [va_rf (some h0), .int 3, va_rf v1] N' S' μ (mj_XV P) ∧ (N' ≤ N ∧ S' ≤ S) ∧ ∀ (μ' : mj_MM), P μ' → mj_nc μ' = N' → mj_ns μ' = S' → mj_J G mY_T_endTask Ex N S 14 [(0, va_rf (some h0)), (1, va_rf v1)] [] μ'))))) :
    mj_J G mY_T_endTask Ex N S 5 [(0, va_rf (some h0)), (1, va_rf v1)] [.int s0] μ := by
  obtain ⟨H1, H2⟩ := H
  refine mj_if_eq (tgt := 14) md_T_endTask_5 (by decide) (fun hx => ?_) (fun hx => ?_)
  · replace H := H1 hx
    exact mj_lvs [0, 1] rfl H
  · replace H := H2 hx
    refine mj_aload_n 0 md_T_endTask_8 rfl ?_
    refine mj_iconst (v := 3) md_T_endTask_9 (by decide) ?_
    refine mj_aload_n 1 md_T_endTask_10 rfl ?_
    obtain ⟨ht1, H⟩ := H
    obtain ⟨N', S', P, hM, hNS, H⟩ := H
    exact mj_callV (n := 2) (As := [.int 3, va_rf v1]) rfl hM kc_T ht1 ⟨tw_405, tw_1, tw_408, ⟨by decide, by decide, by decide +kernel⟩, by decide, by decide⟩ tw_407 tp_9 rfl md_T_endTask_11 (by first | decide | (simp only [List.map_cons, List.map_nil, List.sum_cons, List.sum_nil, mj_rfc, mj_ci, mj_cl]; done) | (simp only [List.map_cons, List.map_nil, List.sum_cons, List.sum_nil, mj_rfc, mj_ci, mj_cl]; decide)) (fun _ => hNS) (mj_kV (fun μ' hP e1 e2 => mj_lvs [0, 1] rfl (H μ' hP e1 e2)))

set_option maxRecDepth 20000 in
theorem bk_T_endTask_14 {G : mj_G} {Ex : Option Value → mj_MM → Prop} {N S : Nat} {μ : mj_MM} {h0 : Nat} {v1 : Option Nat}
    (H : (∃ b1 : Nat, (v1 = some b1) ∧ (mj_t μ b1 = 9) ∧ ∃ b4 : Nat, (mj_r μ b1 2 = some b4) ∧ (mj_t μ b4 = 2) ∧ (((mj_i μ b1 11) ≤ 0 → mj_J G mY_T_endTask Ex N S 49 [] [] (mj_pR (mj_pI μ b1 9 0) b4 4 none)) ∧ (¬ (mj_i μ b1 11) ≤ 0 → ((mj_t μ h0 = 1) ∧ (∃ P : mj_MM → Prop, mj_M G my_T_startTask mY_T_startTask [va_rf (some h0), va_rf v1] (mj_nc μ) (mj_ns μ) (mj_pI (mj_pR (mj_pI μ b1 9 0) b4 4 none) b1 11 ((mj_i μ b1 11) - 1)) (mj_XV P) ∧ ∀ (μ' : mj_MM), P μ' → mj_nc μ' = mj_nc μ → mj_ns μ' = mj_ns μ → mj_J G mY_T_endTask Ex N S 49 [] [] μ')))))) :
    mj_J G mY_T_endTask Ex N S 14 [(0, va_rf (some h0)), (1, va_rf v1)] [] μ := by
  refine mj_aload_n 1 md_T_endTask_14 rfl ?_
  refine mj_iconst (v := 0) md_T_endTask_15 (by decide) ?_
  obtain ⟨b1, hb2, H⟩ := H
  obtain ⟨ht3, H⟩ := H
  refine mj_putI hb2 kc_K 9 (by decide) rfl tw_232 md_T_endTask_16 (Or.inl rfl) ht3 rfl rfl ?_
  refine mj_aload_n 1 md_T_endTask_19 rfl ?_
  refine mj_getf (v := va_rf (mj_r μ b1 2)) hb2 kc_K 2 (by decide) tw_218 md_T_endTask_20 ht3 rfl ?_
  refine mj_null md_T_endTask_23 ?_
  obtain ⟨b4, hb5, H⟩ := H
  obtain ⟨ht6, H⟩ := H
  refine mj_putR hb5 kc_C 4 (by decide) rfl tw_87 md_T_endTask_24 (Or.inl rfl) ht6 ?_
  refine mj_aload_n 1 md_T_endTask_27 rfl ?_
  refine mj_getf (v := .int (mj_i μ b1 11)) hb2 kc_K 11 (by decide) tw_235 md_T_endTask_28 ht3 rfl ?_
  obtain ⟨H1, H2⟩ := H
  refine mj_if_le (tgt := 49) md_T_endTask_31 (by decide) (fun hx => ?_) (fun hx => ?_)
  · replace H := H1 hx
    exact mj_lvs [] rfl H
  · replace H := H2 hx
    refine mj_aload_n 1 md_T_endTask_34 rfl ?_
    refine mj_dup md_T_endTask_35 (mj_rfc _) ?_
    refine mj_getf (v := .int (mj_i μ b1 11)) hb2 kc_K 11 (by decide) tw_235 md_T_endTask_36 ht3 rfl ?_
    refine mj_iconst (v := 1) md_T_endTask_39 (by decide) ?_
    refine mj_isub md_T_endTask_40 ?_
    refine mj_putI hb2 kc_K 11 (by decide) rfl tw_235 md_T_endTask_41 (Or.inl rfl) ht3 rfl rfl ?_
    refine mj_aload_n 0 md_T_endTask_44 rfl ?_
    refine mj_aload_n 1 md_T_endTask_45 rfl ?_
    obtain ⟨ht7, H⟩ := H
    obtain ⟨P, hM, H⟩ := H
    exact mj_callV (n := 1) (As := [va_rf v1]) rfl hM kc_T ht7 ⟨tw_397, tw_1, tw_400, ⟨by decide, by decide, by decide +kernel⟩, by decide, by decide⟩ tw_399 tp_7 rfl md_T_endTask_46 (by first | decide | (simp only [List.map_cons, List.map_nil, List.sum_cons, List.sum_nil, mj_rfc, mj_ci, mj_cl]; done) | (simp only [List.map_cons, List.map_nil, List.sum_cons, List.sum_nil, mj_rfc, mj_ci, mj_cl]; decide)) id (mj_kV (fun μ' hP e1 e2 => mj_lvs [] rfl (H μ' hP e1 e2)))

set_option maxRecDepth 20000 in
theorem bk_T_endTask_49 {G : mj_G} {Ex : Option Value → mj_MM → Prop} {N S : Nat} {μ : mj_MM}
    (H : Ex none μ) :
    mj_J G mY_T_endTask Ex N S 49 [] [] μ := by
  exact mj_return md_T_endTask_49 rfl H

set_option maxRecDepth 20000 in
theorem bk_T_freeAll_0 {G : mj_G} {Ex : Option Value → mj_MM → Prop} {N S : Nat} {μ : mj_MM} {h0 : Nat} {v1 : Option Nat}
    (H : (∃ b1 : Nat, (v1 = some b1) ∧ (mj_t μ b1 = 9) ∧ ((mj_r μ b1 15 = none → (((mj_i μ b1 16) ≤ 0 → mj_J G mY_T_freeAll Ex N S 25 [(0, va_rf (some h0)), (1, va_rf v1), (2, .int 0), (3, va_rf (mj_r μ b1 15))] [] μ) ∧ (¬ (mj_i μ b1 16) ≤ 0 → mj_J G mY_T_freeAll Ex N S 25 [(0, va_rf (some h0)), (1, va_rf v1), (2, .int 1), (3, va_rf (mj_r μ b1 15))] [] μ))) ∧ (∀ b4 : Nat, mj_r μ b1 15 = some b4 → mj_J G mY_T_freeAll Ex N S 25 [(0, va_rf (some h0)), (1, va_rf v1), (2, .int 1), (3, va_rf (mj_r μ b1 15))] [] μ)))) :
    mj_J G mY_T_freeAll Ex N S 0 [(0, va_rf (some h0)), (1, va_rf v1)] [] μ := by
  refine mj_aload_n 1 md_T_freeAll_0 rfl ?_
  obtain ⟨b1, hb2, H⟩ := H
  obtain ⟨ht3, H⟩ := H
  refine mj_getf (v := va_rf (mj_r μ b1 15)) hb2 kc_K 15 (by decide) tw_241 md_T_freeAll_1 ht3 rfl ?_
  obtain ⟨H1, H2⟩ := H
  refine mj_ifnonnull (tgt := 14) md_T_freeAll_4 (by decide) (fun b4 hb5 => ?_) (fun hb => ?_)
  · replace H := H2 b4 hb5
    refine mj_iconst (v := 1) md_T_freeAll_14 (by decide) ?_
    refine mj_goto (tgt := 19) md_T_freeAll_15 (by decide) ?_
    refine mj_istn (i := 2) (lv' := [(2, .int 1), (0, va_rf (some h0)), (1, va_rf v1)]) md_T_freeAll_19 rfl (by decide) (by first | rfl | (simp [mj_rfc]; done) | (simp [mj_rfc]; rfl)) ?_
    refine mj_aload_n 2 md_T_freeAll_20 rfl ?_
    refine mj_getf (v := va_rf (mj_r μ b1 15)) hb2 kc_K 15 (by decide) tw_241 md_T_freeAll_21 ht3 rfl ?_
    refine mj_astn (i := 3) (lv' := [(3, va_rf (mj_r μ b1 15)), (2, .int 1), (0, va_rf (some h0)), (1, va_rf v1)]) md_T_freeAll_24 rfl (by decide) (by first | rfl | (simp [mj_rfc]; done) | (simp [mj_rfc]; rfl)) ?_
    exact mj_lvs [2, 3, 1, 0] rfl H
  · replace H := H1 hb
    refine mj_aload_n 1 md_T_freeAll_7 rfl ?_
    refine mj_getf (v := .int (mj_i μ b1 16)) hb2 kc_K 16 (by decide) tw_243 md_T_freeAll_8 ht3 rfl ?_
    obtain ⟨H1, H2⟩ := H
    refine mj_if_le (tgt := 18) md_T_freeAll_11 (by decide) (fun hx => ?_) (fun hx => ?_)
    · replace H := H1 hx
      refine mj_iconst (v := 0) md_T_freeAll_18 (by decide) ?_
      refine mj_istn (i := 2) (lv' := [(2, .int 0), (0, va_rf (some h0)), (1, va_rf v1)]) md_T_freeAll_19 rfl (by decide) (by first | rfl | (simp [mj_rfc]; done) | (simp [mj_rfc]; rfl)) ?_
      refine mj_aload_n 2 md_T_freeAll_20 rfl ?_
      refine mj_getf (v := va_rf (mj_r μ b1 15)) hb2 kc_K 15 (by decide) tw_241 md_T_freeAll_21 ht3 rfl ?_
      refine mj_astn (i := 3) (lv' := [(3, va_rf (mj_r μ b1 15)), (2, .int 0), (0, va_rf (some h0)), (1, va_rf v1)]) md_T_freeAll_24 rfl (by decide) (by first | rfl | (simp [mj_rfc]; done) | (simp [mj_rfc]; rfl)) ?_
      exact mj_lvs [2, 3, 1, 0] rfl H
    · replace H := H2 hx
      refine mj_iconst (v := 1) md_T_freeAll_14 (by decide) ?_
      refine mj_goto (tgt := 19) md_T_freeAll_15 (by decide) ?_
      refine mj_istn (i := 2) (lv' := [(2, .int 1), (0, va_rf (some h0)), (1, va_rf v1)]) md_T_freeAll_19 rfl (by decide) (by first | rfl | (simp [mj_rfc]; done) | (simp [mj_rfc]; rfl)) ?_
      refine mj_aload_n 2 md_T_freeAll_20 rfl ?_
      refine mj_getf (v := va_rf (mj_r μ b1 15)) hb2 kc_K 15 (by decide) tw_241 md_T_freeAll_21 ht3 rfl ?_
      refine mj_astn (i := 3) (lv' := [(3, va_rf (mj_r μ b1 15)), (2, .int 1), (0, va_rf (some h0)), (1, va_rf v1)]) md_T_freeAll_24 rfl (by decide) (by first | rfl | (simp [mj_rfc]; done) | (simp [mj_rfc]; rfl)) ?_
      exact mj_lvs [2, 3, 1, 0] rfl H

set_option maxRecDepth 20000 in
theorem bk_T_freeAll_25 {G : mj_G} {Ex : Option Value → mj_MM → Prop} {N S : Nat} {μ : mj_MM} {h0 : Nat} {v1 : Option Nat} {v2 : Int32} {v3 : Option Nat}
    (H : ((v3 = none → (∃ b3 : Nat, (v1 = some b3) ∧ (mj_t μ b3 = 9) ∧ (mj_t μ h0 = 1) ∧ ∃ b7 : Nat, (mj_r μ h0 3 = some b7) ∧ (mj_t μ b7 = 1007) ∧ mj_J G mY_T_freeAll Ex N S 59 [(0, va_rf (some h0)), (1, va_rf v1), (2, .int v2), (3, va_rf (mj_r μ h0 3)), (4, .int (nI (mj_n μ b7))), (5, .int 0)] [] (mj_pR μ b3 15 none))) ∧ (∀ b1 : Nat, v3 = some b1 → ((mj_t μ b1 = 8) ∧ mj_J G mY_T_freeAll Ex N S 25 [(0, va_rf (some h0)), (1, va_rf v1), (2, .int v2), (3, va_rf (mj_r μ b1 2))] [] (mj_pR μ b1 1 none))))) :
    mj_J G mY_T_freeAll Ex N S 25 [(0, va_rf (some h0)), (1, va_rf v1), (2, .int v2), (3, va_rf v3)] [] μ := by
  refine mj_aload_n 3 md_T_freeAll_25 rfl ?_
  obtain ⟨H1, H2⟩ := H
  refine mj_ifnull (tgt := 42) md_T_freeAll_26 (by decide) (fun hb => ?_) (fun b1 hb2 => ?_)
  · replace H := H1 hb
    refine mj_aload_n 1 md_T_freeAll_42 rfl ?_
    refine mj_null md_T_freeAll_43 ?_
    obtain ⟨b3, hb4, H⟩ := H
    obtain ⟨ht5, H⟩ := H
    refine mj_putR hb4 kc_K 15 (by decide) rfl tw_241 md_T_freeAll_44 (Or.inl rfl) ht5 ?_
    refine mj_aload_n 0 md_T_freeAll_47 rfl ?_
    obtain ⟨ht6, H⟩ := H
    refine mj_getf (v := va_rf (mj_r μ h0 3)) rfl kc_T 3 (by decide) tw_140 md_T_freeAll_48 ht6 rfl ?_
    refine mj_astn (i := 3) (lv' := [(3, va_rf (mj_r μ h0 3)), (0, va_rf (some h0)), (1, va_rf v1), (2, .int v2)]) md_T_freeAll_51 rfl (by decide) (by first | rfl | (simp [mj_rfc]; done) | (simp [mj_rfc]; rfl)) ?_
    refine mj_aload_n 0 md_T_freeAll_52 rfl ?_
    obtain ⟨b7, hb8, H⟩ := H
    obtain ⟨ht9, H⟩ := H
    refine mj_alen (t := 7) hb8 rfl ht9 md_T_freeAll_53 ?_
    refine mj_istore (lv' := [(4, .int (nI (mj_n μ b7))), (3, va_rf (mj_r μ h0 3)), (0, va_rf (some h0)), (1, va_rf v1), (2, .int v2)]) md_T_freeAll_54 (by decide) (by first | rfl | (simp [mj_rfc]; done) | (simp [mj_rfc]; rfl)) ?_
    refine mj_iconst (v := 0) md_T_freeAll_56 (by decide) ?_
    refine mj_istore (lv' := [(5, .int 0), (4, .int (nI (mj_n μ b7))), (3, va_rf (mj_r μ h0 3)), (0, va_rf (some h0)), (1, va_rf v1), (2, .int v2)]) md_T_freeAll_57 (by decide) (by first | rfl | (simp [mj_rfc]; done) | (simp [mj_rfc]; rfl)) ?_
    exact mj_lvs [3, 4, 5, 2, 1, 0] rfl H
  · replace H := H2 b1 hb2
    refine mj_aload_n 3 md_T_freeAll_29 rfl ?_
    refine mj_null md_T_freeAll_30 ?_
    obtain ⟨ht10, H⟩ := H
    refine mj_putR hb2 kc_R 1 (by decide) rfl tw_113 md_T_freeAll_31 (Or.inl rfl) ht10 ?_
    refine mj_aload_n 3 md_T_freeAll_34 rfl ?_
    refine mj_getf (v := va_rf (mj_r μ b1 2)) hb2 kc_R 2 (by decide) tw_115 md_T_freeAll_35 ht10 rfl ?_
    refine mj_astn (i := 3) (lv' := [(3, va_rf (mj_r μ b1 2)), (0, va_rf (some h0)), (1, va_rf v1), (2, .int v2)]) md_T_freeAll_38 rfl (by decide) (by first | rfl | (simp [mj_rfc]; done) | (simp [mj_rfc]; rfl)) ?_
    refine mj_goto (tgt := 25) md_T_freeAll_39 (by decide) ?_
    exact mj_lvs [1, 2, 3, 0] rfl H

set_option maxRecDepth 20000 in
theorem bk_T_freeAll_59 {G : mj_G} {Ex : Option Value → mj_MM → Prop} {N S : Nat} {μ : mj_MM} {h0 : Nat} {v1 : Option Nat} {v2 : Int32} {v3 : Option Nat} {v4 : Int32} {v5 : Int32}
    (H : ((v4 ≤ v5 → (∃ b1 : Nat, (v1 = some b1) ∧ (mj_t μ b1 = 9) ∧ (mj_t μ h0 = 1) ∧ ∃ b5 : Nat, (mj_r μ h0 4 = some b5) ∧ (mj_t μ b5 = 4) ∧ ((¬ mj_r μ b5 2 = v1 → ((v2 = 0 ∨ v2 = 1) ∧ Ex (some (.int v2)) (mj_pI μ b1 16 0))) ∧ (mj_r μ b5 2 = v1 → Ex (some (.int 1)) (mj_pR (mj_pI μ b1 16 0) b5 2 none))))) ∧ (¬ v4 ≤ v5 → (∃ b9 : Nat, (v3 = some b9) ∧ (mj_t μ b9 = 1007) ∧ (vp_in v5 (mj_n μ b9)) ∧ ∃ b13 : Nat, (mj_r μ b9 (Int32.toNatClampNeg v5) = some b13) ∧ (mj_t μ b13 = 5) ∧ ((¬ mj_r μ b13 0 = v1 → mj_J G mY_T_freeAll Ex N S 86 [(0, va_rf (some h0)), (1, va_rf v1), (2, .int v2), (3, va_rf v3), (4, .int v4), (5, .int v5)] [] μ) ∧ (mj_r μ b13 0 = v1 → (∃ P : mj_MM → Prop, mj_M G my_L_handOn mY_L_handOn [va_rf (some b13)] (mj_nc μ) (mj_ns μ) μ (mj_XV P) ∧ ∀ (μ' : mj_MM), P μ' → mj_nc μ' = mj_nc μ → mj_ns μ' = mj_ns μ → mj_J G mY_T_freeAll Ex N S 86 [(0, va_rf (some h0)), (1, va_rf v1), (2, .int v2), (3, va_rf v3), (4, .int v4), (5, .int v5)] [] μ'))))))) :
    mj_J G mY_T_freeAll Ex N S 59 [(0, va_rf (some h0)), (1, va_rf v1), (2, .int v2), (3, va_rf v3), (4, .int v4), (5, .int v5)] [] μ := by
  refine mj_iload 5 md_T_freeAll_59 rfl ?_
  refine mj_iload 4 md_T_freeAll_61 rfl ?_
  obtain ⟨H1, H2⟩ := H
  refine mj_icmp_ge (tgt := 92) md_T_freeAll_63 (by decide) (fun hx => ?_) (fun hx => ?_)
  · replace H := H1 hx
    refine mj_aload_n 1 md_T_freeAll_92 rfl ?_
    refine mj_iconst (v := 0) md_T_freeAll_93 (by decide) ?_
    obtain ⟨b1, hb2, H⟩ := H
    obtain ⟨ht3, H⟩ := H
    refine mj_putI hb2 kc_K 16 (by decide) rfl tw_243 md_T_freeAll_94 (Or.inl rfl) ht3 rfl rfl ?_
    refine mj_aload_n 0 md_T_freeAll_97 rfl ?_
    obtain ⟨ht4, H⟩ := H
    refine mj_getf (v := va_rf (mj_r μ h0 4)) rfl kc_T 4 (by decide) tw_141 md_T_freeAll_98 ht4 rfl ?_
    obtain ⟨b5, hb6, H⟩ := H
    obtain ⟨ht7, H⟩ := H
    refine mj_getf (v := va_rf (mj_r μ b5 2)) hb6 kc_U 2 (by decide) tw_37 md_T_freeAll_101 ht7 rfl ?_
    refine mj_aload_n 1 md_T_freeAll_104 rfl ?_
    obtain ⟨H1, H2⟩ := H
    refine mj_acmp_ne (tgt := 118) md_T_freeAll_105 (by decide) (fun hx => ?_) (fun hx => ?_)
    · replace H := H1 hx
      refine mj_iload_n 2 md_T_freeAll_118 rfl ?_
      obtain ⟨hz8, H⟩ := H
      exact mj_ireturn md_T_freeAll_119 rfl (mj_bn hz8) H
    · replace H := H2 hx
      refine mj_aload_n 0 md_T_freeAll_108 rfl ?_
      refine mj_getf (v := va_rf (mj_r μ h0 4)) rfl kc_T 4 (by decide) tw_141 md_T_freeAll_109 ht4 rfl ?_
      refine mj_null md_T_freeAll_112 ?_
      refine mj_putR hb6 kc_U 2 (by decide) rfl tw_37 md_T_freeAll_113 (Or.inl rfl) ht7 ?_
      refine mj_iconst (v := 1) md_T_freeAll_116 (by decide) ?_
      refine mj_istn (i := 2) (lv' := [(2, .int 1), (0, va_rf (some h0)), (1, va_rf v1), (3, va_rf v3), (4, .int v4), (5, .int v5)]) md_T_freeAll_117 rfl (by decide) (by first | rfl | (simp [mj_rfc]; done) | (simp [mj_rfc]; rfl)) ?_
      refine mj_iload_n 0 md_T_freeAll_118 rfl ?_
      exact mj_ireturn md_T_freeAll_119 rfl (by decide) H
  · replace H := H2 hx
    refine mj_aload_n 3 md_T_freeAll_66 rfl ?_
    refine mj_iload 5 md_T_freeAll_67 rfl ?_
    obtain ⟨b9, hb10, H⟩ := H
    obtain ⟨ht11, H⟩ := H
    obtain ⟨hi12, H⟩ := H
    refine mj_aald (t := 7) hb10 rfl rfl ht11 hi12 md_T_freeAll_69 ?_
    refine mj_astore (lv' := [(6, va_rf (mj_r μ b9 (Int32.toNatClampNeg v5))), (0, va_rf (some h0)), (1, va_rf v1), (2, .int v2), (3, va_rf v3), (4, .int v4), (5, .int v5)]) md_T_freeAll_70 (by decide) (by first | rfl | (simp [mj_rfc]; done) | (simp [mj_rfc]; rfl)) ?_
    refine mj_aload 0 md_T_freeAll_72 rfl ?_
    obtain ⟨b13, hb14, H⟩ := H
    obtain ⟨ht15, H⟩ := H
    refine mj_getf (v := va_rf (mj_r μ b13 0)) hb14 kc_L 0 (by decide) tw_129 md_T_freeAll_74 ht15 rfl ?_
    refine mj_aload_n 2 md_T_freeAll_77 rfl ?_
    obtain ⟨H1, H2⟩ := H
    refine mj_acmp_ne (tgt := 86) md_T_freeAll_78 (by decide) (fun hx => ?_) (fun hx => ?_)
    · replace H := H1 hx
      exact mj_lvs [1, 2, 3, 4, 5, 6] rfl H
    · replace H := H2 hx
      refine mj_aload 0 md_T_freeAll_81 rfl ?_
      obtain ⟨P, hM, H⟩ := H
      exact mj_callV (n := 0) (As := []) hb14 hM kc_L ht15 ⟨tw_461, tw_7, tw_464, ⟨by decide, by decide, by decide +kernel⟩, by decide, by decide⟩ tw_462 tw_463 rfl md_T_freeAll_83 (by first | decide | (simp only [List.map_cons, List.map_nil, List.sum_cons, List.sum_nil, mj_rfc, mj_ci, mj_cl]; done) | (simp only [List.map_cons, List.map_nil, List.sum_cons, List.sum_nil, mj_rfc, mj_ci, mj_cl]; decide)) id (mj_kV (fun μ' hP e1 e2 => mj_lvs [1, 2, 3, 4, 5, 6] rfl (H μ' hP e1 e2)))

set_option maxRecDepth 20000 in
theorem bk_T_freeAll_86 {G : mj_G} {Ex : Option Value → mj_MM → Prop} {N S : Nat} {μ : mj_MM} {h0 : Nat} {v1 : Option Nat} {v2 : Int32} {v3 : Option Nat} {v4 : Int32} {v5 : Int32}
    (H : mj_J G mY_T_freeAll Ex N S 59 [(0, va_rf (some h0)), (1, va_rf v1), (2, .int v2), (3, va_rf v3), (4, .int v4), (5, .int (v5 + 1))] [] μ) :
    mj_J G mY_T_freeAll Ex N S 86 [(0, va_rf (some h0)), (1, va_rf v1), (2, .int v2), (3, va_rf v3), (4, .int v4), (5, .int v5)] [] μ := by
  refine mj_iinc (j := 5) (v := v5 + 1) (lv' := [(5, .int (v5 + 1)), (0, va_rf (some h0)), (1, va_rf v1), (2, .int v2), (3, va_rf v3), (4, .int v4)]) md_T_freeAll_86 rfl rfl (by decide) (by first | rfl | (simp [mj_rfc]; done) | (simp [mj_rfc]; rfl)) ?_
  refine mj_goto (tgt := 59) md_T_freeAll_89 (by decide) ?_
  exact mj_lvs [1, 2, 3, 4, 5, 0] rfl H

set_option maxRecDepth 20000 in
theorem bk_T_startTask_0 {G : mj_G} {Ex : Option Value → mj_MM → Prop} {N S : Nat} {μ : mj_MM} {h0 : Nat} {v1 : Option Nat}
    (H : (∃ b1 : Nat, (v1 = some b1) ∧ (mj_t μ b1 = 9) ∧ (mj_t μ h0 = 1) ∧ (∃ P : mj_MM → Prop, mj_M G my_T_makeReady mY_T_makeReady [va_rf (some h0), va_rf v1] (mj_nc μ) (mj_ns μ) (mj_pR (mj_pI μ b1 12 0) b1 7 (mj_r μ b1 6)) (mj_XV P) ∧ ∀ (μ' : mj_MM), P μ' → mj_nc μ' = mj_nc μ → mj_ns μ' = mj_ns μ → mj_J G mY_T_startTask Ex N S 18 [] [] μ'))) :
    mj_J G mY_T_startTask Ex N S 0 [(0, va_rf (some h0)), (1, va_rf v1)] [] μ := by
  refine mj_aload_n 1 md_T_startTask_0 rfl ?_
  refine mj_iconst (v := 0) md_T_startTask_1 (by decide) ?_
  obtain ⟨b1, hb2, H⟩ := H
  obtain ⟨ht3, H⟩ := H
  refine mj_putI hb2 kc_K 12 (by decide) rfl tw_236 md_T_startTask_2 (Or.inl rfl) ht3 rfl rfl ?_
  refine mj_aload_n 1 md_T_startTask_5 rfl ?_
  refine mj_aload_n 1 md_T_startTask_6 rfl ?_
  refine mj_getf (v := va_rf (mj_r μ b1 6)) hb2 kc_K 6 (by decide) tw_226 md_T_startTask_7 ht3 rfl ?_
  refine mj_putR hb2 kc_K 7 (by decide) rfl tw_229 md_T_startTask_10 (Or.inl rfl) ht3 ?_
  refine mj_aload_n 0 md_T_startTask_13 rfl ?_
  refine mj_aload_n 1 md_T_startTask_14 rfl ?_
  obtain ⟨ht4, H⟩ := H
  obtain ⟨P, hM, H⟩ := H
  exact mj_callV (n := 1) (As := [va_rf v1]) rfl hM kc_T ht4 ⟨tw_401, tw_1, tw_404, ⟨by decide, by decide, by decide +kernel⟩, by decide, by decide⟩ tw_403 tp_8 rfl md_T_startTask_15 (by first | decide | (simp only [List.map_cons, List.map_nil, List.sum_cons, List.sum_nil, mj_rfc, mj_ci, mj_cl]; done) | (simp only [List.map_cons, List.map_nil, List.sum_cons, List.sum_nil, mj_rfc, mj_ci, mj_cl]; decide)) id (mj_kV (fun μ' hP e1 e2 => mj_lvs [] rfl (H μ' hP e1 e2)))

set_option maxRecDepth 20000 in
theorem bk_T_startTask_18 {G : mj_G} {Ex : Option Value → mj_MM → Prop} {N S : Nat} {μ : mj_MM}
    (H : Ex none μ) :
    mj_J G mY_T_startTask Ex N S 18 [] [] μ := by
  exact mj_return md_T_startTask_18 rfl H

set_option maxRecDepth 20000 in
theorem bk_T_makeReady_0 {G : mj_G} {Ex : Option Value → mj_MM → Prop} {N S : Nat} {μ : mj_MM} {h0 : Nat} {v1 : Option Nat}
    (H : ((mj_t μ h0 = 1) ∧ ∃ b2 : Nat, (v1 = some b2) ∧ (mj_t μ b2 = 9) ∧ Ex none (mj_pI (mj_pI (mj_pI μ h0 11 ((mj_i μ h0 11) + 1)) b2 10 ((mj_i μ h0 11) + 1)) b2 9 1))) :
    mj_J G mY_T_makeReady Ex N S 0 [(0, va_rf (some h0)), (1, va_rf v1)] [] μ := by
  refine mj_aload_n 0 md_T_makeReady_0 rfl ?_
  refine mj_dup md_T_makeReady_1 (mj_rfc _) ?_
  obtain ⟨ht1, H⟩ := H
  refine mj_getf (v := .int (mj_i μ h0 11)) rfl kc_T 11 (by decide) tw_148 md_T_makeReady_2 ht1 rfl ?_
  refine mj_iconst (v := 1) md_T_makeReady_5 (by decide) ?_
  refine mj_iadd md_T_makeReady_6 ?_
  refine mj_putI rfl kc_T 11 (by decide) rfl tw_148 md_T_makeReady_7 (Or.inl rfl) ht1 rfl rfl ?_
  refine mj_aload_n 1 md_T_makeReady_10 rfl ?_
  refine mj_aload_n 0 md_T_makeReady_11 rfl ?_
  refine mj_getf (v := .int ((mj_i μ h0 11) + 1)) rfl kc_T 11 (by decide) tw_148 md_T_makeReady_12 ht1 (by show Value.int (mj_i (mj_pI μ h0 11 ((mj_i μ h0 11) + 1)) h0 11) = _; rw [mj_sI]) ?_
  obtain ⟨b2, hb3, H⟩ := H
  obtain ⟨ht4, H⟩ := H
  refine mj_putI hb3 kc_K 10 (by decide) rfl tw_234 md_T_makeReady_15 (Or.inl rfl) ht4 rfl rfl ?_
  refine mj_aload_n 1 md_T_makeReady_18 rfl ?_
  refine mj_iconst (v := 1) md_T_makeReady_19 (by decide) ?_
  refine mj_putI hb3 kc_K 9 (by decide) rfl tw_232 md_T_makeReady_20 (Or.inl rfl) ht4 rfl rfl ?_
  exact mj_return md_T_makeReady_23 rfl H

set_option maxRecDepth 20000 in
theorem bk_T_tellCode_0 {G : mj_G} {Ex : Option Value → mj_MM → Prop} {N S : Nat} {μ : mj_MM} {h0 : Nat} {v1 : Int32} {v2 : Option Nat}
    (H : ((mj_t μ h0 = 1) ∧ ∃ b2 : Nat, (v2 = some b2) ∧ (mj_t μ b2 = 9) ∧ ∃ b5 : Nat, (mj_r μ h0 5 = some b5) ∧ (mj_t μ b5 = 6) ∧ (∃ (N' S' : Nat) (P : mj_MM → Prop), mj_M G my_G_add mY_G_add [va_rf (some b5), .int v1, .int (mj_i μ b2 0), .int (mj_i μ h0 12)] N' S' μ (mj_XV P) ∧ (N' ≤ N ∧ S' ≤ S) ∧ ∀ (μ' : mj_MM), P μ' → mj_nc μ' = N' → mj_ns μ' = S' → mj_J G mY_T_tellCode Ex N S 16 [] [] μ'))) :
    mj_J G mY_T_tellCode Ex N S 0 [(0, va_rf (some h0)), (1, .int v1), (2, va_rf v2)] [] μ := by
  refine mj_aload_n 0 md_T_tellCode_0 rfl ?_
  obtain ⟨ht1, H⟩ := H
  refine mj_getf (v := va_rf (mj_r μ h0 5)) rfl kc_T 5 (by decide) tw_142 md_T_tellCode_1 ht1 rfl ?_
  refine mj_iload_n 1 md_T_tellCode_4 rfl ?_
  refine mj_aload_n 2 md_T_tellCode_5 rfl ?_
  obtain ⟨b2, hb3, H⟩ := H
  obtain ⟨ht4, H⟩ := H
  refine mj_getf (v := .int (mj_i μ b2 0)) hb3 kc_K 0 (by decide) tw_213 md_T_tellCode_6 ht4 rfl ?_
  refine mj_aload_n 0 md_T_tellCode_9 rfl ?_
  refine mj_getf (v := .int (mj_i μ h0 12)) rfl kc_T 12 (by decide) tw_149 md_T_tellCode_10 ht1 rfl ?_
  obtain ⟨b5, hb6, H⟩ := H
  obtain ⟨ht7, H⟩ := H
  obtain ⟨N', S', P, hM, hNS, H⟩ := H
  exact mj_callV (n := 3) (As := [.int v1, .int (mj_i μ b2 0), .int (mj_i μ h0 12)]) hb6 hM kc_G ht7 ⟨tw_409, tw_3, tw_412, ⟨by decide, by decide, by decide +kernel⟩, by decide, by decide⟩ tw_410 tw_411 rfl md_T_tellCode_13 (by first | decide | (simp only [List.map_cons, List.map_nil, List.sum_cons, List.sum_nil, mj_rfc, mj_ci, mj_cl]; done) | (simp only [List.map_cons, List.map_nil, List.sum_cons, List.sum_nil, mj_rfc, mj_ci, mj_cl]; decide)) (fun _ => hNS) (mj_kV (fun μ' hP e1 e2 => mj_lvs [] rfl (H μ' hP e1 e2)))

set_option maxRecDepth 20000 in
theorem bk_T_tellCode_16 {G : mj_G} {Ex : Option Value → mj_MM → Prop} {N S : Nat} {μ : mj_MM}
    (H : Ex none μ) :
    mj_J G mY_T_tellCode Ex N S 16 [] [] μ := by
  exact mj_return md_T_tellCode_16 rfl H

set_option maxRecDepth 20000 in
theorem bk_T_tellIfOffTooLong_0 {G : mj_G} {Ex : Option Value → mj_MM → Prop} {N S : Nat} {μ : mj_MM} {h0 : Nat}
    (H : ((mj_t μ h0 = 1) ∧ ∃ b2 : Nat, (mj_r μ h0 4 = some b2) ∧ (mj_t μ b2 = 4) ∧ ((mj_r μ b2 2 = none → mj_J G mY_T_tellIfOffTooLong Ex N S 33 [] [] μ) ∧ (∀ b5 : Nat, mj_r μ b2 2 = some b5 → ((¬ (mj_i μ b2 3) = (mj_i μ h0 12) → mj_J G mY_T_tellIfOffTooLong Ex N S 33 [] [] μ) ∧ ((mj_i μ b2 3) = (mj_i μ h0 12) → (∃ (N' S' : Nat) (P : mj_MM → Prop), mj_M G my_T_tellCode mY_T_tellCode [va_rf (some h0), .int 9, va_rf (mj_r μ b2 2)] N' S' μ (mj_XV P) ∧ (N' ≤ N ∧ S' ≤ S) ∧ ∀ (μ' : mj_MM), P μ' → mj_nc μ' = N' → mj_ns μ' = S' → mj_J G mY_T_tellIfOffTooLong Ex N S 33 [] [] μ'))))))) :
    mj_J G mY_T_tellIfOffTooLong Ex N S 0 [(0, va_rf (some h0))] [] μ := by
  refine mj_aload_n 0 md_T_tellIfOffTooLong_0 rfl ?_
  obtain ⟨ht1, H⟩ := H
  refine mj_getf (v := va_rf (mj_r μ h0 4)) rfl kc_T 4 (by decide) tw_141 md_T_tellIfOffTooLong_1 ht1 rfl ?_
  obtain ⟨b2, hb3, H⟩ := H
  obtain ⟨ht4, H⟩ := H
  refine mj_getf (v := va_rf (mj_r μ b2 2)) hb3 kc_U 2 (by decide) tw_37 md_T_tellIfOffTooLong_4 ht4 rfl ?_
  refine mj_astn (i := 1) (lv' := [(1, va_rf (mj_r μ b2 2)), (0, va_rf (some h0))]) md_T_tellIfOffTooLong_7 rfl (by decide) (by first | rfl | (simp [mj_rfc]; done) | (simp [mj_rfc]; rfl)) ?_
  refine mj_aload_n 0 md_T_tellIfOffTooLong_8 rfl ?_
  obtain ⟨H1, H2⟩ := H
  refine mj_ifnull (tgt := 33) md_T_tellIfOffTooLong_9 (by decide) (fun hb => ?_) (fun b5 hb6 => ?_)
  · replace H := H1 hb
    exact mj_lvs [] rfl H
  · replace H := H2 b5 hb6
    refine mj_aload_n 1 md_T_tellIfOffTooLong_12 rfl ?_
    refine mj_getf (v := va_rf (mj_r μ h0 4)) rfl kc_T 4 (by decide) tw_141 md_T_tellIfOffTooLong_13 ht1 rfl ?_
    refine mj_getf (v := .int (mj_i μ b2 3)) hb3 kc_U 3 (by decide) tw_39 md_T_tellIfOffTooLong_16 ht4 rfl ?_
    refine mj_aload_n 1 md_T_tellIfOffTooLong_19 rfl ?_
    refine mj_getf (v := .int (mj_i μ h0 12)) rfl kc_T 12 (by decide) tw_149 md_T_tellIfOffTooLong_20 ht1 rfl ?_
    obtain ⟨H1, H2⟩ := H
    refine mj_icmp_ne (tgt := 33) md_T_tellIfOffTooLong_23 (by decide) (fun hx => ?_) (fun hx => ?_)
    · replace H := H1 hx
      exact mj_lvs [] rfl H
    · replace H := H2 hx
      refine mj_aload_n 1 md_T_tellIfOffTooLong_26 rfl ?_
      refine mj_bipush (v := 9) md_T_tellIfOffTooLong_27 (by decide) ?_
      refine mj_aload_n 0 md_T_tellIfOffTooLong_29 rfl ?_
      obtain ⟨N', S', P, hM, hNS, H⟩ := H
      exact mj_callV (n := 2) (As := [.int 9, va_rf (mj_r μ b2 2)]) rfl hM kc_T ht1 ⟨tw_405, tw_1, tw_408, ⟨by decide, by decide, by decide +kernel⟩, by decide, by decide⟩ tw_407 tp_9 rfl md_T_tellIfOffTooLong_30 (by first | decide | (simp only [List.map_cons, List.map_nil, List.sum_cons, List.sum_nil, mj_rfc, mj_ci, mj_cl]; done) | (simp only [List.map_cons, List.map_nil, List.sum_cons, List.sum_nil, mj_rfc, mj_ci, mj_cl]; decide)) (fun _ => hNS) (mj_kV (fun μ' hP e1 e2 => mj_lvs [] rfl (H μ' hP e1 e2)))

set_option maxRecDepth 20000 in
theorem bk_T_tellIfOffTooLong_33 {G : mj_G} {Ex : Option Value → mj_MM → Prop} {N S : Nat} {μ : mj_MM}
    (H : Ex none μ) :
    mj_J G mY_T_tellIfOffTooLong Ex N S 33 [] [] μ := by
  exact mj_return md_T_tellIfOffTooLong_33 rfl H

set_option maxRecDepth 20000 in
theorem bk_T_quietMicroseconds_0 {G : mj_G} {Ex : Option Value → mj_MM → Prop} {N S : Nat} {μ : mj_MM} {h0 : Nat} {v1 : Int32}
    (H : ((mj_t μ h0 = 1) ∧ ∃ b2 : Nat, (mj_r μ h0 4 = some b2) ∧ (mj_t μ b2 = 4) ∧ (∃ P : Option Nat → mj_MM → Prop, mj_M G my_U_atHand mY_U_atHand [va_rf (some b2), .int (mj_i μ h0 12)] (mj_nc μ) (mj_ns μ) μ (mj_XR P) ∧ ∀ (x : Option Nat) (μ' : mj_MM), P x μ' → mj_nc μ' = mj_nc μ → mj_ns μ' = mj_ns μ → mj_J G mY_T_quietMicroseconds Ex N S 11 [(0, va_rf (some h0)), (1, .int v1)] [va_rf x] μ'))) :
    mj_J G mY_T_quietMicroseconds Ex N S 0 [(0, va_rf (some h0)), (1, .int v1)] [] μ := by
  refine mj_aload_n 0 md_T_quietMicroseconds_0 rfl ?_
  obtain ⟨ht1, H⟩ := H
  refine mj_getf (v := va_rf (mj_r μ h0 4)) rfl kc_T 4 (by decide) tw_141 md_T_quietMicroseconds_1 ht1 rfl ?_
  refine mj_aload_n 0 md_T_quietMicroseconds_4 rfl ?_
  refine mj_getf (v := .int (mj_i μ h0 12)) rfl kc_T 12 (by decide) tw_149 md_T_quietMicroseconds_5 ht1 rfl ?_
  obtain ⟨b2, hb3, H⟩ := H
  obtain ⟨ht4, H⟩ := H
  obtain ⟨P, hM, H⟩ := H
  exact mj_callV (n := 1) (As := [.int (mj_i μ h0 12)]) hb3 hM kc_U ht4 ⟨tw_421, tw_2, tw_424, ⟨by decide, by decide, by decide +kernel⟩, by decide, by decide⟩ tw_422 tw_423 rfl md_T_quietMicroseconds_8 (by first | decide | (simp only [List.map_cons, List.map_nil, List.sum_cons, List.sum_nil, mj_rfc, mj_ci, mj_cl]; done) | (simp only [List.map_cons, List.map_nil, List.sum_cons, List.sum_nil, mj_rfc, mj_ci, mj_cl]; decide)) id (mj_kR (fun x μ' hP e1 e2 => mj_lvs [0, 1] rfl (H x μ' hP e1 e2)))

set_option maxRecDepth 20000 in
theorem bk_T_quietMicroseconds_11 {G : mj_G} {Ex : Option Value → mj_MM → Prop} {N S : Nat} {μ : mj_MM} {h0 : Nat} {v1 : Int32} {s0 : Option Nat}
    (H : mj_J G mY_T_quietMicroseconds Ex N S 12 [(0, va_rf (some h0)), (1, .int v1), (2, va_rf s0)] [] μ) :
    mj_J G mY_T_quietMicroseconds Ex N S 11 [(0, va_rf (some h0)), (1, .int v1)] [va_rf s0] μ := by
  refine mj_astn (i := 2) (lv' := [(2, va_rf s0), (0, va_rf (some h0)), (1, .int v1)]) md_T_quietMicroseconds_11 rfl (by decide) (by first | rfl | (simp [mj_rfc]; done) | (simp [mj_rfc]; rfl)) ?_
  exact mj_lvs [1, 2, 0] rfl H

set_option maxRecDepth 20000 in
theorem bk_T_quietMicroseconds_12 {G : mj_G} {Ex : Option Value → mj_MM → Prop} {N S : Nat} {μ : mj_MM} {h0 : Nat} {v1 : Int32} {v2 : Option Nat}
    (H : ((mj_t μ h0 = 1) ∧ ∃ b2 : Nat, (mj_r μ h0 4 = some b2) ∧ (mj_t μ b2 = 4) ∧ (∃ P : Int32 → mj_MM → Prop, mj_M G my_U_nextChange mY_U_nextChange [va_rf (some b2), .int (mj_i μ h0 12)] (mj_nc μ) (mj_ns μ) μ (mj_XI P) ∧ ∀ (x : Int32) (μ' : mj_MM), P x μ' → mj_nc μ' = mj_nc μ → mj_ns μ' = mj_ns μ → mj_J G mY_T_quietMicroseconds Ex N S 24 [(0, va_rf (some h0)), (2, va_rf v2)] [.int x, .int v1] μ'))) :
    mj_J G mY_T_quietMicroseconds Ex N S 12 [(0, va_rf (some h0)), (1, .int v1), (2, va_rf v2)] [] μ := by
  refine mj_iload_n 1 md_T_quietMicroseconds_12 rfl ?_
  refine mj_aload_n 0 md_T_quietMicroseconds_13 rfl ?_
  obtain ⟨ht1, H⟩ := H
  refine mj_getf (v := va_rf (mj_r μ h0 4)) rfl kc_T 4 (by decide) tw_141 md_T_quietMicroseconds_14 ht1 rfl ?_
  refine mj_aload_n 0 md_T_quietMicroseconds_17 rfl ?_
  refine mj_getf (v := .int (mj_i μ h0 12)) rfl kc_T 12 (by decide) tw_149 md_T_quietMicroseconds_18 ht1 rfl ?_
  obtain ⟨b2, hb3, H⟩ := H
  obtain ⟨ht4, H⟩ := H
  obtain ⟨P, hM, H⟩ := H
  exact mj_callV (n := 1) (As := [.int (mj_i μ h0 12)]) hb3 hM kc_U ht4 ⟨tw_526, tw_2, tw_529, ⟨by decide, by decide, by decide +kernel⟩, by decide, by decide⟩ tw_527 tw_528 rfl md_T_quietMicroseconds_21 (by first | decide | (simp only [List.map_cons, List.map_nil, List.sum_cons, List.sum_nil, mj_rfc, mj_ci, mj_cl]; done) | (simp only [List.map_cons, List.map_nil, List.sum_cons, List.sum_nil, mj_rfc, mj_ci, mj_cl]; decide)) id (mj_kI (fun x μ' hP e1 e2 => mj_lvs [0, 2] rfl (H x μ' hP e1 e2)))

set_option maxRecDepth 20000 in
theorem bk_T_quietMicroseconds_24 {G : mj_G} {Ex : Option Value → mj_MM → Prop} {N S : Nat} {μ : mj_MM} {h0 : Nat} {v2 : Option Nat} {s0 : Int32} {s1 : Int32}
    (H : mj_J G mY_T_quietMicroseconds Ex N S 28 [(0, va_rf (some h0)), (2, va_rf v2), (3, .int (if s0 < s1 then s0 else s1))] [] μ) :
    mj_J G mY_T_quietMicroseconds Ex N S 24 [(0, va_rf (some h0)), (2, va_rf v2)] [.int s0, .int s1] μ := by
  refine mj_min tw_534 tw_532 tw_4 tw_533 md_T_quietMicroseconds_24 (by decide) (by first | decide | (simp only [List.map_cons, List.map_nil, List.sum_cons, List.sum_nil, mj_rfc, mj_ci, mj_cl]; done) | (simp only [List.map_cons, List.map_nil, List.sum_cons, List.sum_nil, mj_rfc, mj_ci, mj_cl]; decide)) ?_
  refine mj_istn (i := 3) (lv' := [(3, .int (if s0 < s1 then s0 else s1)), (0, va_rf (some h0)), (2, va_rf v2)]) md_T_quietMicroseconds_27 rfl (by decide) (by first | rfl | (simp [mj_rfc]; done) | (simp [mj_rfc]; rfl)) ?_
  exact mj_lvs [1, 2, 0] rfl H

set_option maxRecDepth 20000 in
theorem bk_T_quietMicroseconds_28 {G : mj_G} {Ex : Option Value → mj_MM → Prop} {N S : Nat} {μ : mj_MM} {h0 : Nat} {v2 : Option Nat} {v3 : Int32}
    (H : ((mj_t μ h0 = 1) ∧ ((mj_r μ h0 7 = none → mj_J G mY_T_quietMicroseconds Ex N S 47 [(0, va_rf (some h0)), (2, va_rf v2), (3, .int v3)] [] μ) ∧ (∀ b2 : Nat, mj_r μ h0 7 = some b2 → ((mj_t μ b2 = 10) ∧ mj_J G mY_T_quietMicroseconds Ex N S 47 [(0, va_rf (some h0)), (2, va_rf v2), (3, .int (if (mj_i μ b2 1) < v3 then (mj_i μ b2 1) else v3))] [] μ))))) :
    mj_J G mY_T_quietMicroseconds Ex N S 28 [(0, va_rf (some h0)), (2, va_rf v2), (3, .int v3)] [] μ := by
  refine mj_aload_n 0 md_T_quietMicroseconds_28 rfl ?_
  obtain ⟨ht1, H⟩ := H
  refine mj_getf (v := va_rf (mj_r μ h0 7)) rfl kc_T 7 (by decide) tw_144 md_T_quietMicroseconds_29 ht1 rfl ?_
  obtain ⟨H1, H2⟩ := H
  refine mj_ifnull (tgt := 47) md_T_quietMicroseconds_32 (by decide) (fun hb => ?_) (fun b2 hb3 => ?_)
  · replace H := H1 hb
    exact mj_lvs [0, 1, 2] rfl H
  · replace H := H2 b2 hb3
    refine mj_iload_n 2 md_T_quietMicroseconds_35 rfl ?_
    refine mj_aload_n 0 md_T_quietMicroseconds_36 rfl ?_
    refine mj_getf (v := va_rf (mj_r μ h0 7)) rfl kc_T 7 (by decide) tw_144 md_T_quietMicroseconds_37 ht1 rfl ?_
    obtain ⟨ht4, H⟩ := H
    refine mj_getf (v := .int (mj_i μ b2 1)) hb3 kc_E 1 (by decide) tw_339 md_T_quietMicroseconds_40 ht4 rfl ?_
    refine mj_min tw_534 tw_532 tw_4 tw_533 md_T_quietMicroseconds_43 (by decide) (by first | decide | (simp only [List.map_cons, List.map_nil, List.sum_cons, List.sum_nil, mj_rfc, mj_ci, mj_cl]; done) | (simp only [List.map_cons, List.map_nil, List.sum_cons, List.sum_nil, mj_rfc, mj_ci, mj_cl]; decide)) ?_
    refine mj_istn (i := 3) (lv' := [(3, .int (if (mj_i μ b2 1) < v3 then (mj_i μ b2 1) else v3)), (0, va_rf (some h0)), (2, va_rf v2)]) md_T_quietMicroseconds_46 rfl (by decide) (by first | rfl | (simp [mj_rfc]; done) | (simp [mj_rfc]; rfl)) ?_
    exact mj_lvs [1, 2, 0] rfl H

set_option maxRecDepth 20000 in
theorem bk_T_quietMicroseconds_47 {G : mj_G} {Ex : Option Value → mj_MM → Prop} {N S : Nat} {μ : mj_MM} {h0 : Nat} {v2 : Option Nat} {v3 : Int32}
    (H : ((v2 = none → mj_J G mY_T_quietMicroseconds Ex N S 65 [(0, va_rf (some h0)), (2, va_rf v2), (3, .int v3)] [] μ) ∧ (∀ b1 : Nat, v2 = some b1 → ((mj_t μ h0 = 1) ∧ (mj_t μ b1 = 3) ∧ mj_J G mY_T_quietMicroseconds Ex N S 65 [(0, va_rf (some h0)), (2, va_rf v2), (3, .int (if ((mj_i μ h0 12) + (mj_i μ b1 2)) < v3 then ((mj_i μ h0 12) + (mj_i μ b1 2)) else v3))] [] μ)))) :
    mj_J G mY_T_quietMicroseconds Ex N S 47 [(0, va_rf (some h0)), (2, va_rf v2), (3, .int v3)] [] μ := by
  refine mj_aload_n 1 md_T_quietMicroseconds_47 rfl ?_
  obtain ⟨H1, H2⟩ := H
  refine mj_ifnull (tgt := 65) md_T_quietMicroseconds_48 (by decide) (fun hb => ?_) (fun b1 hb2 => ?_)
  · replace H := H1 hb
    exact mj_lvs [0, 1, 2] rfl H
  · replace H := H2 b1 hb2
    refine mj_iload_n 2 md_T_quietMicroseconds_51 rfl ?_
    refine mj_aload_n 0 md_T_quietMicroseconds_52 rfl ?_
    obtain ⟨ht3, H⟩ := H
    refine mj_getf (v := .int (mj_i μ h0 12)) rfl kc_T 12 (by decide) tw_149 md_T_quietMicroseconds_53 ht3 rfl ?_
    refine mj_aload_n 1 md_T_quietMicroseconds_56 rfl ?_
    obtain ⟨ht4, H⟩ := H
    refine mj_getf (v := .int (mj_i μ b1 2)) hb2 kc_I 2 (by decide) tw_370 md_T_quietMicroseconds_57 ht4 rfl ?_
    refine mj_iadd md_T_quietMicroseconds_60 ?_
    refine mj_min tw_534 tw_532 tw_4 tw_533 md_T_quietMicroseconds_61 (by decide) (by first | decide | (simp only [List.map_cons, List.map_nil, List.sum_cons, List.sum_nil, mj_rfc, mj_ci, mj_cl]; done) | (simp only [List.map_cons, List.map_nil, List.sum_cons, List.sum_nil, mj_rfc, mj_ci, mj_cl]; decide)) ?_
    refine mj_istn (i := 3) (lv' := [(3, .int (if ((mj_i μ h0 12) + (mj_i μ b1 2)) < v3 then ((mj_i μ h0 12) + (mj_i μ b1 2)) else v3)), (0, va_rf (some h0)), (2, va_rf v2)]) md_T_quietMicroseconds_64 rfl (by decide) (by first | rfl | (simp [mj_rfc]; done) | (simp [mj_rfc]; rfl)) ?_
    exact mj_lvs [1, 2, 0] rfl H

set_option maxRecDepth 20000 in
theorem bk_T_quietMicroseconds_65 {G : mj_G} {Ex : Option Value → mj_MM → Prop} {N S : Nat} {μ : mj_MM} {h0 : Nat} {v2 : Option Nat} {v3 : Int32}
    (H : ((mj_t μ h0 = 1) ∧ mj_J G mY_T_quietMicroseconds Ex N S 71 [(0, va_rf (some h0)), (2, va_rf v2), (3, .int v3), (4, va_rf (mj_r μ h0 1))] [] μ)) :
    mj_J G mY_T_quietMicroseconds Ex N S 65 [(0, va_rf (some h0)), (2, va_rf v2), (3, .int v3)] [] μ := by
  refine mj_aload_n 0 md_T_quietMicroseconds_65 rfl ?_
  obtain ⟨ht1, H⟩ := H
  refine mj_getf (v := va_rf (mj_r μ h0 1)) rfl kc_T 1 (by decide) tw_138 md_T_quietMicroseconds_66 ht1 rfl ?_
  refine mj_astore (lv' := [(4, va_rf (mj_r μ h0 1)), (0, va_rf (some h0)), (2, va_rf v2), (3, .int v3)]) md_T_quietMicroseconds_69 (by decide) (by first | rfl | (simp [mj_rfc]; done) | (simp [mj_rfc]; rfl)) ?_
  exact mj_lvs [1, 2, 3, 0] rfl H

set_option maxRecDepth 20000 in
theorem bk_T_quietMicroseconds_71 {G : mj_G} {Ex : Option Value → mj_MM → Prop} {N S : Nat} {μ : mj_MM} {h0 : Nat} {v2 : Option Nat} {v3 : Int32} {v4 : Option Nat}
    (H : (∃ b1 : Nat, (v4 = some b1) ∧ (mj_t μ b1 = 1005) ∧ mj_J G mY_T_quietMicroseconds Ex N S 76 [(0, va_rf (some h0)), (2, va_rf v2), (3, .int v3), (4, va_rf v4), (5, .int (nI (mj_n μ b1)))] [] μ)) :
    mj_J G mY_T_quietMicroseconds Ex N S 71 [(0, va_rf (some h0)), (2, va_rf v2), (3, .int v3), (4, va_rf v4)] [] μ := by
  refine mj_aload 3 md_T_quietMicroseconds_71 rfl ?_
  obtain ⟨b1, hb2, H⟩ := H
  obtain ⟨ht3, H⟩ := H
  refine mj_alen (t := 5) hb2 rfl ht3 md_T_quietMicroseconds_73 ?_
  refine mj_istore (lv' := [(5, .int (nI (mj_n μ b1))), (0, va_rf (some h0)), (2, va_rf v2), (3, .int v3), (4, va_rf v4)]) md_T_quietMicroseconds_74 (by decide) (by first | rfl | (simp [mj_rfc]; done) | (simp [mj_rfc]; rfl)) ?_
  exact mj_lvs [1, 2, 3, 4, 0] rfl H

set_option maxRecDepth 20000 in
theorem bk_T_quietMicroseconds_76 {G : mj_G} {Ex : Option Value → mj_MM → Prop} {N S : Nat} {μ : mj_MM} {h0 : Nat} {v2 : Option Nat} {v3 : Int32} {v4 : Option Nat} {v5 : Int32}
    (H : mj_J G mY_T_quietMicroseconds Ex N S 79 [(0, va_rf (some h0)), (2, va_rf v2), (3, .int v3), (4, va_rf v4), (5, .int v5), (6, .int 0)] [] μ) :
    mj_J G mY_T_quietMicroseconds Ex N S 76 [(0, va_rf (some h0)), (2, va_rf v2), (3, .int v3), (4, va_rf v4), (5, .int v5)] [] μ := by
  refine mj_iconst (v := 0) md_T_quietMicroseconds_76 (by decide) ?_
  refine mj_istore (lv' := [(6, .int 0), (0, va_rf (some h0)), (2, va_rf v2), (3, .int v3), (4, va_rf v4), (5, .int v5)]) md_T_quietMicroseconds_77 (by decide) (by first | rfl | (simp [mj_rfc]; done) | (simp [mj_rfc]; rfl)) ?_
  exact mj_lvs [1, 2, 3, 4, 5, 0] rfl H

set_option maxRecDepth 20000 in
theorem bk_T_quietMicroseconds_79 {G : mj_G} {Ex : Option Value → mj_MM → Prop} {N S : Nat} {μ : mj_MM} {h0 : Nat} {v2 : Option Nat} {v3 : Int32} {v4 : Option Nat} {v5 : Int32} {v6 : Int32}
    (H : ((v5 ≤ v6 → ((mj_t μ h0 = 1) ∧ Ex (some (.int (if 1 < (v3 - (mj_i μ h0 12)) then (v3 - (mj_i μ h0 12)) else 1))) μ)) ∧ (¬ v5 ≤ v6 → (∃ b2 : Nat, (v4 = some b2) ∧ (mj_t μ b2 = 1005) ∧ (vp_in v6 (mj_n μ b2)) ∧ mj_J G mY_T_quietMicroseconds Ex N S 93 [(0, va_rf (some h0)), (2, va_rf v2), (3, .int v3), (4, va_rf v4), (5, .int v5), (6, .int v6), (7, va_rf (mj_r μ b2 (Int32.toNatClampNeg v6)))] [] μ)))) :
    mj_J G mY_T_quietMicroseconds Ex N S 79 [(0, va_rf (some h0)), (2, va_rf v2), (3, .int v3), (4, va_rf v4), (5, .int v5), (6, .int v6)] [] μ := by
  refine mj_iload 5 md_T_quietMicroseconds_79 rfl ?_
  refine mj_iload 4 md_T_quietMicroseconds_81 rfl ?_
  obtain ⟨H1, H2⟩ := H
  refine mj_icmp_ge (tgt := 149) md_T_quietMicroseconds_83 (by decide) (fun hx => ?_) (fun hx => ?_)
  · replace H := H1 hx
    refine mj_iconst (v := 1) md_T_quietMicroseconds_149 (by decide) ?_
    refine mj_iload_n 2 md_T_quietMicroseconds_150 rfl ?_
    refine mj_aload_n 0 md_T_quietMicroseconds_151 rfl ?_
    obtain ⟨ht1, H⟩ := H
    refine mj_getf (v := .int (mj_i μ h0 12)) rfl kc_T 12 (by decide) tw_149 md_T_quietMicroseconds_152 ht1 rfl ?_
    refine mj_isub md_T_quietMicroseconds_155 ?_
    refine mj_max tw_310 tw_56 tw_4 tw_57 md_T_quietMicroseconds_156 (by decide) (by first | decide | (simp only [List.map_cons, List.map_nil, List.sum_cons, List.sum_nil, mj_rfc, mj_ci, mj_cl]; done) | (simp only [List.map_cons, List.map_nil, List.sum_cons, List.sum_nil, mj_rfc, mj_ci, mj_cl]; decide)) ?_
    exact mj_ireturn md_T_quietMicroseconds_159 rfl rfl H
  · replace H := H2 hx
    refine mj_aload 3 md_T_quietMicroseconds_86 rfl ?_
    refine mj_iload 5 md_T_quietMicroseconds_88 rfl ?_
    obtain ⟨b2, hb3, H⟩ := H
    obtain ⟨ht4, H⟩ := H
    obtain ⟨hi5, H⟩ := H
    refine mj_aald (t := 5) hb3 rfl rfl ht4 hi5 md_T_quietMicroseconds_90 ?_
    refine mj_astore (lv' := [(7, va_rf (mj_r μ b2 (Int32.toNatClampNeg v6))), (0, va_rf (some h0)), (2, va_rf v2), (3, .int v3), (4, va_rf v4), (5, .int v5), (6, .int v6)]) md_T_quietMicroseconds_91 (by decide) (by first | rfl | (simp [mj_rfc]; done) | (simp [mj_rfc]; rfl)) ?_
    exact mj_lvs [1, 2, 3, 4, 5, 6, 0] rfl H

set_option maxRecDepth 20000 in
theorem bk_T_quietMicroseconds_93 {G : mj_G} {Ex : Option Value → mj_MM → Prop} {N S : Nat} {μ : mj_MM} {h0 : Nat} {v2 : Option Nat} {v3 : Int32} {v4 : Option Nat} {v5 : Int32} {v6 : Int32} {v7 : Option Nat}
    (H : (∃ b1 : Nat, (v7 = some b1) ∧ (mj_t μ b1 = 2) ∧ ((¬ (mj_i μ b1 0) = 0 → mj_J G mY_T_quietMicroseconds Ex N S 109 [(0, va_rf (some h0)), (2, va_rf v2), (3, .int v3), (4, va_rf v4), (5, .int v5), (6, .int v6), (7, va_rf v7)] [] μ) ∧ ((mj_i μ b1 0) = 0 → ((v2 = none → mj_J G mY_T_quietMicroseconds Ex N S 109 [(0, va_rf (some h0)), (2, va_rf v2), (3, .int v3), (4, va_rf v4), (5, .int v5), (6, .int v6), (7, va_rf v7)] [] μ) ∧ (∀ b4 : Nat, v2 = some b4 → mj_J G mY_T_quietMicroseconds Ex N S 112 [(0, va_rf (some h0)), (2, va_rf v2), (3, .int v3), (4, va_rf v4), (5, .int v5), (6, .int v6), (7, va_rf v7), (8, .int 1)] [] μ)))))) :
    mj_J G mY_T_quietMicroseconds Ex N S 93 [(0, va_rf (some h0)), (2, va_rf v2), (3, .int v3), (4, va_rf v4), (5, .int v5), (6, .int v6), (7, va_rf v7)] [] μ := by
  refine mj_aload 6 md_T_quietMicroseconds_93 rfl ?_
  obtain ⟨b1, hb2, H⟩ := H
  obtain ⟨ht3, H⟩ := H
  refine mj_getf (v := .int (mj_i μ b1 0)) hb2 kc_C 0 (by decide) tw_82 md_T_quietMicroseconds_95 ht3 rfl ?_
  obtain ⟨H1, H2⟩ := H
  refine mj_if_ne (tgt := 109) md_T_quietMicroseconds_98 (by decide) (fun hx => ?_) (fun hx => ?_)
  · replace H := H1 hx
    exact mj_lvs [0, 1, 2, 3, 4, 5, 6] rfl H
  · replace H := H2 hx
    refine mj_aload_n 1 md_T_quietMicroseconds_101 rfl ?_
    obtain ⟨H1, H2⟩ := H
    refine mj_ifnull (tgt := 109) md_T_quietMicroseconds_102 (by decide) (fun hb => ?_) (fun b4 hb5 => ?_)
    · replace H := H1 hb
      exact mj_lvs [0, 1, 2, 3, 4, 5, 6] rfl H
    · replace H := H2 b4 hb5
      refine mj_iconst (v := 1) md_T_quietMicroseconds_105 (by decide) ?_
      refine mj_goto (tgt := 110) md_T_quietMicroseconds_106 (by decide) ?_
      refine mj_istore (lv' := [(8, .int 1), (0, va_rf (some h0)), (2, va_rf v2), (3, .int v3), (4, va_rf v4), (5, .int v5), (6, .int v6), (7, va_rf v7)]) md_T_quietMicroseconds_110 (by decide) (by first | rfl | (simp [mj_rfc]; done) | (simp [mj_rfc]; rfl)) ?_
      exact mj_lvs [1, 2, 3, 4, 5, 6, 7, 0] rfl H

set_option maxRecDepth 20000 in
theorem bk_T_quietMicroseconds_109 {G : mj_G} {Ex : Option Value → mj_MM → Prop} {N S : Nat} {μ : mj_MM} {h0 : Nat} {v2 : Option Nat} {v3 : Int32} {v4 : Option Nat} {v5 : Int32} {v6 : Int32} {v7 : Option Nat}
    (H : mj_J G mY_T_quietMicroseconds Ex N S 112 [(0, va_rf (some h0)), (2, va_rf v2), (3, .int v3), (4, va_rf v4), (5, .int v5), (6, .int v6), (7, va_rf v7), (8, .int 0)] [] μ) :
    mj_J G mY_T_quietMicroseconds Ex N S 109 [(0, va_rf (some h0)), (2, va_rf v2), (3, .int v3), (4, va_rf v4), (5, .int v5), (6, .int v6), (7, va_rf v7)] [] μ := by
  refine mj_iconst (v := 0) md_T_quietMicroseconds_109 (by decide) ?_
  refine mj_istore (lv' := [(8, .int 0), (0, va_rf (some h0)), (2, va_rf v2), (3, .int v3), (4, va_rf v4), (5, .int v5), (6, .int v6), (7, va_rf v7)]) md_T_quietMicroseconds_110 (by decide) (by first | rfl | (simp [mj_rfc]; done) | (simp [mj_rfc]; rfl)) ?_
  exact mj_lvs [1, 2, 3, 4, 5, 6, 7, 0] rfl H

set_option maxRecDepth 20000 in
theorem bk_T_quietMicroseconds_112 {G : mj_G} {Ex : Option Value → mj_MM → Prop} {N S : Nat} {μ : mj_MM} {h0 : Nat} {v2 : Option Nat} {v3 : Int32} {v4 : Option Nat} {v5 : Int32} {v6 : Int32} {v7 : Option Nat} {v8 : Int32}
    (H : (∃ b1 : Nat, (v7 = some b1) ∧ (mj_t μ b1 = 2) ∧ ((mj_r μ b1 4 = none → mj_J G mY_T_quietMicroseconds Ex N S 143 [(0, va_rf (some h0)), (2, va_rf v2), (3, .int v3), (4, va_rf v4), (5, .int v5), (6, .int v6)] [] μ) ∧ (∀ b4 : Nat, mj_r μ b1 4 = some b4 → ((¬ v8 = 0 → mj_J G mY_T_quietMicroseconds Ex N S 143 [(0, va_rf (some h0)), (2, va_rf v2), (3, .int v3), (4, va_rf v4), (5, .int v5), (6, .int v6)] [] μ) ∧ (v8 = 0 → ((mj_t μ h0 = 1) ∧ (mj_t μ b4 = 9) ∧ (∃ P : Int32 → mj_MM → Prop, mj_M G my_K_leftOfPart mY_K_leftOfPart [va_rf (some b4)] (mj_nc μ) (mj_ns μ) μ (mj_XI P) ∧ ∀ (x : Int32) (μ' : mj_MM), P x μ' → mj_nc μ' = mj_nc μ → mj_ns μ' = mj_ns μ → mj_J G mY_T_quietMicroseconds Ex N S 138 [(0, va_rf (some h0)), (2, va_rf v2), (4, va_rf v4), (5, .int v5), (6, .int v6)] [.int x, .int (mj_i μ h0 12), .int v3] μ')))))))) :
    mj_J G mY_T_quietMicroseconds Ex N S 112 [(0, va_rf (some h0)), (2, va_rf v2), (3, .int v3), (4, va_rf v4), (5, .int v5), (6, .int v6), (7, va_rf v7), (8, .int v8)] [] μ := by
  refine mj_aload 6 md_T_quietMicroseconds_112 rfl ?_
  obtain ⟨b1, hb2, H⟩ := H
  obtain ⟨ht3, H⟩ := H
  refine mj_getf (v := va_rf (mj_r μ b1 4)) hb2 kc_C 4 (by decide) tw_87 md_T_quietMicroseconds_114 ht3 rfl ?_
  obtain ⟨H1, H2⟩ := H
  refine mj_ifnull (tgt := 143) md_T_quietMicroseconds_117 (by decide) (fun hb => ?_) (fun b4 hb5 => ?_)
  · replace H := H1 hb
    exact mj_lvs [0, 1, 2, 3, 4, 5] rfl H
  · replace H := H2 b4 hb5
    refine mj_iload 7 md_T_quietMicroseconds_120 rfl ?_
    obtain ⟨H1, H2⟩ := H
    refine mj_if_ne (tgt := 143) md_T_quietMicroseconds_122 (by decide) (fun hx => ?_) (fun hx => ?_)
    · replace H := H1 hx
      exact mj_lvs [0, 1, 2, 3, 4, 5] rfl H
    · replace H := H2 hx
      refine mj_iload_n 2 md_T_quietMicroseconds_125 rfl ?_
      refine mj_aload_n 0 md_T_quietMicroseconds_126 rfl ?_
      obtain ⟨ht6, H⟩ := H
      refine mj_getf (v := .int (mj_i μ h0 12)) rfl kc_T 12 (by decide) tw_149 md_T_quietMicroseconds_127 ht6 rfl ?_
      refine mj_aload 6 md_T_quietMicroseconds_130 rfl ?_
      refine mj_getf (v := va_rf (mj_r μ b1 4)) hb2 kc_C 4 (by decide) tw_87 md_T_quietMicroseconds_132 ht3 rfl ?_
      obtain ⟨ht7, H⟩ := H
      obtain ⟨P, hM, H⟩ := H
      exact mj_callV (n := 0) (As := []) hb5 hM kc_K ht7 ⟨tw_535, tw_9, tw_538, ⟨by decide, by decide, by decide +kernel⟩, by decide, by decide⟩ tw_536 tw_537 rfl md_T_quietMicroseconds_135 (by first | decide | (simp only [List.map_cons, List.map_nil, List.sum_cons, List.sum_nil, mj_rfc, mj_ci, mj_cl]; done) | (simp only [List.map_cons, List.map_nil, List.sum_cons, List.sum_nil, mj_rfc, mj_ci, mj_cl]; decide)) id (mj_kI (fun x μ' hP e1 e2 => mj_lvs [0, 1, 3, 4, 5] rfl (H x μ' hP e1 e2)))

set_option maxRecDepth 20000 in
theorem bk_T_quietMicroseconds_143 {G : mj_G} {Ex : Option Value → mj_MM → Prop} {N S : Nat} {μ : mj_MM} {h0 : Nat} {v2 : Option Nat} {v3 : Int32} {v4 : Option Nat} {v5 : Int32} {v6 : Int32}
    (H : mj_J G mY_T_quietMicroseconds Ex N S 79 [(0, va_rf (some h0)), (2, va_rf v2), (3, .int v3), (4, va_rf v4), (5, .int v5), (6, .int (v6 + 1))] [] μ) :
    mj_J G mY_T_quietMicroseconds Ex N S 143 [(0, va_rf (some h0)), (2, va_rf v2), (3, .int v3), (4, va_rf v4), (5, .int v5), (6, .int v6)] [] μ := by
  refine mj_iinc (j := 5) (v := v6 + 1) (lv' := [(6, .int (v6 + 1)), (0, va_rf (some h0)), (2, va_rf v2), (3, .int v3), (4, va_rf v4), (5, .int v5)]) md_T_quietMicroseconds_143 rfl rfl (by decide) (by first | rfl | (simp [mj_rfc]; done) | (simp [mj_rfc]; rfl)) ?_
  refine mj_goto (tgt := 79) md_T_quietMicroseconds_146 (by decide) ?_
  exact mj_lvs [1, 2, 3, 4, 5, 0] rfl H

set_option maxRecDepth 20000 in
theorem bk_T_quietMicroseconds_138 {G : mj_G} {Ex : Option Value → mj_MM → Prop} {N S : Nat} {μ : mj_MM} {h0 : Nat} {v2 : Option Nat} {v4 : Option Nat} {v5 : Int32} {v6 : Int32} {s0 : Int32} {s1 : Int32} {s2 : Int32}
    (H : mj_J G mY_T_quietMicroseconds Ex N S 143 [(0, va_rf (some h0)), (2, va_rf v2), (3, .int (if (s1 + s0) < s2 then (s1 + s0) else s2)), (4, va_rf v4), (5, .int v5), (6, .int v6)] [] μ) :
    mj_J G mY_T_quietMicroseconds Ex N S 138 [(0, va_rf (some h0)), (2, va_rf v2), (4, va_rf v4), (5, .int v5), (6, .int v6)] [.int s0, .int s1, .int s2] μ := by
  refine mj_iadd md_T_quietMicroseconds_138 ?_
  refine mj_min tw_534 tw_532 tw_4 tw_533 md_T_quietMicroseconds_139 (by decide) (by first | decide | (simp only [List.map_cons, List.map_nil, List.sum_cons, List.sum_nil, mj_rfc, mj_ci, mj_cl]; done) | (simp only [List.map_cons, List.map_nil, List.sum_cons, List.sum_nil, mj_rfc, mj_ci, mj_cl]; decide)) ?_
  refine mj_istn (i := 3) (lv' := [(3, .int (if (s1 + s0) < s2 then (s1 + s0) else s2)), (0, va_rf (some h0)), (2, va_rf v2), (4, va_rf v4), (5, .int v5), (6, .int v6)]) md_T_quietMicroseconds_142 rfl (by decide) (by first | rfl | (simp [mj_rfc]; done) | (simp [mj_rfc]; rfl)) ?_
  exact mj_lvs [1, 2, 0, 3, 4, 5] rfl H

set_option maxRecDepth 20000 in
theorem bk_T_passMicroseconds_0 {G : mj_G} {Ex : Option Value → mj_MM → Prop} {N S : Nat} {μ : mj_MM} {h0 : Nat} {v1 : Int32}
    (H : ((mj_t μ h0 = 1) ∧ ∃ b2 : Nat, (mj_r μ h0 4 = some b2) ∧ (mj_t μ b2 = 4) ∧ (∃ P : Option Nat → mj_MM → Prop, mj_M G my_U_atHand mY_U_atHand [va_rf (some b2), .int (mj_i μ h0 12)] (mj_nc μ) (mj_ns μ) μ (mj_XR P) ∧ ∀ (x : Option Nat) (μ' : mj_MM), P x μ' → mj_nc μ' = mj_nc μ → mj_ns μ' = mj_ns μ → mj_J G mY_T_passMicroseconds Ex N S 11 [(0, va_rf (some h0)), (1, .int v1)] [va_rf x] μ'))) :
    mj_J G mY_T_passMicroseconds Ex N S 0 [(0, va_rf (some h0)), (1, .int v1)] [] μ := by
  refine mj_aload_n 0 md_T_passMicroseconds_0 rfl ?_
  obtain ⟨ht1, H⟩ := H
  refine mj_getf (v := va_rf (mj_r μ h0 4)) rfl kc_T 4 (by decide) tw_141 md_T_passMicroseconds_1 ht1 rfl ?_
  refine mj_aload_n 0 md_T_passMicroseconds_4 rfl ?_
  refine mj_getf (v := .int (mj_i μ h0 12)) rfl kc_T 12 (by decide) tw_149 md_T_passMicroseconds_5 ht1 rfl ?_
  obtain ⟨b2, hb3, H⟩ := H
  obtain ⟨ht4, H⟩ := H
  obtain ⟨P, hM, H⟩ := H
  exact mj_callV (n := 1) (As := [.int (mj_i μ h0 12)]) hb3 hM kc_U ht4 ⟨tw_421, tw_2, tw_424, ⟨by decide, by decide, by decide +kernel⟩, by decide, by decide⟩ tw_422 tw_423 rfl md_T_passMicroseconds_8 (by first | decide | (simp only [List.map_cons, List.map_nil, List.sum_cons, List.sum_nil, mj_rfc, mj_ci, mj_cl]; done) | (simp only [List.map_cons, List.map_nil, List.sum_cons, List.sum_nil, mj_rfc, mj_ci, mj_cl]; decide)) id (mj_kR (fun x μ' hP e1 e2 => mj_lvs [0, 1] rfl (H x μ' hP e1 e2)))

set_option maxRecDepth 20000 in
theorem bk_T_passMicroseconds_11 {G : mj_G} {Ex : Option Value → mj_MM → Prop} {N S : Nat} {μ : mj_MM} {h0 : Nat} {v1 : Int32} {s0 : Option Nat}
    (H : mj_J G mY_T_passMicroseconds Ex N S 12 [(0, va_rf (some h0)), (1, .int v1), (2, va_rf s0)] [] μ) :
    mj_J G mY_T_passMicroseconds Ex N S 11 [(0, va_rf (some h0)), (1, .int v1)] [va_rf s0] μ := by
  refine mj_astn (i := 2) (lv' := [(2, va_rf s0), (0, va_rf (some h0)), (1, .int v1)]) md_T_passMicroseconds_11 rfl (by decide) (by first | rfl | (simp [mj_rfc]; done) | (simp [mj_rfc]; rfl)) ?_
  exact mj_lvs [1, 2, 0] rfl H

set_option maxRecDepth 20000 in
theorem bk_T_passMicroseconds_12 {G : mj_G} {Ex : Option Value → mj_MM → Prop} {N S : Nat} {μ : mj_MM} {h0 : Nat} {v1 : Int32} {v2 : Option Nat}
    (H : mj_J G mY_T_passMicroseconds Ex N S 14 [(0, va_rf (some h0)), (1, .int v1), (2, va_rf v2), (3, .int 0)] [] μ) :
    mj_J G mY_T_passMicroseconds Ex N S 12 [(0, va_rf (some h0)), (1, .int v1), (2, va_rf v2)] [] μ := by
  refine mj_iconst (v := 0) md_T_passMicroseconds_12 (by decide) ?_
  refine mj_istn (i := 3) (lv' := [(3, .int 0), (0, va_rf (some h0)), (1, .int v1), (2, va_rf v2)]) md_T_passMicroseconds_13 rfl (by decide) (by first | rfl | (simp [mj_rfc]; done) | (simp [mj_rfc]; rfl)) ?_
  exact mj_lvs [1, 2, 3, 0] rfl H

set_option maxRecDepth 20000 in
theorem bk_T_passMicroseconds_14 {G : mj_G} {Ex : Option Value → mj_MM → Prop} {N S : Nat} {μ : mj_MM} {h0 : Nat} {v1 : Int32} {v2 : Option Nat} {v3 : Int32}
    (H : ((mj_t μ h0 = 1) ∧ mj_J G mY_T_passMicroseconds Ex N S 20 [(0, va_rf (some h0)), (1, .int v1), (2, va_rf v2), (3, .int v3), (4, va_rf (mj_r μ h0 1))] [] μ)) :
    mj_J G mY_T_passMicroseconds Ex N S 14 [(0, va_rf (some h0)), (1, .int v1), (2, va_rf v2), (3, .int v3)] [] μ := by
  refine mj_aload_n 0 md_T_passMicroseconds_14 rfl ?_
  obtain ⟨ht1, H⟩ := H
  refine mj_getf (v := va_rf (mj_r μ h0 1)) rfl kc_T 1 (by decide) tw_138 md_T_passMicroseconds_15 ht1 rfl ?_
  refine mj_astore (lv' := [(4, va_rf (mj_r μ h0 1)), (0, va_rf (some h0)), (1, .int v1), (2, va_rf v2), (3, .int v3)]) md_T_passMicroseconds_18 (by decide) (by first | rfl | (simp [mj_rfc]; done) | (simp [mj_rfc]; rfl)) ?_
  exact mj_lvs [1, 2, 3, 4, 0] rfl H

set_option maxRecDepth 20000 in
theorem bk_T_passMicroseconds_20 {G : mj_G} {Ex : Option Value → mj_MM → Prop} {N S : Nat} {μ : mj_MM} {h0 : Nat} {v1 : Int32} {v2 : Option Nat} {v3 : Int32} {v4 : Option Nat}
    (H : (∃ b1 : Nat, (v4 = some b1) ∧ (mj_t μ b1 = 1005) ∧ mj_J G mY_T_passMicroseconds Ex N S 25 [(0, va_rf (some h0)), (1, .int v1), (2, va_rf v2), (3, .int v3), (4, va_rf v4), (5, .int (nI (mj_n μ b1)))] [] μ)) :
    mj_J G mY_T_passMicroseconds Ex N S 20 [(0, va_rf (some h0)), (1, .int v1), (2, va_rf v2), (3, .int v3), (4, va_rf v4)] [] μ := by
  refine mj_aload 4 md_T_passMicroseconds_20 rfl ?_
  obtain ⟨b1, hb2, H⟩ := H
  obtain ⟨ht3, H⟩ := H
  refine mj_alen (t := 5) hb2 rfl ht3 md_T_passMicroseconds_22 ?_
  refine mj_istore (lv' := [(5, .int (nI (mj_n μ b1))), (0, va_rf (some h0)), (1, .int v1), (2, va_rf v2), (3, .int v3), (4, va_rf v4)]) md_T_passMicroseconds_23 (by decide) (by first | rfl | (simp [mj_rfc]; done) | (simp [mj_rfc]; rfl)) ?_
  exact mj_lvs [1, 2, 3, 4, 5, 0] rfl H

set_option maxRecDepth 20000 in
theorem bk_T_passMicroseconds_25 {G : mj_G} {Ex : Option Value → mj_MM → Prop} {N S : Nat} {μ : mj_MM} {h0 : Nat} {v1 : Int32} {v2 : Option Nat} {v3 : Int32} {v4 : Option Nat} {v5 : Int32}
    (H : mj_J G mY_T_passMicroseconds Ex N S 28 [(0, va_rf (some h0)), (1, .int v1), (2, va_rf v2), (3, .int v3), (4, va_rf v4), (5, .int v5), (6, .int 0)] [] μ) :
    mj_J G mY_T_passMicroseconds Ex N S 25 [(0, va_rf (some h0)), (1, .int v1), (2, va_rf v2), (3, .int v3), (4, va_rf v4), (5, .int v5)] [] μ := by
  refine mj_iconst (v := 0) md_T_passMicroseconds_25 (by decide) ?_
  refine mj_istore (lv' := [(6, .int 0), (0, va_rf (some h0)), (1, .int v1), (2, va_rf v2), (3, .int v3), (4, va_rf v4), (5, .int v5)]) md_T_passMicroseconds_26 (by decide) (by first | rfl | (simp [mj_rfc]; done) | (simp [mj_rfc]; rfl)) ?_
  exact mj_lvs [1, 2, 3, 4, 5, 6, 0] rfl H

set_option maxRecDepth 20000 in
theorem bk_T_passMicroseconds_28 {G : mj_G} {Ex : Option Value → mj_MM → Prop} {N S : Nat} {μ : mj_MM} {h0 : Nat} {v1 : Int32} {v2 : Option Nat} {v3 : Int32} {v4 : Option Nat} {v5 : Int32} {v6 : Int32}
    (H : ((v5 ≤ v6 → ((v2 = none → mj_J G mY_T_passMicroseconds Ex N S 162 [(0, va_rf (some h0)), (1, .int v1), (3, .int v3)] [] μ) ∧ (∀ b1 : Nat, v2 = some b1 → ((mj_t μ h0 = 1) ∧ ∃ b4 : Nat, (mj_r μ h0 4 = some b4) ∧ (mj_t μ b4 = 4) ∧ (∃ P : mj_MM → Prop, mj_M G my_U_serve mY_U_serve [va_rf (some b4), va_rf v2, .int v1] (mj_nc μ) (mj_ns μ) μ (mj_XV P) ∧ ∀ (μ' : mj_MM), P μ' → mj_nc μ' = mj_nc μ → mj_ns μ' = mj_ns μ → mj_J G mY_T_passMicroseconds Ex N S 162 [(0, va_rf (some h0)), (1, .int v1), (3, .int v3)] [] μ'))))) ∧ (¬ v5 ≤ v6 → (∃ b7 : Nat, (v4 = some b7) ∧ (mj_t μ b7 = 1005) ∧ (vp_in v6 (mj_n μ b7)) ∧ mj_J G mY_T_passMicroseconds Ex N S 42 [(0, va_rf (some h0)), (1, .int v1), (2, va_rf v2), (3, .int v3), (4, va_rf v4), (5, .int v5), (6, .int v6), (7, va_rf (mj_r μ b7 (Int32.toNatClampNeg v6)))] [] μ)))) :
    mj_J G mY_T_passMicroseconds Ex N S 28 [(0, va_rf (some h0)), (1, .int v1), (2, va_rf v2), (3, .int v3), (4, va_rf v4), (5, .int v5), (6, .int v6)] [] μ := by
  refine mj_iload 6 md_T_passMicroseconds_28 rfl ?_
  refine mj_iload 5 md_T_passMicroseconds_30 rfl ?_
  obtain ⟨H1, H2⟩ := H
  refine mj_icmp_ge (tgt := 149) md_T_passMicroseconds_32 (by decide) (fun hx => ?_) (fun hx => ?_)
  · replace H := H1 hx
    refine mj_aload_n 2 md_T_passMicroseconds_149 rfl ?_
    obtain ⟨H1, H2⟩ := H
    refine mj_ifnull (tgt := 162) md_T_passMicroseconds_150 (by decide) (fun hb => ?_) (fun b1 hb2 => ?_)
    · replace H := H1 hb
      exact mj_lvs [0, 1, 3] rfl H
    · replace H := H2 b1 hb2
      refine mj_aload_n 0 md_T_passMicroseconds_153 rfl ?_
      obtain ⟨ht3, H⟩ := H
      refine mj_getf (v := va_rf (mj_r μ h0 4)) rfl kc_T 4 (by decide) tw_141 md_T_passMicroseconds_154 ht3 rfl ?_
      refine mj_aload_n 2 md_T_passMicroseconds_157 rfl ?_
      refine mj_iload_n 1 md_T_passMicroseconds_158 rfl ?_
      obtain ⟨b4, hb5, H⟩ := H
      obtain ⟨ht6, H⟩ := H
      obtain ⟨P, hM, H⟩ := H
      exact mj_callV (n := 2) (As := [va_rf v2, .int v1]) hb5 hM kc_U ht6 ⟨tw_553, tw_2, tw_556, ⟨by decide, by decide, by decide +kernel⟩, by decide, by decide⟩ tw_554 tw_555 rfl md_T_passMicroseconds_159 (by first | decide | (simp only [List.map_cons, List.map_nil, List.sum_cons, List.sum_nil, mj_rfc, mj_ci, mj_cl]; done) | (simp only [List.map_cons, List.map_nil, List.sum_cons, List.sum_nil, mj_rfc, mj_ci, mj_cl]; decide)) id (mj_kV (fun μ' hP e1 e2 => mj_lvs [0, 1, 3] rfl (H μ' hP e1 e2)))
  · replace H := H2 hx
    refine mj_aload 4 md_T_passMicroseconds_35 rfl ?_
    refine mj_iload 6 md_T_passMicroseconds_37 rfl ?_
    obtain ⟨b7, hb8, H⟩ := H
    obtain ⟨ht9, H⟩ := H
    obtain ⟨hi10, H⟩ := H
    refine mj_aald (t := 5) hb8 rfl rfl ht9 hi10 md_T_passMicroseconds_39 ?_
    refine mj_astore (lv' := [(7, va_rf (mj_r μ b7 (Int32.toNatClampNeg v6))), (0, va_rf (some h0)), (1, .int v1), (2, va_rf v2), (3, .int v3), (4, va_rf v4), (5, .int v5), (6, .int v6)]) md_T_passMicroseconds_40 (by decide) (by first | rfl | (simp [mj_rfc]; done) | (simp [mj_rfc]; rfl)) ?_
    exact mj_lvs [1, 2, 3, 4, 5, 6, 7, 0] rfl H

set_option maxRecDepth 20000 in
theorem bk_T_passMicroseconds_162 {G : mj_G} {Ex : Option Value → mj_MM → Prop} {N S : Nat} {μ : mj_MM} {h0 : Nat} {v1 : Int32} {v3 : Int32}
    (H : ((mj_t μ h0 = 1) ∧ Ex (some (.int v3)) (mj_pI μ h0 12 ((mj_i μ h0 12) + v1)))) :
    mj_J G mY_T_passMicroseconds Ex N S 162 [(0, va_rf (some h0)), (1, .int v1), (3, .int v3)] [] μ := by
  refine mj_aload_n 0 md_T_passMicroseconds_162 rfl ?_
  refine mj_dup md_T_passMicroseconds_163 (mj_rfc _) ?_
  obtain ⟨ht1, H⟩ := H
  refine mj_getf (v := .int (mj_i μ h0 12)) rfl kc_T 12 (by decide) tw_149 md_T_passMicroseconds_164 ht1 rfl ?_
  refine mj_iload_n 1 md_T_passMicroseconds_167 rfl ?_
  refine mj_iadd md_T_passMicroseconds_168 ?_
  refine mj_putI rfl kc_T 12 (by decide) rfl tw_149 md_T_passMicroseconds_169 (Or.inl rfl) ht1 rfl rfl ?_
  refine mj_iload_n 2 md_T_passMicroseconds_172 rfl ?_
  exact mj_ireturn md_T_passMicroseconds_173 rfl rfl H

set_option maxRecDepth 20000 in
theorem bk_T_passMicroseconds_42 {G : mj_G} {Ex : Option Value → mj_MM → Prop} {N S : Nat} {μ : mj_MM} {h0 : Nat} {v1 : Int32} {v2 : Option Nat} {v3 : Int32} {v4 : Option Nat} {v5 : Int32} {v6 : Int32} {v7 : Option Nat}
    (H : (∃ b1 : Nat, (v7 = some b1) ∧ (mj_t μ b1 = 2) ∧ mj_J G mY_T_passMicroseconds Ex N S 49 [(0, va_rf (some h0)), (1, .int v1), (2, va_rf v2), (3, .int v3), (4, va_rf v4), (5, .int v5), (6, .int v6), (7, va_rf v7), (8, va_rf (mj_r μ b1 4))] [] μ)) :
    mj_J G mY_T_passMicroseconds Ex N S 42 [(0, va_rf (some h0)), (1, .int v1), (2, va_rf v2), (3, .int v3), (4, va_rf v4), (5, .int v5), (6, .int v6), (7, va_rf v7)] [] μ := by
  refine mj_aload 7 md_T_passMicroseconds_42 rfl ?_
  obtain ⟨b1, hb2, H⟩ := H
  obtain ⟨ht3, H⟩ := H
  refine mj_getf (v := va_rf (mj_r μ b1 4)) hb2 kc_C 4 (by decide) tw_87 md_T_passMicroseconds_44 ht3 rfl ?_
  refine mj_astore (lv' := [(8, va_rf (mj_r μ b1 4)), (0, va_rf (some h0)), (1, .int v1), (2, va_rf v2), (3, .int v3), (4, va_rf v4), (5, .int v5), (6, .int v6), (7, va_rf v7)]) md_T_passMicroseconds_47 (by decide) (by first | rfl | (simp [mj_rfc]; done) | (simp [mj_rfc]; rfl)) ?_
  exact mj_lvs [1, 2, 3, 4, 5, 6, 7, 8, 0] rfl H

set_option maxRecDepth 20000 in
theorem bk_T_passMicroseconds_49 {G : mj_G} {Ex : Option Value → mj_MM → Prop} {N S : Nat} {μ : mj_MM} {h0 : Nat} {v1 : Int32} {v2 : Option Nat} {v3 : Int32} {v4 : Option Nat} {v5 : Int32} {v6 : Int32} {v7 : Option Nat} {v8 : Option Nat}
    (H : ((v8 = none → mj_J G mY_T_passMicroseconds Ex N S 65 [(0, va_rf (some h0)), (1, .int v1), (2, va_rf v2), (3, .int v3), (4, va_rf v4), (5, .int v5), (6, .int v6), (7, va_rf v7), (8, va_rf v8), (9, .int 0)] [] μ) ∧ (∀ b1 : Nat, v8 = some b1 → ((mj_t μ b1 = 9) ∧ mj_J G mY_T_passMicroseconds Ex N S 65 [(0, va_rf (some h0)), (1, .int v1), (2, va_rf v2), (3, .int v3), (4, va_rf v4), (5, .int v5), (6, .int v6), (7, va_rf v7), (8, va_rf v8), (9, .int (mj_i μ b1 0))] [] μ)))) :
    mj_J G mY_T_passMicroseconds Ex N S 49 [(0, va_rf (some h0)), (1, .int v1), (2, va_rf v2), (3, .int v3), (4, va_rf v4), (5, .int v5), (6, .int v6), (7, va_rf v7), (8, va_rf v8)] [] μ := by
  refine mj_aload 8 md_T_passMicroseconds_49 rfl ?_
  obtain ⟨H1, H2⟩ := H
  refine mj_ifnonnull (tgt := 58) md_T_passMicroseconds_51 (by decide) (fun b1 hb2 => ?_) (fun hb => ?_)
  · replace H := H2 b1 hb2
    refine mj_aload 8 md_T_passMicroseconds_58 rfl ?_
    obtain ⟨ht3, H⟩ := H
    refine mj_getf (v := .int (mj_i μ b1 0)) hb2 kc_K 0 (by decide) tw_213 md_T_passMicroseconds_60 ht3 rfl ?_
    refine mj_istore (lv' := [(9, .int (mj_i μ b1 0)), (0, va_rf (some h0)), (1, .int v1), (2, va_rf v2), (3, .int v3), (4, va_rf v4), (5, .int v5), (6, .int v6), (7, va_rf v7), (8, va_rf v8)]) md_T_passMicroseconds_63 (by decide) (by first | rfl | (simp [mj_rfc]; done) | (simp [mj_rfc]; rfl)) ?_
    exact mj_lvs [1, 2, 3, 4, 5, 6, 7, 8, 9, 0] rfl H
  · replace H := H1 hb
    refine mj_iconst (v := 0) md_T_passMicroseconds_54 (by decide) ?_
    refine mj_goto (tgt := 63) md_T_passMicroseconds_55 (by decide) ?_
    refine mj_istore (lv' := [(9, .int 0), (0, va_rf (some h0)), (1, .int v1), (2, va_rf v2), (3, .int v3), (4, va_rf v4), (5, .int v5), (6, .int v6), (7, va_rf v7), (8, va_rf v8)]) md_T_passMicroseconds_63 (by decide) (by first | rfl | (simp [mj_rfc]; done) | (simp [mj_rfc]; rfl)) ?_
    exact mj_lvs [1, 2, 3, 4, 5, 6, 7, 8, 9, 0] rfl H

set_option maxRecDepth 20000 in
theorem bk_T_passMicroseconds_65 {G : mj_G} {Ex : Option Value → mj_MM → Prop} {N S : Nat} {μ : mj_MM} {h0 : Nat} {v1 : Int32} {v2 : Option Nat} {v3 : Int32} {v4 : Option Nat} {v5 : Int32} {v6 : Int32} {v7 : Option Nat} {v8 : Option Nat} {v9 : Int32}
    (H : (∃ b1 : Nat, (v7 = some b1) ∧ (mj_t μ b1 = 2) ∧ ((¬ (mj_i μ b1 0) = 0 → mj_J G mY_T_passMicroseconds Ex N S 90 [(0, va_rf (some h0)), (1, .int v1), (2, va_rf v2), (3, .int v3), (4, va_rf v4), (5, .int v5), (6, .int v6), (7, va_rf v7), (8, va_rf v8), (9, .int v9)] [] μ) ∧ ((mj_i μ b1 0) = 0 → ((v2 = none → mj_J G mY_T_passMicroseconds Ex N S 90 [(0, va_rf (some h0)), (1, .int v1), (2, va_rf v2), (3, .int v3), (4, va_rf v4), (5, .int v5), (6, .int v6), (7, va_rf v7), (8, va_rf v8), (9, .int v9)] [] μ) ∧ (∀ b4 : Nat, v2 = some b4 → ((mj_t μ b4 = 3) ∧ mj_J G mY_T_passMicroseconds Ex N S 87 [(0, va_rf (some h0)), (1, .int v1), (2, va_rf v2), (3, .int v3), (4, va_rf v4), (5, .int v5), (6, .int v6), (7, va_rf v7), (9, .int (1000 + (mj_i μ b4 0)))] [] μ))))))) :
    mj_J G mY_T_passMicroseconds Ex N S 65 [(0, va_rf (some h0)), (1, .int v1), (2, va_rf v2), (3, .int v3), (4, va_rf v4), (5, .int v5), (6, .int v6), (7, va_rf v7), (8, va_rf v8), (9, .int v9)] [] μ := by
  refine mj_aload 7 md_T_passMicroseconds_65 rfl ?_
  obtain ⟨b1, hb2, H⟩ := H
  obtain ⟨ht3, H⟩ := H
  refine mj_getf (v := .int (mj_i μ b1 0)) hb2 kc_C 0 (by decide) tw_82 md_T_passMicroseconds_67 ht3 rfl ?_
  obtain ⟨H1, H2⟩ := H
  refine mj_if_ne (tgt := 90) md_T_passMicroseconds_70 (by decide) (fun hx => ?_) (fun hx => ?_)
  · replace H := H1 hx
    exact mj_lvs [0, 1, 2, 3, 4, 5, 6, 7, 8, 9] rfl H
  · replace H := H2 hx
    refine mj_aload_n 2 md_T_passMicroseconds_73 rfl ?_
    obtain ⟨H1, H2⟩ := H
    refine mj_ifnull (tgt := 90) md_T_passMicroseconds_74 (by decide) (fun hb => ?_) (fun b4 hb5 => ?_)
    · replace H := H1 hb
      exact mj_lvs [0, 1, 2, 3, 4, 5, 6, 7, 8, 9] rfl H
    · replace H := H2 b4 hb5
      refine mj_sipush (v := 1000) md_T_passMicroseconds_77 (by decide) ?_
      refine mj_aload_n 2 md_T_passMicroseconds_80 rfl ?_
      obtain ⟨ht6, H⟩ := H
      refine mj_getf (v := .int (mj_i μ b4 0)) hb5 kc_I 0 (by decide) tw_365 md_T_passMicroseconds_81 ht6 rfl ?_
      refine mj_iadd md_T_passMicroseconds_84 ?_
      refine mj_istore (lv' := [(9, .int (1000 + (mj_i μ b4 0))), (0, va_rf (some h0)), (1, .int v1), (2, va_rf v2), (3, .int v3), (4, va_rf v4), (5, .int v5), (6, .int v6), (7, va_rf v7), (8, va_rf v8)]) md_T_passMicroseconds_85 (by decide) (by first | rfl | (simp [mj_rfc]; done) | (simp [mj_rfc]; rfl)) ?_
      exact mj_lvs [1, 2, 3, 4, 5, 6, 7, 8, 0] rfl H

set_option maxRecDepth 20000 in
theorem bk_T_passMicroseconds_90 {G : mj_G} {Ex : Option Value → mj_MM → Prop} {N S : Nat} {μ : mj_MM} {h0 : Nat} {v1 : Int32} {v2 : Option Nat} {v3 : Int32} {v4 : Option Nat} {v5 : Int32} {v6 : Int32} {v7 : Option Nat} {v8 : Option Nat} {v9 : Int32}
    (H : ((v8 = none → mj_J G mY_T_passMicroseconds Ex N S 101 [(0, va_rf (some h0)), (1, .int v1), (2, va_rf v2), (3, .int v3), (4, va_rf v4), (5, .int v5), (6, .int v6), (7, va_rf v7), (9, .int v9)] [] μ) ∧ (∀ b1 : Nat, v8 = some b1 → ((mj_t μ b1 = 9) ∧ (∃ P : mj_MM → Prop, mj_M G my_K_spend mY_K_spend [va_rf (some b1), .int v1] (mj_nc μ) (mj_ns μ) μ (mj_XV P) ∧ ∀ (μ' : mj_MM), P μ' → mj_nc μ' = mj_nc μ → mj_ns μ' = mj_ns μ → mj_J G mY_T_passMicroseconds Ex N S 101 [(0, va_rf (some h0)), (1, .int v1), (2, va_rf v2), (3, .int v3), (4, va_rf v4), (5, .int v5), (6, .int v6), (7, va_rf v7), (9, .int v9)] [] μ'))))) :
    mj_J G mY_T_passMicroseconds Ex N S 90 [(0, va_rf (some h0)), (1, .int v1), (2, va_rf v2), (3, .int v3), (4, va_rf v4), (5, .int v5), (6, .int v6), (7, va_rf v7), (8, va_rf v8), (9, .int v9)] [] μ := by
  refine mj_aload 8 md_T_passMicroseconds_90 rfl ?_
  obtain ⟨H1, H2⟩ := H
  refine mj_ifnull (tgt := 101) md_T_passMicroseconds_92 (by decide) (fun hb => ?_) (fun b1 hb2 => ?_)
  · replace H := H1 hb
    exact mj_lvs [0, 1, 2, 3, 4, 5, 6, 7, 9] rfl H
  · replace H := H2 b1 hb2
    refine mj_aload 8 md_T_passMicroseconds_95 rfl ?_
    refine mj_iload_n 1 md_T_passMicroseconds_97 rfl ?_
    obtain ⟨ht3, H⟩ := H
    obtain ⟨P, hM, H⟩ := H
    exact mj_callV (n := 1) (As := [.int v1]) hb2 hM kc_K ht3 ⟨tw_544, tw_9, tw_547, ⟨by decide, by decide, by decide +kernel⟩, by decide, by decide⟩ tw_545 tw_546 rfl md_T_passMicroseconds_98 (by first | decide | (simp only [List.map_cons, List.map_nil, List.sum_cons, List.sum_nil, mj_rfc, mj_ci, mj_cl]; done) | (simp only [List.map_cons, List.map_nil, List.sum_cons, List.sum_nil, mj_rfc, mj_ci, mj_cl]; decide)) id (mj_kV (fun μ' hP e1 e2 => mj_lvs [0, 1, 2, 3, 4, 5, 6, 7, 9] rfl (H μ' hP e1 e2)))

set_option maxRecDepth 20000 in
theorem bk_T_passMicroseconds_87 {G : mj_G} {Ex : Option Value → mj_MM → Prop} {N S : Nat} {μ : mj_MM} {h0 : Nat} {v1 : Int32} {v2 : Option Nat} {v3 : Int32} {v4 : Option Nat} {v5 : Int32} {v6 : Int32} {v7 : Option Nat} {v9 : Int32}
    (H : mj_J G mY_T_passMicroseconds Ex N S 101 [(0, va_rf (some h0)), (1, .int v1), (2, va_rf v2), (3, .int v3), (4, va_rf v4), (5, .int v5), (6, .int v6), (7, va_rf v7), (9, .int v9)] [] μ) :
    mj_J G mY_T_passMicroseconds Ex N S 87 [(0, va_rf (some h0)), (1, .int v1), (2, va_rf v2), (3, .int v3), (4, va_rf v4), (5, .int v5), (6, .int v6), (7, va_rf v7), (9, .int v9)] [] μ := by
  refine mj_goto (tgt := 101) md_T_passMicroseconds_87 (by decide) ?_
  exact mj_lvs [0, 1, 2, 3, 4, 5, 6, 7, 8] rfl H

set_option maxRecDepth 20000 in
theorem bk_T_passMicroseconds_101 {G : mj_G} {Ex : Option Value → mj_MM → Prop} {N S : Nat} {μ : mj_MM} {h0 : Nat} {v1 : Int32} {v2 : Option Nat} {v3 : Int32} {v4 : Option Nat} {v5 : Int32} {v6 : Int32} {v7 : Option Nat} {v9 : Int32}
    (H : (∃ b1 : Nat, (v7 = some b1) ∧ (mj_t μ b1 = 2) ∧ ((v9 = (mj_i μ b1 5) → mj_J G mY_T_passMicroseconds Ex N S 143 [(0, va_rf (some h0)), (1, .int v1), (2, va_rf v2), (3, .int v3), (4, va_rf v4), (5, .int v5), (6, .int v6)] [] μ) ∧ (¬ v9 = (mj_i μ b1 5) → ((mj_t μ h0 = 1) ∧ (∃ (N' S' : Nat) (P : mj_MM → Prop), mj_M G my_C_noteWho mY_C_noteWho [va_rf (some b1), .int (mj_i μ h0 12), .int v9] N' S' μ (mj_XV P) ∧ (N' ≤ N ∧ S' ≤ S) ∧ ∀ (μ' : mj_MM), P μ' → mj_nc μ' = N' → mj_ns μ' = S' → mj_J G mY_T_passMicroseconds Ex N S 122 [(0, va_rf (some h0)), (1, .int v1), (2, va_rf v2), (3, .int v3), (4, va_rf v4), (5, .int v5), (6, .int v6), (7, va_rf v7), (9, .int v9)] [] μ')))))) :
    mj_J G mY_T_passMicroseconds Ex N S 101 [(0, va_rf (some h0)), (1, .int v1), (2, va_rf v2), (3, .int v3), (4, va_rf v4), (5, .int v5), (6, .int v6), (7, va_rf v7), (9, .int v9)] [] μ := by
  refine mj_iload 8 md_T_passMicroseconds_101 rfl ?_
  refine mj_aload 7 md_T_passMicroseconds_103 rfl ?_
  obtain ⟨b1, hb2, H⟩ := H
  obtain ⟨ht3, H⟩ := H
  refine mj_getf (v := .int (mj_i μ b1 5)) hb2 kc_C 5 (by decide) tw_89 md_T_passMicroseconds_105 ht3 rfl ?_
  obtain ⟨H1, H2⟩ := H
  refine mj_icmp_eq (tgt := 143) md_T_passMicroseconds_108 (by decide) (fun hx => ?_) (fun hx => ?_)
  · replace H := H1 hx
    exact mj_lvs [0, 1, 2, 3, 4, 5, 6] rfl H
  · replace H := H2 hx
    refine mj_aload 7 md_T_passMicroseconds_111 rfl ?_
    refine mj_aload_n 0 md_T_passMicroseconds_113 rfl ?_
    obtain ⟨ht4, H⟩ := H
    refine mj_getf (v := .int (mj_i μ h0 12)) rfl kc_T 12 (by decide) tw_149 md_T_passMicroseconds_114 ht4 rfl ?_
    refine mj_iload 8 md_T_passMicroseconds_117 rfl ?_
    obtain ⟨N', S', P, hM, hNS, H⟩ := H
    exact mj_callV (n := 2) (As := [.int (mj_i μ h0 12), .int v9]) hb2 hM kc_C ht3 ⟨tw_548, tw_5, tw_551, ⟨by decide, by decide, by decide +kernel⟩, by decide, by decide⟩ tw_549 tw_550 rfl md_T_passMicroseconds_119 (by first | decide | (simp only [List.map_cons, List.map_nil, List.sum_cons, List.sum_nil, mj_rfc, mj_ci, mj_cl]; done) | (simp only [List.map_cons, List.map_nil, List.sum_cons, List.sum_nil, mj_rfc, mj_ci, mj_cl]; decide)) (fun _ => hNS) (mj_kV (fun μ' hP e1 e2 => mj_lvs [0, 1, 2, 3, 4, 5, 6, 7, 8] rfl (H μ' hP e1 e2)))

set_option maxRecDepth 20000 in
theorem bk_T_passMicroseconds_143 {G : mj_G} {Ex : Option Value → mj_MM → Prop} {N S : Nat} {μ : mj_MM} {h0 : Nat} {v1 : Int32} {v2 : Option Nat} {v3 : Int32} {v4 : Option Nat} {v5 : Int32} {v6 : Int32}
    (H : mj_J G mY_T_passMicroseconds Ex N S 28 [(0, va_rf (some h0)), (1, .int v1), (2, va_rf v2), (3, .int v3), (4, va_rf v4), (5, .int v5), (6, .int (v6 + 1))] [] μ) :
    mj_J G mY_T_passMicroseconds Ex N S 143 [(0, va_rf (some h0)), (1, .int v1), (2, va_rf v2), (3, .int v3), (4, va_rf v4), (5, .int v5), (6, .int v6)] [] μ := by
  refine mj_iinc (j := 6) (v := v6 + 1) (lv' := [(6, .int (v6 + 1)), (0, va_rf (some h0)), (1, .int v1), (2, va_rf v2), (3, .int v3), (4, va_rf v4), (5, .int v5)]) md_T_passMicroseconds_143 rfl rfl (by decide) (by first | rfl | (simp [mj_rfc]; done) | (simp [mj_rfc]; rfl)) ?_
  refine mj_goto (tgt := 28) md_T_passMicroseconds_146 (by decide) ?_
  exact mj_lvs [1, 2, 3, 4, 5, 6, 0] rfl H

set_option maxRecDepth 20000 in
theorem bk_T_passMicroseconds_122 {G : mj_G} {Ex : Option Value → mj_MM → Prop} {N S : Nat} {μ : mj_MM} {h0 : Nat} {v1 : Int32} {v2 : Option Nat} {v3 : Int32} {v4 : Option Nat} {v5 : Int32} {v6 : Int32} {v7 : Option Nat} {v9 : Int32}
    (H : ((mj_t μ h0 = 1) ∧ ∃ b2 : Nat, (v7 = some b2) ∧ (mj_t μ b2 = 2) ∧ ∃ b5 : Nat, (mj_r μ h0 6 = some b5) ∧ (mj_t μ b5 = 6) ∧ (∃ (N' S' : Nat) (P : mj_MM → Prop), mj_M G my_G_add mY_G_add [va_rf (some b5), .int (mj_i μ h0 12), .int (mj_i μ b2 0), .int v9] N' S' μ (mj_XV P) ∧ (N' ≤ N ∧ S' ≤ S) ∧ ∀ (μ' : mj_MM), P μ' → mj_nc μ' = N' → mj_ns μ' = S' → mj_J G mY_T_passMicroseconds Ex N S 140 [(0, va_rf (some h0)), (1, .int v1), (2, va_rf v2), (3, .int v3), (4, va_rf v4), (5, .int v5), (6, .int v6)] [] μ'))) :
    mj_J G mY_T_passMicroseconds Ex N S 122 [(0, va_rf (some h0)), (1, .int v1), (2, va_rf v2), (3, .int v3), (4, va_rf v4), (5, .int v5), (6, .int v6), (7, va_rf v7), (9, .int v9)] [] μ := by
  refine mj_aload_n 0 md_T_passMicroseconds_122 rfl ?_
  obtain ⟨ht1, H⟩ := H
  refine mj_getf (v := va_rf (mj_r μ h0 6)) rfl kc_T 6 (by decide) tw_143 md_T_passMicroseconds_123 ht1 rfl ?_
  refine mj_aload_n 0 md_T_passMicroseconds_126 rfl ?_
  refine mj_getf (v := .int (mj_i μ h0 12)) rfl kc_T 12 (by decide) tw_149 md_T_passMicroseconds_127 ht1 rfl ?_
  refine mj_aload 7 md_T_passMicroseconds_130 rfl ?_
  obtain ⟨b2, hb3, H⟩ := H
  obtain ⟨ht4, H⟩ := H
  refine mj_getf (v := .int (mj_i μ b2 0)) hb3 kc_C 0 (by decide) tw_82 md_T_passMicroseconds_132 ht4 rfl ?_
  refine mj_iload 8 md_T_passMicroseconds_135 rfl ?_
  obtain ⟨b5, hb6, H⟩ := H
  obtain ⟨ht7, H⟩ := H
  obtain ⟨N', S', P, hM, hNS, H⟩ := H
  exact mj_callV (n := 3) (As := [.int (mj_i μ h0 12), .int (mj_i μ b2 0), .int v9]) hb6 hM kc_G ht7 ⟨tw_409, tw_3, tw_412, ⟨by decide, by decide, by decide +kernel⟩, by decide, by decide⟩ tw_410 tw_411 rfl md_T_passMicroseconds_137 (by first | decide | (simp only [List.map_cons, List.map_nil, List.sum_cons, List.sum_nil, mj_rfc, mj_ci, mj_cl]; done) | (simp only [List.map_cons, List.map_nil, List.sum_cons, List.sum_nil, mj_rfc, mj_ci, mj_cl]; decide)) (fun _ => hNS) (mj_kV (fun μ' hP e1 e2 => mj_lvs [0, 1, 2, 3, 4, 5, 6] rfl (H μ' hP e1 e2)))

set_option maxRecDepth 20000 in
theorem bk_T_passMicroseconds_140 {G : mj_G} {Ex : Option Value → mj_MM → Prop} {N S : Nat} {μ : mj_MM} {h0 : Nat} {v1 : Int32} {v2 : Option Nat} {v3 : Int32} {v4 : Option Nat} {v5 : Int32} {v6 : Int32}
    (H : mj_J G mY_T_passMicroseconds Ex N S 143 [(0, va_rf (some h0)), (1, .int v1), (2, va_rf v2), (3, .int (v3 + 1)), (4, va_rf v4), (5, .int v5), (6, .int v6)] [] μ) :
    mj_J G mY_T_passMicroseconds Ex N S 140 [(0, va_rf (some h0)), (1, .int v1), (2, va_rf v2), (3, .int v3), (4, va_rf v4), (5, .int v5), (6, .int v6)] [] μ := by
  refine mj_iinc (j := 3) (v := v3 + 1) (lv' := [(3, .int (v3 + 1)), (0, va_rf (some h0)), (1, .int v1), (2, va_rf v2), (4, va_rf v4), (5, .int v5), (6, .int v6)]) md_T_passMicroseconds_140 rfl rfl (by decide) (by first | rfl | (simp [mj_rfc]; done) | (simp [mj_rfc]; rfl)) ?_
  exact mj_lvs [1, 2, 3, 0, 4, 5, 6] rfl H
