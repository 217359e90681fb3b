set_option maxRecDepth 20000 in
theorem bk_M_init_0 {G : mj_G} {Ex : Option Value → mj_MM → Prop} {N S : Nat} {μ : mj_MM} {h0 : Nat} {v1 : Int32}
    (H : ((mj_nc μ + 1 ≤ N ∧ mj_ns μ + 101 ≤ S) ∧ ∀ a2 : Nat, mj_t μ a2 = 0 → (mj_t (mj_new μ a2 1000 101 101) h0 = 11) ∧ (mj_nc μ + 1 + 1 ≤ N ∧ mj_ns μ + 101 + 101 ≤ S) ∧ ∀ a7 : Nat, mj_t (mj_new μ a2 1000 101 101) a7 = 0 → (mj_nc μ + 1 + 1 + 1 ≤ N ∧ mj_ns μ + 101 + 101 + 101 ≤ S) ∧ ∀ a13 : Nat, mj_t (mj_new (mj_new μ a2 1000 101 101) a7 1000 101 101) a13 = 0 → (mj_nc μ + 1 + 1 + 1 + 1 ≤ N ∧ mj_ns μ + 101 + 101 + 101 + 101 ≤ S) ∧ ∀ a20 : Nat, mj_t (mj_new (mj_new (mj_new μ a2 1000 101 101) a7 1000 101 101) a13 1000 101 101) a20 = 0 → mj_J G mY_M_init Ex N S 36 [(0, va_rf (some h0)), (1, .int v1)] [] (mj_pR (mj_new (mj_pR (mj_new (mj_pR (mj_new (mj_pR (mj_new μ a2 1000 101 101) h0 2 (some a2)) a7 1000 101 101) h0 3 (some a7)) a13 1000 101 101) h0 4 (some a13)) a20 1002 101 101) h0 5 (some a20)))) :
    mj_J G mY_M_init Ex N S 0 [(0, va_rf (some h0)), (1, .int v1)] [] μ := by
  refine mj_aload_n 0 md_M_init_0 rfl ?_
  refine mj_objInit rfl tw_621 tw_19 tw_20 md_M_init_1 (by decide) (by first | decide | (simp only [List.map_cons, List.map_nil, List.sum_cons, List.sum_nil, mj_rfc, mj_ci, mj_cl]; done) | (simp only [List.map_cons, List.map_nil, List.sum_cons, List.sum_nil, mj_rfc, mj_ci, mj_cl]; decide)) ?_
  refine mj_aload_n 0 md_M_init_4 rfl ?_
  refine mj_bipush (v := 101) md_M_init_5 (by decide) ?_
  obtain ⟨hn1, H⟩ := H
  refine mj_newa (t := 0) rfl rfl rfl tw_759 md_M_init_7 rfl (by decide) (by decide) hn1.1 hn1.2 (fun a2 ha3 => ?_)
  replace H := H a2 ha3
  have ht4 : mj_t (mj_new μ a2 1000 101 101) a2 = 1000 := mj_tn
  obtain ⟨ht5, H⟩ := H
  refine mj_putR rfl kc_M 2 (by decide) rfl tw_625 md_M_init_9 (Or.inr ⟨rfl, rfl, rfl⟩) ht5 ?_
  refine mj_aload_n 0 md_M_init_12 rfl ?_
  refine mj_bipush (v := 101) md_M_init_13 (by decide) ?_
  obtain ⟨hn6, H⟩ := H
  refine mj_newa (t := 0) rfl rfl rfl tw_759 md_M_init_15 rfl (by decide) (by decide) hn6.1 hn6.2 (fun a7 ha8 => ?_)
  replace H := H a7 ha8
  have ht9 : mj_t (mj_new (mj_new μ a2 1000 101 101) a7 1000 101 101) a2 = 1000 := mj_tk ht4 (by decide) ha8
  have ht10 : mj_t (mj_new (mj_new μ a2 1000 101 101) a7 1000 101 101) h0 = 11 := mj_tk ht5 (by decide) ha8
  have ht11 : mj_t (mj_new (mj_new μ a2 1000 101 101) a7 1000 101 101) a7 = 1000 := mj_tn
  refine mj_putR rfl kc_M 3 (by decide) rfl tw_626 md_M_init_17 (Or.inr ⟨rfl, rfl, rfl⟩) ht10 ?_
  refine mj_aload_n 0 md_M_init_20 rfl ?_
  refine mj_bipush (v := 101) md_M_init_21 (by decide) ?_
  obtain ⟨hn12, H⟩ := H
  refine mj_newa (t := 0) rfl rfl rfl tw_759 md_M_init_23 rfl (by decide) (by decide) hn12.1 hn12.2 (fun a13 ha14 => ?_)
  replace H := H a13 ha14
  have ht15 : mj_t (mj_new (mj_new (mj_new μ a2 1000 101 101) a7 1000 101 101) a13 1000 101 101) a2 = 1000 := mj_tk ht9 (by decide) ha14
  have ht16 : mj_t (mj_new (mj_new (mj_new μ a2 1000 101 101) a7 1000 101 101) a13 1000 101 101) h0 = 11 := mj_tk ht10 (by decide) ha14
  have ht17 : mj_t (mj_new (mj_new (mj_new μ a2 1000 101 101) a7 1000 101 101) a13 1000 101 101) a7 = 1000 := mj_tk ht11 (by decide) ha14
  have ht18 : mj_t (mj_new (mj_new (mj_new μ a2 1000 101 101) a7 1000 101 101) a13 1000 101 101) a13 = 1000 := mj_tn
  refine mj_putR rfl kc_M 4 (by decide) rfl tw_627 md_M_init_25 (Or.inr ⟨rfl, rfl, rfl⟩) ht16 ?_
  refine mj_aload_n 0 md_M_init_28 rfl ?_
  refine mj_bipush (v := 101) md_M_init_29 (by decide) ?_
  obtain ⟨hn19, H⟩ := H
  refine mj_newa (t := 2) rfl rfl rfl tw_760 md_M_init_31 rfl (by decide) (by decide) hn19.1 hn19.2 (fun a20 ha21 => ?_)
  replace H := H a20 ha21
  have ht22 : mj_t (mj_new (mj_new (mj_new (mj_new μ a2 1000 101 101) a7 1000 101 101) a13 1000 101 101) a20 1002 101 101) a2 = 1000 := mj_tk ht15 (by decide) ha21
  have ht23 : mj_t (mj_new (mj_new (mj_new (mj_new μ a2 1000 101 101) a7 1000 101 101) a13 1000 101 101) a20 1002 101 101) h0 = 11 := mj_tk ht16 (by decide) ha21
  have ht24 : mj_t (mj_new (mj_new (mj_new (mj_new μ a2 1000 101 101) a7 1000 101 101) a13 1000 101 101) a20 1002 101 101) a7 = 1000 := mj_tk ht17 (by decide) ha21
  have ht25 : mj_t (mj_new (mj_new (mj_new (mj_new μ a2 1000 101 101) a7 1000 101 101) a13 1000 101 101) a20 1002 101 101) a13 = 1000 := mj_tk ht18 (by decide) ha21
  have ht26 : mj_t (mj_new (mj_new (mj_new (mj_new μ a2 1000 101 101) a7 1000 101 101) a13 1000 101 101) a20 1002 101 101) a20 = 1002 := mj_tn
  refine mj_putR rfl kc_M 5 (by decide) rfl tw_628 md_M_init_33 (Or.inr ⟨rfl, rfl, rfl⟩) ht23 ?_
  exact mj_lvs [0, 1] rfl H

set_option maxRecDepth 20000 in
theorem bk_M_init_36 {G : mj_G} {Ex : Option Value → mj_MM → Prop} {N S : Nat} {μ : mj_MM} {h0 : Nat} {v1 : Int32}
    (H : ((mj_nc μ + 1 ≤ N ∧ mj_ns μ + 101 ≤ S) ∧ ∀ a2 : Nat, mj_t μ a2 = 0 → (mj_t (mj_new μ a2 1002 101 101) h0 = 11) ∧ (mj_nc μ + 1 + 1 ≤ N ∧ mj_ns μ + 101 + 500 ≤ S) ∧ ∀ a7 : Nat, mj_t (mj_new μ a2 1002 101 101) a7 = 0 → (mj_nc μ + 1 + 1 + 1 ≤ N ∧ mj_ns μ + 101 + 500 + 500 ≤ S) ∧ ∀ a13 : Nat, mj_t (mj_new (mj_new μ a2 1002 101 101) a7 1000 500 500) a13 = 0 → (mj_nc μ + 1 + 1 + 1 + 1 ≤ N ∧ mj_ns μ + 101 + 500 + 500 + 500 ≤ S) ∧ ∀ a20 : Nat, mj_t (mj_new (mj_new (mj_new μ a2 1002 101 101) a7 1000 500 500) a13 1000 500 500) a20 = 0 → mj_J G mY_M_init Ex N S 71 [(0, va_rf (some h0)), (1, .int v1)] [] (mj_pR (mj_new (mj_pR (mj_new (mj_pR (mj_new (mj_pR (mj_new μ a2 1002 101 101) h0 6 (some a2)) a7 1000 500 500) h0 8 (some a7)) a13 1000 500 500) h0 9 (some a13)) a20 1001 500 500) h0 10 (some a20)))) :
    mj_J G mY_M_init Ex N S 36 [(0, va_rf (some h0)), (1, .int v1)] [] μ := by
  refine mj_aload_n 0 md_M_init_36 rfl ?_
  refine mj_bipush (v := 101) md_M_init_37 (by decide) ?_
  obtain ⟨hn1, H⟩ := H
  refine mj_newa (t := 2) rfl rfl rfl tw_760 md_M_init_39 rfl (by decide) (by decide) hn1.1 hn1.2 (fun a2 ha3 => ?_)
  replace H := H a2 ha3
  have ht4 : mj_t (mj_new μ a2 1002 101 101) a2 = 1002 := mj_tn
  obtain ⟨ht5, H⟩ := H
  refine mj_putR rfl kc_M 6 (by decide) rfl tw_629 md_M_init_41 (Or.inr ⟨rfl, rfl, rfl⟩) ht5 ?_
  refine mj_aload_n 0 md_M_init_44 rfl ?_
  refine mj_sipush (v := 500) md_M_init_45 (by decide) ?_
  obtain ⟨hn6, H⟩ := H
  refine mj_newa (t := 0) rfl rfl rfl tw_759 md_M_init_48 rfl (by decide) (by decide) hn6.1 hn6.2 (fun a7 ha8 => ?_)
  replace H := H a7 ha8
  have ht9 : mj_t (mj_new (mj_new μ a2 1002 101 101) a7 1000 500 500) a2 = 1002 := mj_tk ht4 (by decide) ha8
  have ht10 : mj_t (mj_new (mj_new μ a2 1002 101 101) a7 1000 500 500) h0 = 11 := mj_tk ht5 (by decide) ha8
  have ht11 : mj_t (mj_new (mj_new μ a2 1002 101 101) a7 1000 500 500) a7 = 1000 := mj_tn
  refine mj_putR rfl kc_M 8 (by decide) rfl tw_631 md_M_init_50 (Or.inr ⟨rfl, rfl, rfl⟩) ht10 ?_
  refine mj_aload_n 0 md_M_init_53 rfl ?_
  refine mj_sipush (v := 500) md_M_init_54 (by decide) ?_
  obtain ⟨hn12, H⟩ := H
  refine mj_newa (t := 0) rfl rfl rfl tw_759 md_M_init_57 rfl (by decide) (by decide) hn12.1 hn12.2 (fun a13 ha14 => ?_)
  replace H := H a13 ha14
  have ht15 : mj_t (mj_new (mj_new (mj_new μ a2 1002 101 101) a7 1000 500 500) a13 1000 500 500) a2 = 1002 := mj_tk ht9 (by decide) ha14
  have ht16 : mj_t (mj_new (mj_new (mj_new μ a2 1002 101 101) a7 1000 500 500) a13 1000 500 500) h0 = 11 := mj_tk ht10 (by decide) ha14
  have ht17 : mj_t (mj_new (mj_new (mj_new μ a2 1002 101 101) a7 1000 500 500) a13 1000 500 500) a7 = 1000 := mj_tk ht11 (by decide) ha14
  have ht18 : mj_t (mj_new (mj_new (mj_new μ a2 1002 101 101) a7 1000 500 500) a13 1000 500 500) a13 = 1000 := mj_tn
  refine mj_putR rfl kc_M 9 (by decide) rfl tw_632 md_M_init_59 (Or.inr ⟨rfl, rfl, rfl⟩) ht16 ?_
  refine mj_aload_n 0 md_M_init_62 rfl ?_
  refine mj_sipush (v := 500) md_M_init_63 (by decide) ?_
  obtain ⟨hn19, H⟩ := H
  refine mj_newa (t := 1) rfl rfl rfl tw_557 md_M_init_66 rfl (by decide) (by decide) hn19.1 hn19.2 (fun a20 ha21 => ?_)
  replace H := H a20 ha21
  have ht22 : mj_t (mj_new (mj_new (mj_new (mj_new μ a2 1002 101 101) a7 1000 500 500) a13 1000 500 500) a20 1001 500 500) a2 = 1002 := mj_tk ht15 (by decide) ha21
  have ht23 : mj_t (mj_new (mj_new (mj_new (mj_new μ a2 1002 101 101) a7 1000 500 500) a13 1000 500 500) a20 1001 500 500) h0 = 11 := mj_tk ht16 (by decide) ha21
  have ht24 : mj_t (mj_new (mj_new (mj_new (mj_new μ a2 1002 101 101) a7 1000 500 500) a13 1000 500 500) a20 1001 500 500) a7 = 1000 := mj_tk ht17 (by decide) ha21
  have ht25 : mj_t (mj_new (mj_new (mj_new (mj_new μ a2 1002 101 101) a7 1000 500 500) a13 1000 500 500) a20 1001 500 500) a13 = 1000 := mj_tk ht18 (by decide) ha21
  have ht26 : mj_t (mj_new (mj_new (mj_new (mj_new μ a2 1002 101 101) a7 1000 500 500) a13 1000 500 500) a20 1001 500 500) a20 = 1001 := mj_tn
  refine mj_putR rfl kc_M 10 (by decide) rfl tw_633 md_M_init_68 (Or.inr ⟨rfl, rfl, rfl⟩) ht23 ?_
  exact mj_lvs [0, 1] rfl H

set_option maxRecDepth 20000 in
theorem bk_M_init_71 {G : mj_G} {Ex : Option Value → mj_MM → Prop} {N S : Nat} {μ : mj_MM} {h0 : Nat} {v1 : Int32}
    (H : ((mj_nc μ + 1 ≤ N ∧ mj_ns μ + 101 ≤ S) ∧ ∀ a2 : Nat, mj_t μ a2 = 0 → (mj_t (mj_new μ a2 1000 101 101) h0 = 11) ∧ (mj_nc μ + 1 + 1 ≤ N ∧ mj_ns μ + 101 + 101 ≤ S) ∧ ∀ a7 : Nat, mj_t (mj_new μ a2 1000 101 101) a7 = 0 → (mj_nc μ + 1 + 1 + 1 ≤ N ∧ mj_ns μ + 101 + 101 + 101 ≤ S) ∧ ∀ a13 : Nat, mj_t (mj_new (mj_new μ a2 1000 101 101) a7 1001 101 101) a13 = 0 → (mj_nc μ + 1 + 1 + 1 + 1 ≤ N ∧ mj_ns μ + 101 + 101 + 101 + 101 ≤ S) ∧ ∀ a20 : Nat, mj_t (mj_new (mj_new (mj_new μ a2 1000 101 101) a7 1001 101 101) a13 1000 101 101) a20 = 0 → mj_J G mY_M_init Ex N S 103 [(0, va_rf (some h0)), (1, .int v1)] [] (mj_pR (mj_new (mj_pR (mj_new (mj_pR (mj_new (mj_pR (mj_new μ a2 1000 101 101) h0 11 (some a2)) a7 1001 101 101) h0 12 (some a7)) a13 1000 101 101) h0 13 (some a13)) a20 1000 101 101) h0 14 (some a20)))) :
    mj_J G mY_M_init Ex N S 71 [(0, va_rf (some h0)), (1, .int v1)] [] μ := by
  refine mj_aload_n 0 md_M_init_71 rfl ?_
  refine mj_bipush (v := 101) md_M_init_72 (by decide) ?_
  obtain ⟨hn1, H⟩ := H
  refine mj_newa (t := 0) rfl rfl rfl tw_759 md_M_init_74 rfl (by decide) (by decide) hn1.1 hn1.2 (fun a2 ha3 => ?_)
  replace H := H a2 ha3
  have ht4 : mj_t (mj_new μ a2 1000 101 101) a2 = 1000 := mj_tn
  obtain ⟨ht5, H⟩ := H
  refine mj_putR rfl kc_M 11 (by decide) rfl tw_634 md_M_init_76 (Or.inr ⟨rfl, rfl, rfl⟩) ht5 ?_
  refine mj_aload_n 0 md_M_init_79 rfl ?_
  refine mj_bipush (v := 101) md_M_init_80 (by decide) ?_
  obtain ⟨hn6, H⟩ := H
  refine mj_newa (t := 1) rfl rfl rfl tw_557 md_M_init_82 rfl (by decide) (by decide) hn6.1 hn6.2 (fun a7 ha8 => ?_)
  replace H := H a7 ha8
  have ht9 : mj_t (mj_new (mj_new μ a2 1000 101 101) a7 1001 101 101) a2 = 1000 := mj_tk ht4 (by decide) ha8
  have ht10 : mj_t (mj_new (mj_new μ a2 1000 101 101) a7 1001 101 101) h0 = 11 := mj_tk ht5 (by decide) ha8
  have ht11 : mj_t (mj_new (mj_new μ a2 1000 101 101) a7 1001 101 101) a7 = 1001 := mj_tn
  refine mj_putR rfl kc_M 12 (by decide) rfl tw_635 md_M_init_84 (Or.inr ⟨rfl, rfl, rfl⟩) ht10 ?_
  refine mj_aload_n 0 md_M_init_87 rfl ?_
  refine mj_bipush (v := 101) md_M_init_88 (by decide) ?_
  obtain ⟨hn12, H⟩ := H
  refine mj_newa (t := 0) rfl rfl rfl tw_759 md_M_init_90 rfl (by decide) (by decide) hn12.1 hn12.2 (fun a13 ha14 => ?_)
  replace H := H a13 ha14
  have ht15 : mj_t (mj_new (mj_new (mj_new μ a2 1000 101 101) a7 1001 101 101) a13 1000 101 101) a2 = 1000 := mj_tk ht9 (by decide) ha14
  have ht16 : mj_t (mj_new (mj_new (mj_new μ a2 1000 101 101) a7 1001 101 101) a13 1000 101 101) h0 = 11 := mj_tk ht10 (by decide) ha14
  have ht17 : mj_t (mj_new (mj_new (mj_new μ a2 1000 101 101) a7 1001 101 101) a13 1000 101 101) a7 = 1001 := mj_tk ht11 (by decide) ha14
  have ht18 : mj_t (mj_new (mj_new (mj_new μ a2 1000 101 101) a7 1001 101 101) a13 1000 101 101) a13 = 1000 := mj_tn
  refine mj_putR rfl kc_M 13 (by decide) rfl tw_636 md_M_init_92 (Or.inr ⟨rfl, rfl, rfl⟩) ht16 ?_
  refine mj_aload_n 0 md_M_init_95 rfl ?_
  refine mj_bipush (v := 101) md_M_init_96 (by decide) ?_
  obtain ⟨hn19, H⟩ := H
  refine mj_newa (t := 0) rfl rfl rfl tw_759 md_M_init_98 rfl (by decide) (by decide) hn19.1 hn19.2 (fun a20 ha21 => ?_)
  replace H := H a20 ha21
  have ht22 : mj_t (mj_new (mj_new (mj_new (mj_new μ a2 1000 101 101) a7 1001 101 101) a13 1000 101 101) a20 1000 101 101) a2 = 1000 := mj_tk ht15 (by decide) ha21
  have ht23 : mj_t (mj_new (mj_new (mj_new (mj_new μ a2 1000 101 101) a7 1001 101 101) a13 1000 101 101) a20 1000 101 101) h0 = 11 := mj_tk ht16 (by decide) ha21
  have ht24 : mj_t (mj_new (mj_new (mj_new (mj_new μ a2 1000 101 101) a7 1001 101 101) a13 1000 101 101) a20 1000 101 101) a7 = 1001 := mj_tk ht17 (by decide) ha21
  have ht25 : mj_t (mj_new (mj_new (mj_new (mj_new μ a2 1000 101 101) a7 1001 101 101) a13 1000 101 101) a20 1000 101 101) a13 = 1000 := mj_tk ht18 (by decide) ha21
  have ht26 : mj_t (mj_new (mj_new (mj_new (mj_new μ a2 1000 101 101) a7 1001 101 101) a13 1000 101 101) a20 1000 101 101) a20 = 1000 := mj_tn
  refine mj_putR rfl kc_M 14 (by decide) rfl tw_637 md_M_init_100 (Or.inr ⟨rfl, rfl, rfl⟩) ht23 ?_
  exact mj_lvs [0, 1] rfl H

set_option maxRecDepth 20000 in
theorem bk_M_init_103 {G : mj_G} {Ex : Option Value → mj_MM → Prop} {N S : Nat} {μ : mj_MM} {h0 : Nat} {v1 : Int32}
    (H : ((mj_nc μ + 1 ≤ N ∧ mj_ns μ + 101 ≤ S) ∧ ∀ a2 : Nat, mj_t μ a2 = 0 → (mj_t (mj_new μ a2 1001 101 101) h0 = 11) ∧ (mj_nc μ + 1 + 1 ≤ N ∧ mj_ns μ + 101 + 101 ≤ S) ∧ ∀ a7 : Nat, mj_t (mj_new μ a2 1001 101 101) a7 = 0 → (mj_nc μ + 1 + 1 + 1 ≤ N ∧ mj_ns μ + 101 + 101 + 101 ≤ S) ∧ ∀ a13 : Nat, mj_t (mj_new (mj_new μ a2 1001 101 101) a7 1002 101 101) a13 = 0 → (mj_nc μ + 1 + 1 + 1 + 1 ≤ N ∧ mj_ns μ + 101 + 101 + 101 + 101 ≤ S) ∧ ∀ a20 : Nat, mj_t (mj_new (mj_new (mj_new μ a2 1001 101 101) a7 1002 101 101) a13 1000 101 101) a20 = 0 → mj_J G mY_M_init Ex N S 135 [(0, va_rf (some h0)), (1, .int v1)] [] (mj_pR (mj_new (mj_pR (mj_new (mj_pR (mj_new (mj_pR (mj_new μ a2 1001 101 101) h0 15 (some a2)) a7 1002 101 101) h0 16 (some a7)) a13 1000 101 101) h0 17 (some a13)) a20 1000 101 101) h0 18 (some a20)))) :
    mj_J G mY_M_init Ex N S 103 [(0, va_rf (some h0)), (1, .int v1)] [] μ := by
  refine mj_aload_n 0 md_M_init_103 rfl ?_
  refine mj_bipush (v := 101) md_M_init_104 (by decide) ?_
  obtain ⟨hn1, H⟩ := H
  refine mj_newa (t := 1) rfl rfl rfl tw_557 md_M_init_106 rfl (by decide) (by decide) hn1.1 hn1.2 (fun a2 ha3 => ?_)
  replace H := H a2 ha3
  have ht4 : mj_t (mj_new μ a2 1001 101 101) a2 = 1001 := mj_tn
  obtain ⟨ht5, H⟩ := H
  refine mj_putR rfl kc_M 15 (by decide) rfl tw_638 md_M_init_108 (Or.inr ⟨rfl, rfl, rfl⟩) ht5 ?_
  refine mj_aload_n 0 md_M_init_111 rfl ?_
  refine mj_bipush (v := 101) md_M_init_112 (by decide) ?_
  obtain ⟨hn6, H⟩ := H
  refine mj_newa (t := 2) rfl rfl rfl tw_760 md_M_init_114 rfl (by decide) (by decide) hn6.1 hn6.2 (fun a7 ha8 => ?_)
  replace H := H a7 ha8
  have ht9 : mj_t (mj_new (mj_new μ a2 1001 101 101) a7 1002 101 101) a2 = 1001 := mj_tk ht4 (by decide) ha8
  have ht10 : mj_t (mj_new (mj_new μ a2 1001 101 101) a7 1002 101 101) h0 = 11 := mj_tk ht5 (by decide) ha8
  have ht11 : mj_t (mj_new (mj_new μ a2 1001 101 101) a7 1002 101 101) a7 = 1002 := mj_tn
  refine mj_putR rfl kc_M 16 (by decide) rfl tw_639 md_M_init_116 (Or.inr ⟨rfl, rfl, rfl⟩) ht10 ?_
  refine mj_aload_n 0 md_M_init_119 rfl ?_
  refine mj_bipush (v := 101) md_M_init_120 (by decide) ?_
  obtain ⟨hn12, H⟩ := H
  refine mj_newa (t := 0) rfl rfl rfl tw_759 md_M_init_122 rfl (by decide) (by decide) hn12.1 hn12.2 (fun a13 ha14 => ?_)
  replace H := H a13 ha14
  have ht15 : mj_t (mj_new (mj_new (mj_new μ a2 1001 101 101) a7 1002 101 101) a13 1000 101 101) a2 = 1001 := mj_tk ht9 (by decide) ha14
  have ht16 : mj_t (mj_new (mj_new (mj_new μ a2 1001 101 101) a7 1002 101 101) a13 1000 101 101) h0 = 11 := mj_tk ht10 (by decide) ha14
  have ht17 : mj_t (mj_new (mj_new (mj_new μ a2 1001 101 101) a7 1002 101 101) a13 1000 101 101) a7 = 1002 := mj_tk ht11 (by decide) ha14
  have ht18 : mj_t (mj_new (mj_new (mj_new μ a2 1001 101 101) a7 1002 101 101) a13 1000 101 101) a13 = 1000 := mj_tn
  refine mj_putR rfl kc_M 17 (by decide) rfl tw_640 md_M_init_124 (Or.inr ⟨rfl, rfl, rfl⟩) ht16 ?_
  refine mj_aload_n 0 md_M_init_127 rfl ?_
  refine mj_bipush (v := 101) md_M_init_128 (by decide) ?_
  obtain ⟨hn19, H⟩ := H
  refine mj_newa (t := 0) rfl rfl rfl tw_759 md_M_init_130 rfl (by decide) (by decide) hn19.1 hn19.2 (fun a20 ha21 => ?_)
  replace H := H a20 ha21
  have ht22 : mj_t (mj_new (mj_new (mj_new (mj_new μ a2 1001 101 101) a7 1002 101 101) a13 1000 101 101) a20 1000 101 101) a2 = 1001 := mj_tk ht15 (by decide) ha21
  have ht23 : mj_t (mj_new (mj_new (mj_new (mj_new μ a2 1001 101 101) a7 1002 101 101) a13 1000 101 101) a20 1000 101 101) h0 = 11 := mj_tk ht16 (by decide) ha21
  have ht24 : mj_t (mj_new (mj_new (mj_new (mj_new μ a2 1001 101 101) a7 1002 101 101) a13 1000 101 101) a20 1000 101 101) a7 = 1002 := mj_tk ht17 (by decide) ha21
  have ht25 : mj_t (mj_new (mj_new (mj_new (mj_new μ a2 1001 101 101) a7 1002 101 101) a13 1000 101 101) a20 1000 101 101) a13 = 1000 := mj_tk ht18 (by decide) ha21
  have ht26 : mj_t (mj_new (mj_new (mj_new (mj_new μ a2 1001 101 101) a7 1002 101 101) a13 1000 101 101) a20 1000 101 101) a20 = 1000 := mj_tn
  refine mj_putR rfl kc_M 18 (by decide) rfl tw_641 md_M_init_132 (Or.inr ⟨rfl, rfl, rfl⟩) ht23 ?_
  exact mj_lvs [0, 1] rfl H

set_option maxRecDepth 20000 in
theorem bk_M_init_135 {G : mj_G} {Ex : Option Value → mj_MM → Prop} {N S : Nat} {μ : mj_MM} {h0 : Nat} {v1 : Int32}
    (H : ((mj_nc μ + 1 ≤ N ∧ mj_ns μ + 101 ≤ S) ∧ ∀ a2 : Nat, mj_t μ a2 = 0 → (mj_t (mj_new μ a2 1002 101 101) h0 = 11) ∧ (mj_nc μ + 1 + 1 ≤ N ∧ mj_ns μ + 101 + 101 ≤ S) ∧ ∀ a7 : Nat, mj_t (mj_new μ a2 1002 101 101) a7 = 0 → (mj_nc μ + 1 + 1 + 1 ≤ N ∧ mj_ns μ + 101 + 101 + 33 ≤ S) ∧ ∀ a13 : Nat, mj_t (mj_new (mj_new μ a2 1002 101 101) a7 1001 101 101) a13 = 0 → (mj_nc μ + 1 + 1 + 1 + 1 ≤ N ∧ mj_ns μ + 101 + 101 + 33 + 33 ≤ S) ∧ ∀ a20 : Nat, mj_t (mj_new (mj_new (mj_new μ a2 1002 101 101) a7 1001 101 101) a13 1000 33 33) a20 = 0 → mj_J G mY_M_init Ex N S 167 [(0, va_rf (some h0)), (1, .int v1)] [] (mj_pR (mj_new (mj_pR (mj_new (mj_pR (mj_new (mj_pR (mj_new μ a2 1002 101 101) h0 19 (some a2)) a7 1001 101 101) h0 20 (some a7)) a13 1000 33 33) h0 22 (some a13)) a20 1001 33 33) h0 23 (some a20)))) :
    mj_J G mY_M_init Ex N S 135 [(0, va_rf (some h0)), (1, .int v1)] [] μ := by
  refine mj_aload_n 0 md_M_init_135 rfl ?_
  refine mj_bipush (v := 101) md_M_init_136 (by decide) ?_
  obtain ⟨hn1, H⟩ := H
  refine mj_newa (t := 2) rfl rfl rfl tw_760 md_M_init_138 rfl (by decide) (by decide) hn1.1 hn1.2 (fun a2 ha3 => ?_)
  replace H := H a2 ha3
  have ht4 : mj_t (mj_new μ a2 1002 101 101) a2 = 1002 := mj_tn
  obtain ⟨ht5, H⟩ := H
  refine mj_putR rfl kc_M 19 (by decide) rfl tw_642 md_M_init_140 (Or.inr ⟨rfl, rfl, rfl⟩) ht5 ?_
  refine mj_aload_n 0 md_M_init_143 rfl ?_
  refine mj_bipush (v := 101) md_M_init_144 (by decide) ?_
  obtain ⟨hn6, H⟩ := H
  refine mj_newa (t := 1) rfl rfl rfl tw_557 md_M_init_146 rfl (by decide) (by decide) hn6.1 hn6.2 (fun a7 ha8 => ?_)
  replace H := H a7 ha8
  have ht9 : mj_t (mj_new (mj_new μ a2 1002 101 101) a7 1001 101 101) a2 = 1002 := mj_tk ht4 (by decide) ha8
  have ht10 : mj_t (mj_new (mj_new μ a2 1002 101 101) a7 1001 101 101) h0 = 11 := mj_tk ht5 (by decide) ha8
  have ht11 : mj_t (mj_new (mj_new μ a2 1002 101 101) a7 1001 101 101) a7 = 1001 := mj_tn
  refine mj_putR rfl kc_M 20 (by decide) rfl tw_643 md_M_init_148 (Or.inr ⟨rfl, rfl, rfl⟩) ht10 ?_
  refine mj_aload_n 0 md_M_init_151 rfl ?_
  refine mj_bipush (v := 33) md_M_init_152 (by decide) ?_
  obtain ⟨hn12, H⟩ := H
  refine mj_newa (t := 0) rfl rfl rfl tw_759 md_M_init_154 rfl (by decide) (by decide) hn12.1 hn12.2 (fun a13 ha14 => ?_)
  replace H := H a13 ha14
  have ht15 : mj_t (mj_new (mj_new (mj_new μ a2 1002 101 101) a7 1001 101 101) a13 1000 33 33) a2 = 1002 := mj_tk ht9 (by decide) ha14
  have ht16 : mj_t (mj_new (mj_new (mj_new μ a2 1002 101 101) a7 1001 101 101) a13 1000 33 33) h0 = 11 := mj_tk ht10 (by decide) ha14
  have ht17 : mj_t (mj_new (mj_new (mj_new μ a2 1002 101 101) a7 1001 101 101) a13 1000 33 33) a7 = 1001 := mj_tk ht11 (by decide) ha14
  have ht18 : mj_t (mj_new (mj_new (mj_new μ a2 1002 101 101) a7 1001 101 101) a13 1000 33 33) a13 = 1000 := mj_tn
  refine mj_putR rfl kc_M 22 (by decide) rfl tw_645 md_M_init_156 (Or.inr ⟨rfl, rfl, rfl⟩) ht16 ?_
  refine mj_aload_n 0 md_M_init_159 rfl ?_
  refine mj_bipush (v := 33) md_M_init_160 (by decide) ?_
  obtain ⟨hn19, H⟩ := H
  refine mj_newa (t := 1) rfl rfl rfl tw_557 md_M_init_162 rfl (by decide) (by decide) hn19.1 hn19.2 (fun a20 ha21 => ?_)
  replace H := H a20 ha21
  have ht22 : mj_t (mj_new (mj_new (mj_new (mj_new μ a2 1002 101 101) a7 1001 101 101) a13 1000 33 33) a20 1001 33 33) a2 = 1002 := mj_tk ht15 (by decide) ha21
  have ht23 : mj_t (mj_new (mj_new (mj_new (mj_new μ a2 1002 101 101) a7 1001 101 101) a13 1000 33 33) a20 1001 33 33) h0 = 11 := mj_tk ht16 (by decide) ha21
  have ht24 : mj_t (mj_new (mj_new (mj_new (mj_new μ a2 1002 101 101) a7 1001 101 101) a13 1000 33 33) a20 1001 33 33) a7 = 1001 := mj_tk ht17 (by decide) ha21
  have ht25 : mj_t (mj_new (mj_new (mj_new (mj_new μ a2 1002 101 101) a7 1001 101 101) a13 1000 33 33) a20 1001 33 33) a13 = 1000 := mj_tk ht18 (by decide) ha21
  have ht26 : mj_t (mj_new (mj_new (mj_new (mj_new μ a2 1002 101 101) a7 1001 101 101) a13 1000 33 33) a20 1001 33 33) a20 = 1001 := mj_tn
  refine mj_putR rfl kc_M 23 (by decide) rfl tw_646 md_M_init_164 (Or.inr ⟨rfl, rfl, rfl⟩) ht23 ?_
  exact mj_lvs [0, 1] rfl H

set_option maxRecDepth 20000 in
theorem bk_M_init_167 {G : mj_G} {Ex : Option Value → mj_MM → Prop} {N S : Nat} {μ : mj_MM} {h0 : Nat} {v1 : Int32}
    (H : ((mj_nc μ + 1 ≤ N ∧ mj_ns μ + 33 ≤ S) ∧ ∀ a2 : Nat, mj_t μ a2 = 0 → (mj_t (mj_new μ a2 1000 33 33) h0 = 11) ∧ (mj_nc μ + 1 + 1 ≤ N ∧ mj_ns μ + 33 + 17 ≤ S) ∧ ∀ a7 : Nat, mj_t (mj_new μ a2 1000 33 33) a7 = 0 → (mj_nc μ + 1 + 1 + 1 ≤ N ∧ mj_ns μ + 33 + 17 + 101 ≤ S) ∧ ∀ a13 : Nat, mj_t (mj_new (mj_new μ a2 1000 33 33) a7 1000 17 17) a13 = 0 → (mj_nc μ + 1 + 1 + 1 + 1 ≤ N ∧ mj_ns μ + 33 + 17 + 101 + 101 ≤ S) ∧ ∀ a20 : Nat, mj_t (mj_new (mj_new (mj_new μ a2 1000 33 33) a7 1000 17 17) a13 1000 101 101) a20 = 0 → mj_J G mY_M_init Ex N S 199 [(0, va_rf (some h0)), (1, .int v1)] [] (mj_pR (mj_new (mj_pR (mj_new (mj_pR (mj_new (mj_pR (mj_new μ a2 1000 33 33) h0 24 (some a2)) a7 1000 17 17) h0 25 (some a7)) a13 1000 101 101) h0 26 (some a13)) a20 1001 101 101) h0 27 (some a20)))) :
    mj_J G mY_M_init Ex N S 167 [(0, va_rf (some h0)), (1, .int v1)] [] μ := by
  refine mj_aload_n 0 md_M_init_167 rfl ?_
  refine mj_bipush (v := 33) md_M_init_168 (by decide) ?_
  obtain ⟨hn1, H⟩ := H
  refine mj_newa (t := 0) rfl rfl rfl tw_759 md_M_init_170 rfl (by decide) (by decide) hn1.1 hn1.2 (fun a2 ha3 => ?_)
  replace H := H a2 ha3
  have ht4 : mj_t (mj_new μ a2 1000 33 33) a2 = 1000 := mj_tn
  obtain ⟨ht5, H⟩ := H
  refine mj_putR rfl kc_M 24 (by decide) rfl tw_647 md_M_init_172 (Or.inr ⟨rfl, rfl, rfl⟩) ht5 ?_
  refine mj_aload_n 0 md_M_init_175 rfl ?_
  refine mj_bipush (v := 17) md_M_init_176 (by decide) ?_
  obtain ⟨hn6, H⟩ := H
  refine mj_newa (t := 0) rfl rfl rfl tw_759 md_M_init_178 rfl (by decide) (by decide) hn6.1 hn6.2 (fun a7 ha8 => ?_)
  replace H := H a7 ha8
  have ht9 : mj_t (mj_new (mj_new μ a2 1000 33 33) a7 1000 17 17) a2 = 1000 := mj_tk ht4 (by decide) ha8
  have ht10 : mj_t (mj_new (mj_new μ a2 1000 33 33) a7 1000 17 17) h0 = 11 := mj_tk ht5 (by decide) ha8
  have ht11 : mj_t (mj_new (mj_new μ a2 1000 33 33) a7 1000 17 17) a7 = 1000 := mj_tn
  refine mj_putR rfl kc_M 25 (by decide) rfl tw_648 md_M_init_180 (Or.inr ⟨rfl, rfl, rfl⟩) ht10 ?_
  refine mj_aload_n 0 md_M_init_183 rfl ?_
  refine mj_bipush (v := 101) md_M_init_184 (by decide) ?_
  obtain ⟨hn12, H⟩ := H
  refine mj_newa (t := 0) rfl rfl rfl tw_759 md_M_init_186 rfl (by decide) (by decide) hn12.1 hn12.2 (fun a13 ha14 => ?_)
  replace H := H a13 ha14
  have ht15 : mj_t (mj_new (mj_new (mj_new μ a2 1000 33 33) a7 1000 17 17) a13 1000 101 101) a2 = 1000 := mj_tk ht9 (by decide) ha14
  have ht16 : mj_t (mj_new (mj_new (mj_new μ a2 1000 33 33) a7 1000 17 17) a13 1000 101 101) h0 = 11 := mj_tk ht10 (by decide) ha14
  have ht17 : mj_t (mj_new (mj_new (mj_new μ a2 1000 33 33) a7 1000 17 17) a13 1000 101 101) a7 = 1000 := mj_tk ht11 (by decide) ha14
  have ht18 : mj_t (mj_new (mj_new (mj_new μ a2 1000 33 33) a7 1000 17 17) a13 1000 101 101) a13 = 1000 := mj_tn
  refine mj_putR rfl kc_M 26 (by decide) rfl tw_649 md_M_init_188 (Or.inr ⟨rfl, rfl, rfl⟩) ht16 ?_
  refine mj_aload_n 0 md_M_init_191 rfl ?_
  refine mj_bipush (v := 101) md_M_init_192 (by decide) ?_
  obtain ⟨hn19, H⟩ := H
  refine mj_newa (t := 1) rfl rfl rfl tw_557 md_M_init_194 rfl (by decide) (by decide) hn19.1 hn19.2 (fun a20 ha21 => ?_)
  replace H := H a20 ha21
  have ht22 : mj_t (mj_new (mj_new (mj_new (mj_new μ a2 1000 33 33) a7 1000 17 17) a13 1000 101 101) a20 1001 101 101) a2 = 1000 := mj_tk ht15 (by decide) ha21
  have ht23 : mj_t (mj_new (mj_new (mj_new (mj_new μ a2 1000 33 33) a7 1000 17 17) a13 1000 101 101) a20 1001 101 101) h0 = 11 := mj_tk ht16 (by decide) ha21
  have ht24 : mj_t (mj_new (mj_new (mj_new (mj_new μ a2 1000 33 33) a7 1000 17 17) a13 1000 101 101) a20 1001 101 101) a7 = 1000 := mj_tk ht17 (by decide) ha21
  have ht25 : mj_t (mj_new (mj_new (mj_new (mj_new μ a2 1000 33 33) a7 1000 17 17) a13 1000 101 101) a20 1001 101 101) a13 = 1000 := mj_tk ht18 (by decide) ha21
  have ht26 : mj_t (mj_new (mj_new (mj_new (mj_new μ a2 1000 33 33) a7 1000 17 17) a13 1000 101 101) a20 1001 101 101) a20 = 1001 := mj_tn
  refine mj_putR rfl kc_M 27 (by decide) rfl tw_650 md_M_init_196 (Or.inr ⟨rfl, rfl, rfl⟩) ht23 ?_
  exact mj_lvs [0, 1] rfl H

set_option maxRecDepth 20000 in
theorem bk_M_init_199 {G : mj_G} {Ex : Option Value → mj_MM → Prop} {N S : Nat} {μ : mj_MM} {h0 : Nat} {v1 : Int32}
    (H : ((mj_nc μ + 1 ≤ N ∧ mj_ns μ + 500 ≤ S) ∧ ∀ a2 : Nat, mj_t μ a2 = 0 → (mj_t (mj_new μ a2 1000 500 500) h0 = 11) ∧ (mj_nc μ + 1 + 1 ≤ N ∧ mj_ns μ + 500 + 500 ≤ S) ∧ ∀ a7 : Nat, mj_t (mj_new μ a2 1000 500 500) a7 = 0 → (mj_nc μ + 1 + 1 + 1 ≤ N ∧ mj_ns μ + 500 + 500 + 500 ≤ S) ∧ ∀ a13 : Nat, mj_t (mj_new (mj_new μ a2 1000 500 500) a7 1001 500 500) a13 = 0 → (mj_nc μ + 1 + 1 + 1 + 1 ≤ N ∧ mj_ns μ + 500 + 500 + 500 + 500 ≤ S) ∧ ∀ a20 : Nat, mj_t (mj_new (mj_new (mj_new μ a2 1000 500 500) a7 1001 500 500) a13 1000 500 500) a20 = 0 → mj_J G mY_M_init Ex N S 235 [(0, va_rf (some h0)), (1, .int v1)] [] (mj_pR (mj_new (mj_pR (mj_new (mj_pR (mj_new (mj_pR (mj_new μ a2 1000 500 500) h0 33 (some a2)) a7 1001 500 500) h0 34 (some a7)) a13 1000 500 500) h0 36 (some a13)) a20 1001 500 500) h0 37 (some a20)))) :
    mj_J G mY_M_init Ex N S 199 [(0, va_rf (some h0)), (1, .int v1)] [] μ := by
  refine mj_aload_n 0 md_M_init_199 rfl ?_
  refine mj_sipush (v := 500) md_M_init_200 (by decide) ?_
  obtain ⟨hn1, H⟩ := H
  refine mj_newa (t := 0) rfl rfl rfl tw_759 md_M_init_203 rfl (by decide) (by decide) hn1.1 hn1.2 (fun a2 ha3 => ?_)
  replace H := H a2 ha3
  have ht4 : mj_t (mj_new μ a2 1000 500 500) a2 = 1000 := mj_tn
  obtain ⟨ht5, H⟩ := H
  refine mj_putR rfl kc_M 33 (by decide) rfl tw_656 md_M_init_205 (Or.inr ⟨rfl, rfl, rfl⟩) ht5 ?_
  refine mj_aload_n 0 md_M_init_208 rfl ?_
  refine mj_sipush (v := 500) md_M_init_209 (by decide) ?_
  obtain ⟨hn6, H⟩ := H
  refine mj_newa (t := 1) rfl rfl rfl tw_557 md_M_init_212 rfl (by decide) (by decide) hn6.1 hn6.2 (fun a7 ha8 => ?_)
  replace H := H a7 ha8
  have ht9 : mj_t (mj_new (mj_new μ a2 1000 500 500) a7 1001 500 500) a2 = 1000 := mj_tk ht4 (by decide) ha8
  have ht10 : mj_t (mj_new (mj_new μ a2 1000 500 500) a7 1001 500 500) h0 = 11 := mj_tk ht5 (by decide) ha8
  have ht11 : mj_t (mj_new (mj_new μ a2 1000 500 500) a7 1001 500 500) a7 = 1001 := mj_tn
  refine mj_putR rfl kc_M 34 (by decide) rfl tw_657 md_M_init_214 (Or.inr ⟨rfl, rfl, rfl⟩) ht10 ?_
  refine mj_aload_n 0 md_M_init_217 rfl ?_
  refine mj_sipush (v := 500) md_M_init_218 (by decide) ?_
  obtain ⟨hn12, H⟩ := H
  refine mj_newa (t := 0) rfl rfl rfl tw_759 md_M_init_221 rfl (by decide) (by decide) hn12.1 hn12.2 (fun a13 ha14 => ?_)
  replace H := H a13 ha14
  have ht15 : mj_t (mj_new (mj_new (mj_new μ a2 1000 500 500) a7 1001 500 500) a13 1000 500 500) a2 = 1000 := mj_tk ht9 (by decide) ha14
  have ht16 : mj_t (mj_new (mj_new (mj_new μ a2 1000 500 500) a7 1001 500 500) a13 1000 500 500) h0 = 11 := mj_tk ht10 (by decide) ha14
  have ht17 : mj_t (mj_new (mj_new (mj_new μ a2 1000 500 500) a7 1001 500 500) a13 1000 500 500) a7 = 1001 := mj_tk ht11 (by decide) ha14
  have ht18 : mj_t (mj_new (mj_new (mj_new μ a2 1000 500 500) a7 1001 500 500) a13 1000 500 500) a13 = 1000 := mj_tn
  refine mj_putR rfl kc_M 36 (by decide) rfl tw_659 md_M_init_223 (Or.inr ⟨rfl, rfl, rfl⟩) ht16 ?_
  refine mj_aload_n 0 md_M_init_226 rfl ?_
  refine mj_sipush (v := 500) md_M_init_227 (by decide) ?_
  obtain ⟨hn19, H⟩ := H
  refine mj_newa (t := 1) rfl rfl rfl tw_557 md_M_init_230 rfl (by decide) (by decide) hn19.1 hn19.2 (fun a20 ha21 => ?_)
  replace H := H a20 ha21
  have ht22 : mj_t (mj_new (mj_new (mj_new (mj_new μ a2 1000 500 500) a7 1001 500 500) a13 1000 500 500) a20 1001 500 500) a2 = 1000 := mj_tk ht15 (by decide) ha21
  have ht23 : mj_t (mj_new (mj_new (mj_new (mj_new μ a2 1000 500 500) a7 1001 500 500) a13 1000 500 500) a20 1001 500 500) h0 = 11 := mj_tk ht16 (by decide) ha21
  have ht24 : mj_t (mj_new (mj_new (mj_new (mj_new μ a2 1000 500 500) a7 1001 500 500) a13 1000 500 500) a20 1001 500 500) a7 = 1001 := mj_tk ht17 (by decide) ha21
  have ht25 : mj_t (mj_new (mj_new (mj_new (mj_new μ a2 1000 500 500) a7 1001 500 500) a13 1000 500 500) a20 1001 500 500) a13 = 1000 := mj_tk ht18 (by decide) ha21
  have ht26 : mj_t (mj_new (mj_new (mj_new (mj_new μ a2 1000 500 500) a7 1001 500 500) a13 1000 500 500) a20 1001 500 500) a20 = 1001 := mj_tn
  refine mj_putR rfl kc_M 37 (by decide) rfl tw_660 md_M_init_232 (Or.inr ⟨rfl, rfl, rfl⟩) ht23 ?_
  exact mj_lvs [0, 1] rfl H

set_option maxRecDepth 20000 in
theorem bk_M_init_235 {G : mj_G} {Ex : Option Value → mj_MM → Prop} {N S : Nat} {μ : mj_MM} {h0 : Nat} {v1 : Int32}
    (H : ((mj_nc μ + 1 ≤ N ∧ mj_ns μ + 500 ≤ S) ∧ ∀ a2 : Nat, mj_t μ a2 = 0 → (mj_t (mj_new μ a2 1001 500 500) h0 = 11) ∧ (mj_nc μ + 1 + 1 ≤ N ∧ mj_ns μ + 500 + 1000 ≤ S) ∧ ∀ a7 : Nat, mj_t (mj_new μ a2 1001 500 500) a7 = 0 → (mj_nc μ + 1 + 1 + 1 ≤ N ∧ mj_ns μ + 500 + 1000 + 1000 ≤ S) ∧ ∀ a13 : Nat, mj_t (mj_new (mj_new μ a2 1001 500 500) a7 1000 1000 1000) a13 = 0 → (mj_nc μ + 1 + 1 + 1 + 1 ≤ N ∧ mj_ns μ + 500 + 1000 + 1000 + 1000 ≤ S) ∧ ∀ a20 : Nat, mj_t (mj_new (mj_new (mj_new μ a2 1001 500 500) a7 1000 1000 1000) a13 1000 1000 1000) a20 = 0 → (mj_nc μ + 1 + 1 + 1 + 1 + 1 ≤ N ∧ mj_ns μ + 500 + 1000 + 1000 + 1000 + 400000 ≤ S) ∧ ∀ a28 : Nat, mj_t (mj_new (mj_new (mj_new (mj_new μ a2 1001 500 500) a7 1000 1000 1000) a13 1000 1000 1000) a20 1001 1000 1000) a28 = 0 → ((v1 < 1 → Ex none (mj_pI (mj_pR (mj_new (mj_pR (mj_new (mj_pR (mj_new (mj_pR (mj_new (mj_pR (mj_new μ a2 1001 500 500) h0 38 (some a2)) a7 1000 1000 1000) h0 40 (some a7)) a13 1000 1000 1000) h0 41 (some a13)) a20 1001 1000 1000) h0 42 (some a20)) a28 1003 400000 400000) h0 44 (some a28)) h0 0 1)) ∧ (¬ v1 < 1 → ((v1 ≤ 8 → Ex none (mj_pI (mj_pR (mj_new (mj_pR (mj_new (mj_pR (mj_new (mj_pR (mj_new (mj_pR (mj_new μ a2 1001 500 500) h0 38 (some a2)) a7 1000 1000 1000) h0 40 (some a7)) a13 1000 1000 1000) h0 41 (some a13)) a20 1001 1000 1000) h0 42 (some a20)) a28 1003 400000 400000) h0 44 (some a28)) h0 0 v1)) ∧ (¬ v1 ≤ 8 → Ex none (mj_pI (mj_pR (mj_new (mj_pR (mj_new (mj_pR (mj_new (mj_pR (mj_new (mj_pR (mj_new μ a2 1001 500 500) h0 38 (some a2)) a7 1000 1000 1000) h0 40 (some a7)) a13 1000 1000 1000) h0 41 (some a13)) a20 1001 1000 1000) h0 42 (some a20)) a28 1003 400000 400000) h0 44 (some a28)) h0 0 1))))))) :
    mj_J G mY_M_init Ex N S 235 [(0, va_rf (some h0)), (1, .int v1)] [] μ := by
  refine mj_aload_n 0 md_M_init_235 rfl ?_
  refine mj_sipush (v := 500) md_M_init_236 (by decide) ?_
  obtain ⟨hn1, H⟩ := H
  refine mj_newa (t := 1) rfl rfl rfl tw_557 md_M_init_239 rfl (by decide) (by decide) hn1.1 hn1.2 (fun a2 ha3 => ?_)
  replace H := H a2 ha3
  have ht4 : mj_t (mj_new μ a2 1001 500 500) a2 = 1001 := mj_tn
  obtain ⟨ht5, H⟩ := H
  refine mj_putR rfl kc_M 38 (by decide) rfl tw_661 md_M_init_241 (Or.inr ⟨rfl, rfl, rfl⟩) ht5 ?_
  refine mj_aload_n 0 md_M_init_244 rfl ?_
  refine mj_sipush (v := 1000) md_M_init_245 (by decide) ?_
  obtain ⟨hn6, H⟩ := H
  refine mj_newa (t := 0) rfl rfl rfl tw_759 md_M_init_248 rfl (by decide) (by decide) hn6.1 hn6.2 (fun a7 ha8 => ?_)
  replace H := H a7 ha8
  have ht9 : mj_t (mj_new (mj_new μ a2 1001 500 500) a7 1000 1000 1000) a2 = 1001 := mj_tk ht4 (by decide) ha8
  have ht10 : mj_t (mj_new (mj_new μ a2 1001 500 500) a7 1000 1000 1000) h0 = 11 := mj_tk ht5 (by decide) ha8
  have ht11 : mj_t (mj_new (mj_new μ a2 1001 500 500) a7 1000 1000 1000) a7 = 1000 := mj_tn
  refine mj_putR rfl kc_M 40 (by decide) rfl tw_663 md_M_init_250 (Or.inr ⟨rfl, rfl, rfl⟩) ht10 ?_
  refine mj_aload_n 0 md_M_init_253 rfl ?_
  refine mj_sipush (v := 1000) md_M_init_254 (by decide) ?_
  obtain ⟨hn12, H⟩ := H
  refine mj_newa (t := 0) rfl rfl rfl tw_759 md_M_init_257 rfl (by decide) (by decide) hn12.1 hn12.2 (fun a13 ha14 => ?_)
  replace H := H a13 ha14
  have ht15 : mj_t (mj_new (mj_new (mj_new μ a2 1001 500 500) a7 1000 1000 1000) a13 1000 1000 1000) a2 = 1001 := mj_tk ht9 (by decide) ha14
  have ht16 : mj_t (mj_new (mj_new (mj_new μ a2 1001 500 500) a7 1000 1000 1000) a13 1000 1000 1000) h0 = 11 := mj_tk ht10 (by decide) ha14
  have ht17 : mj_t (mj_new (mj_new (mj_new μ a2 1001 500 500) a7 1000 1000 1000) a13 1000 1000 1000) a7 = 1000 := mj_tk ht11 (by decide) ha14
  have ht18 : mj_t (mj_new (mj_new (mj_new μ a2 1001 500 500) a7 1000 1000 1000) a13 1000 1000 1000) a13 = 1000 := mj_tn
  refine mj_putR rfl kc_M 41 (by decide) rfl tw_664 md_M_init_259 (Or.inr ⟨rfl, rfl, rfl⟩) ht16 ?_
  refine mj_aload_n 0 md_M_init_262 rfl ?_
  refine mj_sipush (v := 1000) md_M_init_263 (by decide) ?_
  obtain ⟨hn19, H⟩ := H
  refine mj_newa (t := 1) rfl rfl rfl tw_557 md_M_init_266 rfl (by decide) (by decide) hn19.1 hn19.2 (fun a20 ha21 => ?_)
  replace H := H a20 ha21
  have ht22 : mj_t (mj_new (mj_new (mj_new (mj_new μ a2 1001 500 500) a7 1000 1000 1000) a13 1000 1000 1000) a20 1001 1000 1000) a2 = 1001 := mj_tk ht15 (by decide) ha21
  have ht23 : mj_t (mj_new (mj_new (mj_new (mj_new μ a2 1001 500 500) a7 1000 1000 1000) a13 1000 1000 1000) a20 1001 1000 1000) h0 = 11 := mj_tk ht16 (by decide) ha21
  have ht24 : mj_t (mj_new (mj_new (mj_new (mj_new μ a2 1001 500 500) a7 1000 1000 1000) a13 1000 1000 1000) a20 1001 1000 1000) a7 = 1000 := mj_tk ht17 (by decide) ha21
  have ht25 : mj_t (mj_new (mj_new (mj_new (mj_new μ a2 1001 500 500) a7 1000 1000 1000) a13 1000 1000 1000) a20 1001 1000 1000) a13 = 1000 := mj_tk ht18 (by decide) ha21
  have ht26 : mj_t (mj_new (mj_new (mj_new (mj_new μ a2 1001 500 500) a7 1000 1000 1000) a13 1000 1000 1000) a20 1001 1000 1000) a20 = 1001 := mj_tn
  refine mj_putR rfl kc_M 42 (by decide) rfl tw_665 md_M_init_268 (Or.inr ⟨rfl, rfl, rfl⟩) ht23 ?_
  refine mj_aload_n 0 md_M_init_271 rfl ?_
  refine mj_ldc (v := 400000) tw_622 md_M_init_272 ?_
  obtain ⟨hn27, H⟩ := H
  refine mj_newa (t := 3) rfl rfl rfl tw_761 md_M_init_274 rfl (by decide) (by decide) hn27.1 hn27.2 (fun a28 ha29 => ?_)
  replace H := H a28 ha29
  have ht30 : mj_t (mj_new (mj_new (mj_new (mj_new (mj_new μ a2 1001 500 500) a7 1000 1000 1000) a13 1000 1000 1000) a20 1001 1000 1000) a28 1003 400000 400000) a2 = 1001 := mj_tk ht22 (by decide) ha29
  have ht31 : mj_t (mj_new (mj_new (mj_new (mj_new (mj_new μ a2 1001 500 500) a7 1000 1000 1000) a13 1000 1000 1000) a20 1001 1000 1000) a28 1003 400000 400000) h0 = 11 := mj_tk ht23 (by decide) ha29
  have ht32 : mj_t (mj_new (mj_new (mj_new (mj_new (mj_new μ a2 1001 500 500) a7 1000 1000 1000) a13 1000 1000 1000) a20 1001 1000 1000) a28 1003 400000 400000) a7 = 1000 := mj_tk ht24 (by decide) ha29
  have ht33 : mj_t (mj_new (mj_new (mj_new (mj_new (mj_new μ a2 1001 500 500) a7 1000 1000 1000) a13 1000 1000 1000) a20 1001 1000 1000) a28 1003 400000 400000) a13 = 1000 := mj_tk ht25 (by decide) ha29
  have ht34 : mj_t (mj_new (mj_new (mj_new (mj_new (mj_new μ a2 1001 500 500) a7 1000 1000 1000) a13 1000 1000 1000) a20 1001 1000 1000) a28 1003 400000 400000) a20 = 1001 := mj_tk ht26 (by decide) ha29
  have ht35 : mj_t (mj_new (mj_new (mj_new (mj_new (mj_new μ a2 1001 500 500) a7 1000 1000 1000) a13 1000 1000 1000) a20 1001 1000 1000) a28 1003 400000 400000) a28 = 1003 := mj_tn
  refine mj_putR rfl kc_M 44 (by decide) rfl tw_667 md_M_init_276 (Or.inr ⟨rfl, rfl, rfl⟩) ht31 ?_
  refine mj_aload_n 0 md_M_init_279 rfl ?_
  refine mj_iload_n 1 md_M_init_280 rfl ?_
  refine mj_iconst (v := 1) md_M_init_281 (by decide) ?_
  obtain ⟨H1, H2⟩ := H
  refine mj_icmp_lt (tgt := 291) md_M_init_282 (by decide) (fun hx => ?_) (fun hx => ?_)
  · replace H := H1 hx
    refine mj_iconst (v := 1) md_M_init_291 (by decide) ?_
    refine mj_goto (tgt := 296) md_M_init_292 (by decide) ?_
    refine mj_putI rfl kc_M 0 (by decide) rfl tw_623 md_M_init_296 (Or.inr ⟨rfl, rfl, rfl⟩) ht31 rfl rfl ?_
    exact mj_return md_M_init_299 rfl H
  · replace H := H2 hx
    refine mj_iload_n 1 md_M_init_285 rfl ?_
    refine mj_bipush (v := 8) md_M_init_286 (by decide) ?_
    obtain ⟨H1, H2⟩ := H
    refine mj_icmp_le (tgt := 295) md_M_init_288 (by decide) (fun hx => ?_) (fun hx => ?_)
    · replace H := H1 hx
      refine mj_iload_n 1 md_M_init_295 rfl ?_
      refine mj_putI rfl kc_M 0 (by decide) rfl tw_623 md_M_init_296 (Or.inr ⟨rfl, rfl, rfl⟩) ht31 rfl rfl ?_
      exact mj_return md_M_init_299 rfl H
    · replace H := H2 hx
      refine mj_iconst (v := 1) md_M_init_291 (by decide) ?_
      refine mj_goto (tgt := 296) md_M_init_292 (by decide) ?_
      refine mj_putI rfl kc_M 0 (by decide) rfl tw_623 md_M_init_296 (Or.inr ⟨rfl, rfl, rfl⟩) ht31 rfl rfl ?_
      exact mj_return md_M_init_299 rfl H

set_option maxRecDepth 20000 in
theorem bk_M_no_0 {G : mj_G} {Ex : Option Value → mj_MM → Prop} {N S : Nat} {μ : mj_MM} {h0 : Nat} {v1 : Int32}
    (H : ((v1 < 1 → Ex (some (.int 1)) μ) ∧ (¬ v1 < 1 → ((mj_t μ h0 = 11) ∧ ((v1 ≤ (mj_i μ h0 1) → Ex (some (.int 0)) μ) ∧ (¬ v1 ≤ (mj_i μ h0 1) → Ex (some (.int 1)) μ)))))) :
    mj_J G mY_M_no Ex N S 0 [(0, va_rf (some h0)), (1, .int v1)] [] μ := by
  refine mj_iload_n 1 md_M_no_0 rfl ?_
  refine mj_iconst (v := 1) md_M_no_1 (by decide) ?_
  obtain ⟨H1, H2⟩ := H
  refine mj_icmp_lt (tgt := 13) md_M_no_2 (by decide) (fun hx => ?_) (fun hx => ?_)
  · replace H := H1 hx
    refine mj_iconst (v := 1) md_M_no_13 (by decide) ?_
    refine mj_goto (tgt := 18) md_M_no_14 (by decide) ?_
    exact mj_ireturn md_M_no_18 rfl (by decide) H
  · replace H := H2 hx
    refine mj_iload_n 1 md_M_no_5 rfl ?_
    refine mj_aload_n 0 md_M_no_6 rfl ?_
    obtain ⟨ht1, H⟩ := H
    refine mj_getf (v := .int (mj_i μ h0 1)) rfl kc_M 1 (by decide) tw_624 md_M_no_7 ht1 rfl ?_
    obtain ⟨H1, H2⟩ := H
    refine mj_icmp_le (tgt := 17) md_M_no_10 (by decide) (fun hx => ?_) (fun hx => ?_)
    · replace H := H1 hx
      refine mj_iconst (v := 0) md_M_no_17 (by decide) ?_
      exact mj_ireturn md_M_no_18 rfl (by decide) H
    · replace H := H2 hx
      refine mj_iconst (v := 1) md_M_no_13 (by decide) ?_
      refine mj_goto (tgt := 18) md_M_no_14 (by decide) ?_
      exact mj_ireturn md_M_no_18 rfl (by decide) H

set_option maxRecDepth 20000 in
theorem bk_M_task_0 {G : mj_G} {Ex : Option Value → mj_MM → Prop} {N S : Nat} {μ : mj_MM} {h0 : Nat} {v1 : Int32} {v2 : Int32} {v3 : Int32} {v4 : Int32}
    (H : ((v2 < 0 → Ex (some (.int (-1))) μ) ∧ (¬ v2 < 0 → ((mj_t μ h0 = 11) ∧ ((v2 < (mj_i μ h0 0) → ((v1 < 0 → Ex (some (.int (-2))) μ) ∧ (¬ v1 < 0 → ((255 < v1 → Ex (some (.int (-2))) μ) ∧ (¬ 255 < v1 → ((v3 < 1 → Ex (some (.int (-2))) μ) ∧ (¬ v3 < 1 → ((100 < v3 → Ex (some (.int (-2))) μ) ∧ (¬ 100 < v3 → ((v4 = 0 → (((mj_l μ h0 43) ≤ 0 → ((¬ (mj_i μ h0 1) = 100 → (∃ b2 : Nat, (mj_r μ h0 2 = some b2) ∧ (mj_t μ b2 = 1000) ∧ (vp_in ((mj_i μ h0 1) + 1) (mj_n μ b2)) ∧ mj_J G mY_M_task Ex N S 93 [(0, va_rf (some h0)), (2, .int v2), (3, .int v3), (4, .int v4)] [] (mj_pI (mj_pI μ h0 1 ((mj_i μ h0 1) + 1)) b2 (Int32.toNatClampNeg ((mj_i μ h0 1) + 1)) v1))) ∧ ((mj_i μ h0 1) = 100 → Ex (some (.int (-4))) μ))) ∧ (¬ (mj_l μ h0 43) ≤ 0 → Ex (some (.int (-3))) μ))) ∧ (¬ v4 = 0 → ((v3 ≤ 1 → (((mj_l μ h0 43) ≤ 0 → ((¬ (mj_i μ h0 1) = 100 → (∃ b6 : Nat, (mj_r μ h0 2 = some b6) ∧ (mj_t μ b6 = 1000) ∧ (vp_in ((mj_i μ h0 1) + 1) (mj_n μ b6)) ∧ mj_J G mY_M_task Ex N S 93 [(0, va_rf (some h0)), (2, .int v2), (3, .int v3), (4, .int v4)] [] (mj_pI (mj_pI μ h0 1 ((mj_i μ h0 1) + 1)) b6 (Int32.toNatClampNeg ((mj_i μ h0 1) + 1)) v1))) ∧ ((mj_i μ h0 1) = 100 → Ex (some (.int (-4))) μ))) ∧ (¬ (mj_l μ h0 43) ≤ 0 → Ex (some (.int (-3))) μ))) ∧ (¬ v3 ≤ 1 → Ex (some (.int (-2))) μ))))))))))))) ∧ (¬ v2 < (mj_i μ h0 0) → Ex (some (.int (-1))) μ)))))) :
    mj_J G mY_M_task Ex N S 0 [(0, va_rf (some h0)), (1, .int v1), (2, .int v2), (3, .int v3), (4, .int v4)] [] μ := by
  refine mj_iload_n 2 md_M_task_0 rfl ?_
  obtain ⟨H1, H2⟩ := H
  refine mj_if_lt (tgt := 12) md_M_task_1 (by decide) (fun hx => ?_) (fun hx => ?_)
  · replace H := H1 hx
    refine mj_iconst (v := (-1)) md_M_task_12 (by decide) ?_
    exact mj_ireturn md_M_task_13 rfl rfl H
  · replace H := H2 hx
    refine mj_iload_n 2 md_M_task_4 rfl ?_
    refine mj_aload_n 0 md_M_task_5 rfl ?_
    obtain ⟨ht1, H⟩ := H
    refine mj_getf (v := .int (mj_i μ h0 0)) rfl kc_M 0 (by decide) tw_623 md_M_task_6 ht1 rfl ?_
    obtain ⟨H1, H2⟩ := H
    refine mj_icmp_lt (tgt := 14) md_M_task_9 (by decide) (fun hx => ?_) (fun hx => ?_)
    · replace H := H1 hx
      refine mj_iload_n 1 md_M_task_14 rfl ?_
      obtain ⟨H1, H2⟩ := H
      refine mj_if_lt (tgt := 46) md_M_task_15 (by decide) (fun hx => ?_) (fun hx => ?_)
      · replace H := H1 hx
        refine mj_bipush (v := (-2)) md_M_task_46 (by decide) ?_
        exact mj_ireturn md_M_task_48 rfl rfl H
      · replace H := H2 hx
        refine mj_iload_n 1 md_M_task_18 rfl ?_
        refine mj_sipush (v := 255) md_M_task_19 (by decide) ?_
        obtain ⟨H1, H2⟩ := H
        refine mj_icmp_gt (tgt := 46) md_M_task_22 (by decide) (fun hx => ?_) (fun hx => ?_)
        · replace H := H1 hx
          refine mj_bipush (v := (-2)) md_M_task_46 (by decide) ?_
          exact mj_ireturn md_M_task_48 rfl rfl H
        · replace H := H2 hx
          refine mj_iload_n 3 md_M_task_25 rfl ?_
          refine mj_iconst (v := 1) md_M_task_26 (by decide) ?_
          obtain ⟨H1, H2⟩ := H
          refine mj_icmp_lt (tgt := 46) md_M_task_27 (by decide) (fun hx => ?_) (fun hx => ?_)
          · replace H := H1 hx
            refine mj_bipush (v := (-2)) md_M_task_46 (by decide) ?_
            exact mj_ireturn md_M_task_48 rfl rfl H
          · replace H := H2 hx
            refine mj_iload_n 3 md_M_task_30 rfl ?_
            refine mj_bipush (v := 100) md_M_task_31 (by decide) ?_
            obtain ⟨H1, H2⟩ := H
            refine mj_icmp_gt (tgt := 46) md_M_task_33 (by decide) (fun hx => ?_) (fun hx => ?_)
            · replace H := H1 hx
              refine mj_bipush (v := (-2)) md_M_task_46 (by decide) ?_
              exact mj_ireturn md_M_task_48 rfl rfl H
            · replace H := H2 hx
              refine mj_iload 4 md_M_task_36 rfl ?_
              obtain ⟨H1, H2⟩ := H
              refine mj_if_eq (tgt := 49) md_M_task_38 (by decide) (fun hx => ?_) (fun hx => ?_)
              · replace H := H1 hx
                refine mj_aload_n 0 md_M_task_49 rfl ?_
                refine mj_getf (v := .long (mj_l μ h0 43)) rfl kc_M 43 (by decide) tw_666 md_M_task_50 ht1 rfl ?_
                refine mj_lconst (v := 0) md_M_task_53 (by decide) ?_
                refine mj_lcmp md_M_task_54 ?_
                obtain ⟨H1, H2⟩ := H
                refine mj_if_le (tgt := 61) md_M_task_55 (by decide) (fun hx => ?_) (fun hx => ?_)
                · replace H := H1 ((lg_cmp_le (mj_l μ h0 43) 0).mp hx)
                  refine mj_aload_n 0 md_M_task_61 rfl ?_
                  refine mj_getf (v := .int (mj_i μ h0 1)) rfl kc_M 1 (by decide) tw_624 md_M_task_62 ht1 rfl ?_
                  refine mj_bipush (v := 100) md_M_task_65 (by decide) ?_
                  obtain ⟨H1, H2⟩ := H
                  refine mj_icmp_ne (tgt := 73) md_M_task_67 (by decide) (fun hx => ?_) (fun hx => ?_)
                  · replace H := H1 hx
                    refine mj_aload_n 0 md_M_task_73 rfl ?_
                    refine mj_dup md_M_task_74 (mj_rfc _) ?_
                    refine mj_getf (v := .int (mj_i μ h0 1)) rfl kc_M 1 (by decide) tw_624 md_M_task_75 ht1 rfl ?_
                    refine mj_iconst (v := 1) md_M_task_78 (by decide) ?_
                    refine mj_iadd md_M_task_79 ?_
                    refine mj_putI rfl kc_M 1 (by decide) rfl tw_624 md_M_task_80 (Or.inl rfl) ht1 rfl rfl ?_
                    refine mj_aload_n 0 md_M_task_83 rfl ?_
                    refine mj_getf (v := va_rf (mj_r μ h0 2)) rfl kc_M 2 (by decide) tw_625 md_M_task_84 ht1 rfl ?_
                    refine mj_aload_n 0 md_M_task_87 rfl ?_
                    refine mj_getf (v := .int ((mj_i μ h0 1) + 1)) rfl kc_M 1 (by decide) tw_624 md_M_task_88 ht1 (by show Value.int (mj_i (mj_pI μ h0 1 ((mj_i μ h0 1) + 1)) h0 1) = _; rw [mj_sI]) ?_
                    refine mj_iload_n 1 md_M_task_91 rfl ?_
                    obtain ⟨b2, hb3, H⟩ := H
                    obtain ⟨ht4, H⟩ := H
                    obtain ⟨hi5, H⟩ := H
                    refine mj_iast (t := 0) hb3 rfl ht4 hi5 md_M_task_92 ?_
                    exact mj_lvs [0, 2, 3, 4] rfl H
                  · replace H := H2 hx
                    refine mj_bipush (v := (-4)) md_M_task_70 (by decide) ?_
                    exact mj_ireturn md_M_task_72 rfl rfl H
                · replace H := H2 (fun hy => hx ((lg_cmp_le (mj_l μ h0 43) 0).mpr hy))
                  refine mj_bipush (v := (-3)) md_M_task_58 (by decide) ?_
                  exact mj_ireturn md_M_task_60 rfl rfl H
              · replace H := H2 hx
                refine mj_iload_n 3 md_M_task_41 rfl ?_
                refine mj_iconst (v := 1) md_M_task_42 (by decide) ?_
                obtain ⟨H1, H2⟩ := H
                refine mj_icmp_le (tgt := 49) md_M_task_43 (by decide) (fun hx => ?_) (fun hx => ?_)
                · replace H := H1 hx
                  refine mj_aload_n 0 md_M_task_49 rfl ?_
                  refine mj_getf (v := .long (mj_l μ h0 43)) rfl kc_M 43 (by decide) tw_666 md_M_task_50 ht1 rfl ?_
                  refine mj_lconst (v := 0) md_M_task_53 (by decide) ?_
                  refine mj_lcmp md_M_task_54 ?_
                  obtain ⟨H1, H2⟩ := H
                  refine mj_if_le (tgt := 61) md_M_task_55 (by decide) (fun hx => ?_) (fun hx => ?_)
                  · replace H := H1 ((lg_cmp_le (mj_l μ h0 43) 0).mp hx)
                    refine mj_aload_n 0 md_M_task_61 rfl ?_
                    refine mj_getf (v := .int (mj_i μ h0 1)) rfl kc_M 1 (by decide) tw_624 md_M_task_62 ht1 rfl ?_
                    refine mj_bipush (v := 100) md_M_task_65 (by decide) ?_
                    obtain ⟨H1, H2⟩ := H
                    refine mj_icmp_ne (tgt := 73) md_M_task_67 (by decide) (fun hx => ?_) (fun hx => ?_)
                    · replace H := H1 hx
                      refine mj_aload_n 0 md_M_task_73 rfl ?_
                      refine mj_dup md_M_task_74 (mj_rfc _) ?_
                      refine mj_getf (v := .int (mj_i μ h0 1)) rfl kc_M 1 (by decide) tw_624 md_M_task_75 ht1 rfl ?_
                      refine mj_iconst (v := 1) md_M_task_78 (by decide) ?_
                      refine mj_iadd md_M_task_79 ?_
                      refine mj_putI rfl kc_M 1 (by decide) rfl tw_624 md_M_task_80 (Or.inl rfl) ht1 rfl rfl ?_
                      refine mj_aload_n 0 md_M_task_83 rfl ?_
                      refine mj_getf (v := va_rf (mj_r μ h0 2)) rfl kc_M 2 (by decide) tw_625 md_M_task_84 ht1 rfl ?_
                      refine mj_aload_n 0 md_M_task_87 rfl ?_
                      refine mj_getf (v := .int ((mj_i μ h0 1) + 1)) rfl kc_M 1 (by decide) tw_624 md_M_task_88 ht1 (by show Value.int (mj_i (mj_pI μ h0 1 ((mj_i μ h0 1) + 1)) h0 1) = _; rw [mj_sI]) ?_
                      refine mj_iload_n 1 md_M_task_91 rfl ?_
                      obtain ⟨b6, hb7, H⟩ := H
                      obtain ⟨ht8, H⟩ := H
                      obtain ⟨hi9, H⟩ := H
                      refine mj_iast (t := 0) hb7 rfl ht8 hi9 md_M_task_92 ?_
                      exact mj_lvs [0, 2, 3, 4] rfl H
                    · replace H := H2 hx
                      refine mj_bipush (v := (-4)) md_M_task_70 (by decide) ?_
                      exact mj_ireturn md_M_task_72 rfl rfl H
                  · replace H := H2 (fun hy => hx ((lg_cmp_le (mj_l μ h0 43) 0).mpr hy))
                    refine mj_bipush (v := (-3)) md_M_task_58 (by decide) ?_
                    exact mj_ireturn md_M_task_60 rfl rfl H
                · replace H := H2 hx
                  refine mj_bipush (v := (-2)) md_M_task_46 (by decide) ?_
                  exact mj_ireturn md_M_task_48 rfl rfl H
    · replace H := H2 hx
      refine mj_iconst (v := (-1)) md_M_task_12 (by decide) ?_
      exact mj_ireturn md_M_task_13 rfl rfl H

set_option maxRecDepth 20000 in
theorem bk_M_task_93 {G : mj_G} {Ex : Option Value → mj_MM → Prop} {N S : Nat} {μ : mj_MM} {h0 : Nat} {v2 : Int32} {v3 : Int32} {v4 : Int32}
    (H : ((mj_t μ h0 = 11) ∧ ∃ b2 : Nat, (mj_r μ h0 3 = some b2) ∧ (mj_t μ b2 = 1000) ∧ (vp_in (mj_i μ h0 1) (mj_n μ b2)) ∧ mj_J G mY_M_task Ex N S 103 [(0, va_rf (some h0)), (3, .int v3), (4, .int v4)] [] (mj_pI μ b2 (Int32.toNatClampNeg (mj_i μ h0 1)) v2))) :
    mj_J G mY_M_task Ex N S 93 [(0, va_rf (some h0)), (2, .int v2), (3, .int v3), (4, .int v4)] [] μ := by
  refine mj_aload_n 0 md_M_task_93 rfl ?_
  obtain ⟨ht1, H⟩ := H
  refine mj_getf (v := va_rf (mj_r μ h0 3)) rfl kc_M 3 (by decide) tw_626 md_M_task_94 ht1 rfl ?_
  refine mj_aload_n 0 md_M_task_97 rfl ?_
  refine mj_getf (v := .int (mj_i μ h0 1)) rfl kc_M 1 (by decide) tw_624 md_M_task_98 ht1 rfl ?_
  refine mj_iload_n 1 md_M_task_101 rfl ?_
  obtain ⟨b2, hb3, H⟩ := H
  obtain ⟨ht4, H⟩ := H
  obtain ⟨hi5, H⟩ := H
  refine mj_iast (t := 0) hb3 rfl ht4 hi5 md_M_task_102 ?_
  exact mj_lvs [0, 2, 3] rfl H

set_option maxRecDepth 20000 in
theorem bk_M_task_103 {G : mj_G} {Ex : Option Value → mj_MM → Prop} {N S : Nat} {μ : mj_MM} {h0 : Nat} {v3 : Int32} {v4 : Int32}
    (H : ((mj_t μ h0 = 11) ∧ ∃ b2 : Nat, (mj_r μ h0 4 = some b2) ∧ (mj_t μ b2 = 1000) ∧ (vp_in (mj_i μ h0 1) (mj_n μ b2)) ∧ mj_J G mY_M_task Ex N S 113 [(0, va_rf (some h0)), (4, .int v4)] [] (mj_pI μ b2 (Int32.toNatClampNeg (mj_i μ h0 1)) v3))) :
    mj_J G mY_M_task Ex N S 103 [(0, va_rf (some h0)), (3, .int v3), (4, .int v4)] [] μ := by
  refine mj_aload_n 0 md_M_task_103 rfl ?_
  obtain ⟨ht1, H⟩ := H
  refine mj_getf (v := va_rf (mj_r μ h0 4)) rfl kc_M 4 (by decide) tw_627 md_M_task_104 ht1 rfl ?_
  refine mj_aload_n 0 md_M_task_107 rfl ?_
  refine mj_getf (v := .int (mj_i μ h0 1)) rfl kc_M 1 (by decide) tw_624 md_M_task_108 ht1 rfl ?_
  refine mj_iload_n 1 md_M_task_111 rfl ?_
  obtain ⟨b2, hb3, H⟩ := H
  obtain ⟨ht4, H⟩ := H
  obtain ⟨hi5, H⟩ := H
  refine mj_iast (t := 0) hb3 rfl ht4 hi5 md_M_task_112 ?_
  exact mj_lvs [0, 2] rfl H

set_option maxRecDepth 20000 in
theorem bk_M_task_113 {G : mj_G} {Ex : Option Value → mj_MM → Prop} {N S : Nat} {μ : mj_MM} {h0 : Nat} {v4 : Int32}
    (H : ((mj_t μ h0 = 11) ∧ ∃ b2 : Nat, (mj_r μ h0 5 = some b2) ∧ (mj_t μ b2 = 1002) ∧ (vp_in (mj_i μ h0 1) (mj_n μ b2)) ∧ (narrow .boolean (.int v4) = .int v4) ∧ ∃ b7 : Nat, (mj_r μ h0 6 = some b7) ∧ (mj_t μ b7 = 1002) ∧ (vp_in (mj_i μ h0 1) (mj_n μ b7)) ∧ Ex (some (.int (mj_i μ h0 1))) (mj_pI (mj_pI μ b2 (Int32.toNatClampNeg (mj_i μ h0 1)) v4) b7 (Int32.toNatClampNeg (mj_i μ h0 1)) 1))) :
    mj_J G mY_M_task Ex N S 113 [(0, va_rf (some h0)), (4, .int v4)] [] μ := by
  refine mj_aload_n 0 md_M_task_113 rfl ?_
  obtain ⟨ht1, H⟩ := H
  refine mj_getf (v := va_rf (mj_r μ h0 5)) rfl kc_M 5 (by decide) tw_628 md_M_task_114 ht1 rfl ?_
  refine mj_aload_n 0 md_M_task_117 rfl ?_
  refine mj_getf (v := .int (mj_i μ h0 1)) rfl kc_M 1 (by decide) tw_624 md_M_task_118 ht1 rfl ?_
  refine mj_iload 1 md_M_task_121 rfl ?_
  obtain ⟨b2, hb3, H⟩ := H
  obtain ⟨ht4, H⟩ := H
  obtain ⟨hi5, H⟩ := H
  obtain ⟨hz6, H⟩ := H
  refine mj_zast (t := 2) hb3 rfl ht4 hi5 hz6 md_M_task_123 ?_
  refine mj_aload_n 0 md_M_task_124 rfl ?_
  refine mj_getf (v := va_rf (mj_r μ h0 6)) rfl kc_M 6 (by decide) tw_629 md_M_task_125 ht1 rfl ?_
  refine mj_aload_n 0 md_M_task_128 rfl ?_
  refine mj_getf (v := .int (mj_i μ h0 1)) rfl kc_M 1 (by decide) tw_624 md_M_task_129 ht1 (by show Value.int (mj_i (mj_pI μ b2 (Int32.toNatClampNeg (mj_i μ h0 1)) v4) h0 1) = _; rw [mj_ki (mj_ne ht1 ht4 (by decide))]; try rfl) ?_
  refine mj_iconst (v := 1) md_M_task_132 (by decide) ?_
  obtain ⟨b7, hb8, H⟩ := H
  obtain ⟨ht9, H⟩ := H
  obtain ⟨hi10, H⟩ := H
  refine mj_zast (t := 2) hb8 rfl ht9 hi10 (by decide) md_M_task_133 ?_
  refine mj_aload_n 0 md_M_task_134 rfl ?_
  refine mj_getf (v := .int (mj_i μ h0 1)) rfl kc_M 1 (by decide) tw_624 md_M_task_135 ht1 (by show Value.int (mj_i (mj_pI (mj_pI μ b2 (Int32.toNatClampNeg (mj_i μ h0 1)) v4) b7 (Int32.toNatClampNeg (mj_i μ h0 1)) 1) h0 1) = _; rw [mj_ki (mj_ne ht1 ht9 (by decide))]; show Value.int (mj_i (mj_pI μ b2 (Int32.toNatClampNeg (mj_i μ h0 1)) v4) h0 1) = _; rw [mj_ki (mj_ne ht1 ht4 (by decide))]; try rfl) ?_
  exact mj_ireturn md_M_task_138 rfl rfl H

set_option maxRecDepth 20000 in
theorem bk_M_good_0 {G : mj_G} {Ex : Option Value → mj_MM → Prop} {N S : Nat} {μ : mj_MM} {v0 : Int32} {v1 : Int64}
    (H : ((v0 = 0 → ((v1 < 1 → Ex (some (.int 0)) μ) ∧ (¬ v1 < 1 → ((50000 < v1 → Ex (some (.int 0)) μ) ∧ (¬ 50000 < v1 → Ex (some (.int 1)) μ))))) ∧ (¬ v0 = 0 → ((¬ v0 = 12 → ((v0 = 1 → ((v1 < 1 → Ex (some (.int 0)) μ) ∧ (¬ v1 < 1 → ((100 < v1 → Ex (some (.int 0)) μ) ∧ (¬ 100 < v1 → Ex (some (.int 1)) μ))))) ∧ (¬ v0 = 1 → ((¬ v0 = 2 → ((v0 = 3 → ((v1 < 1 → Ex (some (.int 0)) μ) ∧ (¬ v1 < 1 → ((65535 < v1 → Ex (some (.int 0)) μ) ∧ (¬ 65535 < v1 → Ex (some (.int 1)) μ))))) ∧ (¬ v0 = 3 → ((¬ v0 = 5 → ((¬ v0 = 4 → ((v0 = 6 → ((v1 < 1 → Ex (some (.int 0)) μ) ∧ (¬ v1 < 1 → ((32 < v1 → Ex (some (.int 0)) μ) ∧ (¬ 32 < v1 → Ex (some (.int 1)) μ))))) ∧ (¬ v0 = 6 → ((¬ v0 = 7 → ((v0 = 8 → ((v1 < 1 → Ex (some (.int 0)) μ) ∧ (¬ v1 < 1 → ((16 < v1 → Ex (some (.int 0)) μ) ∧ (¬ 16 < v1 → Ex (some (.int 1)) μ))))) ∧ (¬ v0 = 8 → ((¬ v0 = 9 → ((¬ v1 = 0 → Ex (some (.int 0)) μ) ∧ (v1 = 0 → Ex (some (.int 1)) μ))) ∧ (v0 = 9 → ((v1 < 1 → Ex (some (.int 0)) μ) ∧ (¬ v1 < 1 → ((16 < v1 → Ex (some (.int 0)) μ) ∧ (¬ 16 < v1 → Ex (some (.int 1)) μ))))))))) ∧ (v0 = 7 → ((v1 < 1 → Ex (some (.int 0)) μ) ∧ (¬ v1 < 1 → ((32 < v1 → Ex (some (.int 0)) μ) ∧ (¬ 32 < v1 → Ex (some (.int 1)) μ))))))))) ∧ (v0 = 4 → ((v1 < 65537 → Ex (some (.int 0)) μ) ∧ (¬ v1 < 65537 → ((6619135 < v1 → Ex (some (.int 0)) μ) ∧ (¬ 6619135 < v1 → (((v1 - v1 / 65536 * 65536) ≤ 0 → Ex (some (.int 0)) μ) ∧ (¬ (v1 - v1 / 65536 * 65536) ≤ 0 → Ex (some (.int 1)) μ))))))))) ∧ (v0 = 5 → ((v1 < 1 → Ex (some (.int 0)) μ) ∧ (¬ v1 < 1 → ((65535 < v1 → Ex (some (.int 0)) μ) ∧ (¬ 65535 < v1 → Ex (some (.int 1)) μ))))))))) ∧ (v0 = 2 → ((v1 < 1 → Ex (some (.int 0)) μ) ∧ (¬ v1 < 1 → ((100 < v1 → Ex (some (.int 0)) μ) ∧ (¬ 100 < v1 → Ex (some (.int 1)) μ))))))))) ∧ (v0 = 12 → ((v1 < 1 → Ex (some (.int 0)) μ) ∧ (¬ v1 < 1 → ((50000 < v1 → Ex (some (.int 0)) μ) ∧ (¬ 50000 < v1 → Ex (some (.int 1)) μ))))))))) :
    mj_J G mY_M_good Ex N S 0 [(0, .int v0), (1, .long v1)] [] μ := by
  refine mj_iload_n 0 md_M_good_0 rfl ?_
  obtain ⟨H1, H2⟩ := H
  refine mj_if_eq (tgt := 10) md_M_good_1 (by decide) (fun hx => ?_) (fun hx => ?_)
  · replace H := H1 hx
    refine mj_lload_n 1 md_M_good_10 rfl ?_
    refine mj_lconst (v := 1) md_M_good_11 (by decide) ?_
    refine mj_lcmp md_M_good_12 ?_
    obtain ⟨H1, H2⟩ := H
    refine mj_if_lt (tgt := 28) md_M_good_13 (by decide) (fun hx => ?_) (fun hx => ?_)
    · replace H := H1 ((lg_cmp_lt v1 1).mp hx)
      refine mj_iconst (v := 0) md_M_good_28 (by decide) ?_
      exact mj_ireturn md_M_good_29 rfl (by decide) H
    · replace H := H2 (fun hy => hx ((lg_cmp_lt v1 1).mpr hy))
      refine mj_lload_n 1 md_M_good_16 rfl ?_
      refine mj_ldc2 (v := 50000) tw_777 md_M_good_17 ?_
      refine mj_lcmp md_M_good_20 ?_
      obtain ⟨H1, H2⟩ := H
      refine mj_if_gt (tgt := 28) md_M_good_21 (by decide) (fun hx => ?_) (fun hx => ?_)
      · replace H := H1 ((lg_cmp_gt v1 50000).mp hx)
        refine mj_iconst (v := 0) md_M_good_28 (by decide) ?_
        exact mj_ireturn md_M_good_29 rfl (by decide) H
      · replace H := H2 (fun hy => hx ((lg_cmp_gt v1 50000).mpr hy))
        refine mj_iconst (v := 1) md_M_good_24 (by decide) ?_
        refine mj_goto (tgt := 29) md_M_good_25 (by decide) ?_
        exact mj_ireturn md_M_good_29 rfl (by decide) H
  · replace H := H2 hx
    refine mj_iload_n 0 md_M_good_4 rfl ?_
    refine mj_bipush (v := 12) md_M_good_5 (by decide) ?_
    obtain ⟨H1, H2⟩ := H
    refine mj_icmp_ne (tgt := 30) md_M_good_7 (by decide) (fun hx => ?_) (fun hx => ?_)
    · replace H := H1 hx
      refine mj_iload_n 0 md_M_good_30 rfl ?_
      refine mj_iconst (v := 1) md_M_good_31 (by decide) ?_
      obtain ⟨H1, H2⟩ := H
      refine mj_icmp_eq (tgt := 40) md_M_good_32 (by decide) (fun hx => ?_) (fun hx => ?_)
      · replace H := H1 hx
        refine mj_lload_n 1 md_M_good_40 rfl ?_
        refine mj_lconst (v := 1) md_M_good_41 (by decide) ?_
        refine mj_lcmp md_M_good_42 ?_
        obtain ⟨H1, H2⟩ := H
        refine mj_if_lt (tgt := 58) md_M_good_43 (by decide) (fun hx => ?_) (fun hx => ?_)
        · replace H := H1 ((lg_cmp_lt v1 1).mp hx)
          refine mj_iconst (v := 0) md_M_good_58 (by decide) ?_
          exact mj_ireturn md_M_good_59 rfl (by decide) H
        · replace H := H2 (fun hy => hx ((lg_cmp_lt v1 1).mpr hy))
          refine mj_lload_n 1 md_M_good_46 rfl ?_
          refine mj_ldc2 (v := 100) tw_778 md_M_good_47 ?_
          refine mj_lcmp md_M_good_50 ?_
          obtain ⟨H1, H2⟩ := H
          refine mj_if_gt (tgt := 58) md_M_good_51 (by decide) (fun hx => ?_) (fun hx => ?_)
          · replace H := H1 ((lg_cmp_gt v1 100).mp hx)
            refine mj_iconst (v := 0) md_M_good_58 (by decide) ?_
            exact mj_ireturn md_M_good_59 rfl (by decide) H
          · replace H := H2 (fun hy => hx ((lg_cmp_gt v1 100).mpr hy))
            refine mj_iconst (v := 1) md_M_good_54 (by decide) ?_
            refine mj_goto (tgt := 59) md_M_good_55 (by decide) ?_
            exact mj_ireturn md_M_good_59 rfl (by decide) H
      · replace H := H2 hx
        refine mj_iload_n 0 md_M_good_35 rfl ?_
        refine mj_iconst (v := 2) md_M_good_36 (by decide) ?_
        obtain ⟨H1, H2⟩ := H
        refine mj_icmp_ne (tgt := 60) md_M_good_37 (by decide) (fun hx => ?_) (fun hx => ?_)
        · replace H := H1 hx
          refine mj_iload_n 0 md_M_good_60 rfl ?_
          refine mj_iconst (v := 3) md_M_good_61 (by decide) ?_
          obtain ⟨H1, H2⟩ := H
          refine mj_icmp_eq (tgt := 70) md_M_good_62 (by decide) (fun hx => ?_) (fun hx => ?_)
          · replace H := H1 hx
            refine mj_lload_n 1 md_M_good_70 rfl ?_
            refine mj_lconst (v := 1) md_M_good_71 (by decide) ?_
            refine mj_lcmp md_M_good_72 ?_
            obtain ⟨H1, H2⟩ := H
            refine mj_if_lt (tgt := 88) md_M_good_73 (by decide) (fun hx => ?_) (fun hx => ?_)
            · replace H := H1 ((lg_cmp_lt v1 1).mp hx)
              refine mj_iconst (v := 0) md_M_good_88 (by decide) ?_
              exact mj_ireturn md_M_good_89 rfl (by decide) H
            · replace H := H2 (fun hy => hx ((lg_cmp_lt v1 1).mpr hy))
              refine mj_lload_n 1 md_M_good_76 rfl ?_
              refine mj_ldc2 (v := 65535) tw_779 md_M_good_77 ?_
              refine mj_lcmp md_M_good_80 ?_
              obtain ⟨H1, H2⟩ := H
              refine mj_if_gt (tgt := 88) md_M_good_81 (by decide) (fun hx => ?_) (fun hx => ?_)
              · replace H := H1 ((lg_cmp_gt v1 65535).mp hx)
                refine mj_iconst (v := 0) md_M_good_88 (by decide) ?_
                exact mj_ireturn md_M_good_89 rfl (by decide) H
              · replace H := H2 (fun hy => hx ((lg_cmp_gt v1 65535).mpr hy))
                refine mj_iconst (v := 1) md_M_good_84 (by decide) ?_
                refine mj_goto (tgt := 89) md_M_good_85 (by decide) ?_
                exact mj_ireturn md_M_good_89 rfl (by decide) H
          · replace H := H2 hx
            refine mj_iload_n 0 md_M_good_65 rfl ?_
            refine mj_iconst (v := 5) md_M_good_66 (by decide) ?_
            obtain ⟨H1, H2⟩ := H
            refine mj_icmp_ne (tgt := 90) md_M_good_67 (by decide) (fun hx => ?_) (fun hx => ?_)
            · replace H := H1 hx
              refine mj_iload_n 0 md_M_good_90 rfl ?_
              refine mj_iconst (v := 4) md_M_good_91 (by decide) ?_
              obtain ⟨H1, H2⟩ := H
              refine mj_icmp_ne (tgt := 127) md_M_good_92 (by decide) (fun hx => ?_) (fun hx => ?_)
              · replace H := H1 hx
                refine mj_iload_n 0 md_M_good_127 rfl ?_
                refine mj_bipush (v := 6) md_M_good_128 (by decide) ?_
                obtain ⟨H1, H2⟩ := H
                refine mj_icmp_eq (tgt := 139) md_M_good_130 (by decide) (fun hx => ?_) (fun hx => ?_)
                · replace H := H1 hx
                  refine mj_lload_n 1 md_M_good_139 rfl ?_
                  refine mj_lconst (v := 1) md_M_good_140 (by decide) ?_
                  refine mj_lcmp md_M_good_141 ?_
                  obtain ⟨H1, H2⟩ := H
                  refine mj_if_lt (tgt := 157) md_M_good_142 (by decide) (fun hx => ?_) (fun hx => ?_)
                  · replace H := H1 ((lg_cmp_lt v1 1).mp hx)
                    refine mj_iconst (v := 0) md_M_good_157 (by decide) ?_
                    exact mj_ireturn md_M_good_158 rfl (by decide) H
                  · replace H := H2 (fun hy => hx ((lg_cmp_lt v1 1).mpr hy))
                    refine mj_lload_n 1 md_M_good_145 rfl ?_
                    refine mj_ldc2 (v := 32) tw_783 md_M_good_146 ?_
                    refine mj_lcmp md_M_good_149 ?_
                    obtain ⟨H1, H2⟩ := H
                    refine mj_if_gt (tgt := 157) md_M_good_150 (by decide) (fun hx => ?_) (fun hx => ?_)
                    · replace H := H1 ((lg_cmp_gt v1 32).mp hx)
                      refine mj_iconst (v := 0) md_M_good_157 (by decide) ?_
                      exact mj_ireturn md_M_good_158 rfl (by decide) H
                    · replace H := H2 (fun hy => hx ((lg_cmp_gt v1 32).mpr hy))
                      refine mj_iconst (v := 1) md_M_good_153 (by decide) ?_
                      refine mj_goto (tgt := 158) md_M_good_154 (by decide) ?_
                      exact mj_ireturn md_M_good_158 rfl (by decide) H
                · replace H := H2 hx
                  refine mj_iload_n 0 md_M_good_133 rfl ?_
                  refine mj_bipush (v := 7) md_M_good_134 (by decide) ?_
                  obtain ⟨H1, H2⟩ := H
                  refine mj_icmp_ne (tgt := 159) md_M_good_136 (by decide) (fun hx => ?_) (fun hx => ?_)
                  · replace H := H1 hx
                    refine mj_iload_n 0 md_M_good_159 rfl ?_
                    refine mj_bipush (v := 8) md_M_good_160 (by decide) ?_
                    obtain ⟨H1, H2⟩ := H
                    refine mj_icmp_eq (tgt := 171) md_M_good_162 (by decide) (fun hx => ?_) (fun hx => ?_)
                    · replace H := H1 hx
                      refine mj_lload_n 1 md_M_good_171 rfl ?_
                      refine mj_lconst (v := 1) md_M_good_172 (by decide) ?_
                      refine mj_lcmp md_M_good_173 ?_
                      obtain ⟨H1, H2⟩ := H
                      refine mj_if_lt (tgt := 189) md_M_good_174 (by decide) (fun hx => ?_) (fun hx => ?_)
                      · replace H := H1 ((lg_cmp_lt v1 1).mp hx)
                        refine mj_iconst (v := 0) md_M_good_189 (by decide) ?_
                        exact mj_ireturn md_M_good_190 rfl (by decide) H
                      · replace H := H2 (fun hy => hx ((lg_cmp_lt v1 1).mpr hy))
                        refine mj_lload_n 1 md_M_good_177 rfl ?_
                        refine mj_ldc2 (v := 16) tw_784 md_M_good_178 ?_
                        refine mj_lcmp md_M_good_181 ?_
                        obtain ⟨H1, H2⟩ := H
                        refine mj_if_gt (tgt := 189) md_M_good_182 (by decide) (fun hx => ?_) (fun hx => ?_)
                        · replace H := H1 ((lg_cmp_gt v1 16).mp hx)
                          refine mj_iconst (v := 0) md_M_good_189 (by decide) ?_
                          exact mj_ireturn md_M_good_190 rfl (by decide) H
                        · replace H := H2 (fun hy => hx ((lg_cmp_gt v1 16).mpr hy))
                          refine mj_iconst (v := 1) md_M_good_185 (by decide) ?_
                          refine mj_goto (tgt := 190) md_M_good_186 (by decide) ?_
                          exact mj_ireturn md_M_good_190 rfl (by decide) H
                    · replace H := H2 hx
                      refine mj_iload_n 0 md_M_good_165 rfl ?_
                      refine mj_bipush (v := 9) md_M_good_166 (by decide) ?_
                      obtain ⟨H1, H2⟩ := H
                      refine mj_icmp_ne (tgt := 191) md_M_good_168 (by decide) (fun hx => ?_) (fun hx => ?_)
                      · replace H := H1 hx
                        refine mj_lload_n 1 md_M_good_191 rfl ?_
                        refine mj_lconst (v := 0) md_M_good_192 (by decide) ?_
                        refine mj_lcmp md_M_good_193 ?_
                        obtain ⟨H1, H2⟩ := H
                        refine mj_if_ne (tgt := 201) md_M_good_194 (by decide) (fun hx => ?_) (fun hx => ?_)
                        · replace H := H1 (fun hy => hx ((lg_cmp_eq v1 0).mpr hy))
                          refine mj_iconst (v := 0) md_M_good_201 (by decide) ?_
                          exact mj_ireturn md_M_good_202 rfl (by decide) H
                        · replace H := H2 ((lg_cmp_eq v1 0).mp hx)
                          refine mj_iconst (v := 1) md_M_good_197 (by decide) ?_
                          refine mj_goto (tgt := 202) md_M_good_198 (by decide) ?_
                          exact mj_ireturn md_M_good_202 rfl (by decide) H
                      · replace H := H2 hx
                        refine mj_lload_n 1 md_M_good_171 rfl ?_
                        refine mj_lconst (v := 1) md_M_good_172 (by decide) ?_
                        refine mj_lcmp md_M_good_173 ?_
                        obtain ⟨H1, H2⟩ := H
                        refine mj_if_lt (tgt := 189) md_M_good_174 (by decide) (fun hx => ?_) (fun hx => ?_)
                        · replace H := H1 ((lg_cmp_lt v1 1).mp hx)
                          refine mj_iconst (v := 0) md_M_good_189 (by decide) ?_
                          exact mj_ireturn md_M_good_190 rfl (by decide) H
                        · replace H := H2 (fun hy => hx ((lg_cmp_lt v1 1).mpr hy))
                          refine mj_lload_n 1 md_M_good_177 rfl ?_
                          refine mj_ldc2 (v := 16) tw_784 md_M_good_178 ?_
                          refine mj_lcmp md_M_good_181 ?_
                          obtain ⟨H1, H2⟩ := H
                          refine mj_if_gt (tgt := 189) md_M_good_182 (by decide) (fun hx => ?_) (fun hx => ?_)
                          · replace H := H1 ((lg_cmp_gt v1 16).mp hx)
                            refine mj_iconst (v := 0) md_M_good_189 (by decide) ?_
                            exact mj_ireturn md_M_good_190 rfl (by decide) H
                          · replace H := H2 (fun hy => hx ((lg_cmp_gt v1 16).mpr hy))
                            refine mj_iconst (v := 1) md_M_good_185 (by decide) ?_
                            refine mj_goto (tgt := 190) md_M_good_186 (by decide) ?_
                            exact mj_ireturn md_M_good_190 rfl (by decide) H
                  · replace H := H2 hx
                    refine mj_lload_n 1 md_M_good_139 rfl ?_
                    refine mj_lconst (v := 1) md_M_good_140 (by decide) ?_
                    refine mj_lcmp md_M_good_141 ?_
                    obtain ⟨H1, H2⟩ := H
                    refine mj_if_lt (tgt := 157) md_M_good_142 (by decide) (fun hx => ?_) (fun hx => ?_)
                    · replace H := H1 ((lg_cmp_lt v1 1).mp hx)
                      refine mj_iconst (v := 0) md_M_good_157 (by decide) ?_
                      exact mj_ireturn md_M_good_158 rfl (by decide) H
                    · replace H := H2 (fun hy => hx ((lg_cmp_lt v1 1).mpr hy))
                      refine mj_lload_n 1 md_M_good_145 rfl ?_
                      refine mj_ldc2 (v := 32) tw_783 md_M_good_146 ?_
                      refine mj_lcmp md_M_good_149 ?_
                      obtain ⟨H1, H2⟩ := H
                      refine mj_if_gt (tgt := 157) md_M_good_150 (by decide) (fun hx => ?_) (fun hx => ?_)
                      · replace H := H1 ((lg_cmp_gt v1 32).mp hx)
                        refine mj_iconst (v := 0) md_M_good_157 (by decide) ?_
                        exact mj_ireturn md_M_good_158 rfl (by decide) H
                      · replace H := H2 (fun hy => hx ((lg_cmp_gt v1 32).mpr hy))
                        refine mj_iconst (v := 1) md_M_good_153 (by decide) ?_
                        refine mj_goto (tgt := 158) md_M_good_154 (by decide) ?_
                        exact mj_ireturn md_M_good_158 rfl (by decide) H
              · replace H := H2 hx
                refine mj_lload_n 1 md_M_good_95 rfl ?_
                refine mj_ldc2 (v := 65537) tw_780 md_M_good_96 ?_
                refine mj_lcmp md_M_good_99 ?_
                obtain ⟨H1, H2⟩ := H
                refine mj_if_lt (tgt := 125) md_M_good_100 (by decide) (fun hx => ?_) (fun hx => ?_)
                · replace H := H1 ((lg_cmp_lt v1 65537).mp hx)
                  refine mj_iconst (v := 0) md_M_good_125 (by decide) ?_
                  exact mj_ireturn md_M_good_126 rfl (by decide) H
                · replace H := H2 (fun hy => hx ((lg_cmp_lt v1 65537).mpr hy))
                  refine mj_lload_n 1 md_M_good_103 rfl ?_
                  refine mj_ldc2 (v := 6619135) tw_781 md_M_good_104 ?_
                  refine mj_lcmp md_M_good_107 ?_
                  obtain ⟨H1, H2⟩ := H
                  refine mj_if_gt (tgt := 125) md_M_good_108 (by decide) (fun hx => ?_) (fun hx => ?_)
                  · replace H := H1 ((lg_cmp_gt v1 6619135).mp hx)
                    refine mj_iconst (v := 0) md_M_good_125 (by decide) ?_
                    exact mj_ireturn md_M_good_126 rfl (by decide) H
                  · replace H := H2 (fun hy => hx ((lg_cmp_gt v1 6619135).mpr hy))
                    refine mj_lload_n 1 md_M_good_111 rfl ?_
                    refine mj_ldc2 (v := 65536) tw_782 md_M_good_112 ?_
                    refine mj_lrem md_M_good_115 (by decide) ?_
                    refine mj_lconst (v := 0) md_M_good_116 (by decide) ?_
                    refine mj_lcmp md_M_good_117 ?_
                    obtain ⟨H1, H2⟩ := H
                    refine mj_if_le (tgt := 125) md_M_good_118 (by decide) (fun hx => ?_) (fun hx => ?_)
                    · replace H := H1 ((lg_cmp_le (v1 - v1 / 65536 * 65536) 0).mp hx)
                      refine mj_iconst (v := 0) md_M_good_125 (by decide) ?_
                      exact mj_ireturn md_M_good_126 rfl (by decide) H
                    · replace H := H2 (fun hy => hx ((lg_cmp_le (v1 - v1 / 65536 * 65536) 0).mpr hy))
                      refine mj_iconst (v := 1) md_M_good_121 (by decide) ?_
                      refine mj_goto (tgt := 126) md_M_good_122 (by decide) ?_
                      exact mj_ireturn md_M_good_126 rfl (by decide) H
            · replace H := H2 hx
              refine mj_lload_n 1 md_M_good_70 rfl ?_
              refine mj_lconst (v := 1) md_M_good_71 (by decide) ?_
              refine mj_lcmp md_M_good_72 ?_
              obtain ⟨H1, H2⟩ := H
              refine mj_if_lt (tgt := 88) md_M_good_73 (by decide) (fun hx => ?_) (fun hx => ?_)
              · replace H := H1 ((lg_cmp_lt v1 1).mp hx)
                refine mj_iconst (v := 0) md_M_good_88 (by decide) ?_
                exact mj_ireturn md_M_good_89 rfl (by decide) H
              · replace H := H2 (fun hy => hx ((lg_cmp_lt v1 1).mpr hy))
                refine mj_lload_n 1 md_M_good_76 rfl ?_
                refine mj_ldc2 (v := 65535) tw_779 md_M_good_77 ?_
                refine mj_lcmp md_M_good_80 ?_
                obtain ⟨H1, H2⟩ := H
                refine mj_if_gt (tgt := 88) md_M_good_81 (by decide) (fun hx => ?_) (fun hx => ?_)
                · replace H := H1 ((lg_cmp_gt v1 65535).mp hx)
                  refine mj_iconst (v := 0) md_M_good_88 (by decide) ?_
                  exact mj_ireturn md_M_good_89 rfl (by decide) H
                · replace H := H2 (fun hy => hx ((lg_cmp_gt v1 65535).mpr hy))
                  refine mj_iconst (v := 1) md_M_good_84 (by decide) ?_
                  refine mj_goto (tgt := 89) md_M_good_85 (by decide) ?_
                  exact mj_ireturn md_M_good_89 rfl (by decide) H
        · replace H := H2 hx
          refine mj_lload_n 1 md_M_good_40 rfl ?_
          refine mj_lconst (v := 1) md_M_good_41 (by decide) ?_
          refine mj_lcmp md_M_good_42 ?_
          obtain ⟨H1, H2⟩ := H
          refine mj_if_lt (tgt := 58) md_M_good_43 (by decide) (fun hx => ?_) (fun hx => ?_)
          · replace H := H1 ((lg_cmp_lt v1 1).mp hx)
            refine mj_iconst (v := 0) md_M_good_58 (by decide) ?_
            exact mj_ireturn md_M_good_59 rfl (by decide) H
          · replace H := H2 (fun hy => hx ((lg_cmp_lt v1 1).mpr hy))
            refine mj_lload_n 1 md_M_good_46 rfl ?_
            refine mj_ldc2 (v := 100) tw_778 md_M_good_47 ?_
            refine mj_lcmp md_M_good_50 ?_
            obtain ⟨H1, H2⟩ := H
            refine mj_if_gt (tgt := 58) md_M_good_51 (by decide) (fun hx => ?_) (fun hx => ?_)
            · replace H := H1 ((lg_cmp_gt v1 100).mp hx)
              refine mj_iconst (v := 0) md_M_good_58 (by decide) ?_
              exact mj_ireturn md_M_good_59 rfl (by decide) H
            · replace H := H2 (fun hy => hx ((lg_cmp_gt v1 100).mpr hy))
              refine mj_iconst (v := 1) md_M_good_54 (by decide) ?_
              refine mj_goto (tgt := 59) md_M_good_55 (by decide) ?_
              exact mj_ireturn md_M_good_59 rfl (by decide) H
    · replace H := H2 hx
      refine mj_lload_n 1 md_M_good_10 rfl ?_
      refine mj_lconst (v := 1) md_M_good_11 (by decide) ?_
      refine mj_lcmp md_M_good_12 ?_
      obtain ⟨H1, H2⟩ := H
      refine mj_if_lt (tgt := 28) md_M_good_13 (by decide) (fun hx => ?_) (fun hx => ?_)
      · replace H := H1 ((lg_cmp_lt v1 1).mp hx)
        refine mj_iconst (v := 0) md_M_good_28 (by decide) ?_
        exact mj_ireturn md_M_good_29 rfl (by decide) H
      · replace H := H2 (fun hy => hx ((lg_cmp_lt v1 1).mpr hy))
        refine mj_lload_n 1 md_M_good_16 rfl ?_
        refine mj_ldc2 (v := 50000) tw_777 md_M_good_17 ?_
        refine mj_lcmp md_M_good_20 ?_
        obtain ⟨H1, H2⟩ := H
        refine mj_if_gt (tgt := 28) md_M_good_21 (by decide) (fun hx => ?_) (fun hx => ?_)
        · replace H := H1 ((lg_cmp_gt v1 50000).mp hx)
          refine mj_iconst (v := 0) md_M_good_28 (by decide) ?_
          exact mj_ireturn md_M_good_29 rfl (by decide) H
        · replace H := H2 (fun hy => hx ((lg_cmp_gt v1 50000).mpr hy))
          refine mj_iconst (v := 1) md_M_good_24 (by decide) ?_
          refine mj_goto (tgt := 29) md_M_good_25 (by decide) ?_
          exact mj_ireturn md_M_good_29 rfl (by decide) H

set_option maxRecDepth 20000 in
theorem bk_M_part_0 {G : mj_G} {Ex : Option Value → mj_MM → Prop} {N S : Nat} {μ : mj_MM} {h0 : Nat} {v1 : Int32} {v2 : Int32} {v3 : Int64}
    (H : ((mj_t μ h0 = 11) ∧ (∃ P : Int32 → mj_MM → Prop, mj_M G my_M_no mY_M_no [va_rf (some h0), .int v1] (mj_nc μ) (mj_ns μ) μ (mj_XI P) ∧ ∀ (x : Int32) (μ' : mj_MM), P x μ' → mj_nc μ' = mj_nc μ → mj_ns μ' = mj_ns μ → mj_J G mY_M_part Ex N S 5 [(0, va_rf (some h0)), (1, .int v1), (2, .int v2), (3, .long v3)] [.int x] μ'))) :
    mj_J G mY_M_part Ex N S 0 [(0, va_rf (some h0)), (1, .int v1), (2, .int v2), (3, .long v3)] [] μ := by
  refine mj_aload_n 0 md_M_part_0 rfl ?_
  refine mj_iload_n 1 md_M_part_1 rfl ?_
  obtain ⟨ht1, H⟩ := H
  obtain ⟨P, hM, H⟩ := H
  exact mj_callV (n := 1) (As := [.int v1]) rfl hM kc_M ht1 ⟨tw_770, tw_8, tw_773, ⟨by decide, by decide, by decide +kernel⟩, by decide, by decide⟩ tw_772 tp_32 rfl md_M_part_2 (by first | decide | (simp only [List.map_cons, List.map_nil, List.sum_cons, List.sum_nil, mj_rfc, mj_ci, mj_cl]; done) | (simp only [List.map_cons, List.map_nil, List.sum_cons, List.sum_nil, mj_rfc, mj_ci, mj_cl]; decide)) id (mj_kI (fun x μ' hP e1 e2 => mj_lvs [0, 1, 2, 3] rfl (H x μ' hP e1 e2)))

set_option maxRecDepth 20000 in
theorem bk_M_part_5 {G : mj_G} {Ex : Option Value → mj_MM → Prop} {N S : Nat} {μ : mj_MM} {h0 : Nat} {v1 : Int32} {v2 : Int32} {v3 : Int64} {s0 : Int32}
    (H : ((s0 = 0 → ((v2 < 0 → Ex (some (.int (-2))) μ) ∧ (¬ v2 < 0 → ((13 < v2 → Ex (some (.int (-2))) μ) ∧ (¬ 13 < v2 → (∃ P : Int32 → mj_MM → Prop, mj_M G my_M_good mY_M_good [.int v2, .long v3] (mj_nc μ) (mj_ns μ) μ (mj_XI P) ∧ ∀ (x : Int32) (μ' : mj_MM), P x μ' → mj_nc μ' = mj_nc μ → mj_ns μ' = mj_ns μ → mj_J G mY_M_part Ex N S 25 [(0, va_rf (some h0)), (1, .int v1), (2, .int v2), (3, .long v3)] [.int x] μ')))))) ∧ (¬ s0 = 0 → Ex (some (.int (-1))) μ))) :
    mj_J G mY_M_part Ex N S 5 [(0, va_rf (some h0)), (1, .int v1), (2, .int v2), (3, .long v3)] [.int s0] μ := by
  obtain ⟨H1, H2⟩ := H
  refine mj_if_eq (tgt := 10) md_M_part_5 (by decide) (fun hx => ?_) (fun hx => ?_)
  · replace H := H1 hx
    refine mj_iload_n 2 md_M_part_10 rfl ?_
    obtain ⟨H1, H2⟩ := H
    refine mj_if_lt (tgt := 28) md_M_part_11 (by decide) (fun hx => ?_) (fun hx => ?_)
    · replace H := H1 hx
      refine mj_bipush (v := (-2)) md_M_part_28 (by decide) ?_
      exact mj_ireturn md_M_part_30 rfl rfl H
    · replace H := H2 hx
      refine mj_iload_n 2 md_M_part_14 rfl ?_
      refine mj_bipush (v := 13) md_M_part_15 (by decide) ?_
      obtain ⟨H1, H2⟩ := H
      refine mj_icmp_gt (tgt := 28) md_M_part_17 (by decide) (fun hx => ?_) (fun hx => ?_)
      · replace H := H1 hx
        refine mj_bipush (v := (-2)) md_M_part_28 (by decide) ?_
        exact mj_ireturn md_M_part_30 rfl rfl H
      · replace H := H2 hx
        refine mj_iload_n 2 md_M_part_20 rfl ?_
        refine mj_lload_n 3 md_M_part_21 rfl ?_
        obtain ⟨P, hM, H⟩ := H
        exact mj_callS (n := 2) (As := [.int v2, .long v3]) hM ⟨tw_774, tw_8, tw_776, ⟨by decide, by decide, by decide +kernel⟩, by decide, by decide⟩ tw_775 rfl md_M_part_22 (by first | decide | (simp only [List.map_cons, List.map_nil, List.sum_cons, List.sum_nil, mj_rfc, mj_ci, mj_cl]; done) | (simp only [List.map_cons, List.map_nil, List.sum_cons, List.sum_nil, mj_rfc, mj_ci, mj_cl]; decide)) id (mj_kI (fun x μ' hP e1 e2 => mj_lvs [0, 1, 2, 3] rfl (H x μ' hP e1 e2)))
  · replace H := H2 hx
    refine mj_iconst (v := (-1)) md_M_part_8 (by decide) ?_
    exact mj_ireturn md_M_part_9 rfl rfl H

set_option maxRecDepth 20000 in
theorem bk_M_part_25 {G : mj_G} {Ex : Option Value → mj_MM → Prop} {N S : Nat} {μ : mj_MM} {h0 : Nat} {v1 : Int32} {v2 : Int32} {v3 : Int64} {s0 : Int32}
    (H : ((¬ s0 = 0 → ((mj_t μ h0 = 11) ∧ (((mj_l μ h0 43) ≤ 0 → ((¬ (mj_i μ h0 7) = 500 → (∃ b2 : Nat, (mj_r μ h0 8 = some b2) ∧ (mj_t μ b2 = 1000) ∧ (vp_in (mj_i μ h0 7) (mj_n μ b2)) ∧ ∃ b6 : Nat, (mj_r μ h0 9 = some b6) ∧ (mj_t μ b6 = 1000) ∧ (vp_in (mj_i μ h0 7) (mj_n μ b6)) ∧ ∃ b10 : Nat, (mj_r μ h0 10 = some b10) ∧ (mj_t μ b10 = 1001) ∧ (vp_in (mj_i μ h0 7) (mj_n μ b10)) ∧ mj_J G mY_M_part Ex N S 102 [(0, va_rf (some h0)), (1, .int v1), (5, .int 0), (6, .int 0)] [] (mj_pI (mj_pL (mj_pI (mj_pI μ b2 (Int32.toNatClampNeg (mj_i μ h0 7)) v1) b6 (Int32.toNatClampNeg (mj_i μ h0 7)) v2) b10 (Int32.toNatClampNeg (mj_i μ h0 7)) v3) h0 7 ((mj_i μ h0 7) + 1)))) ∧ ((mj_i μ h0 7) = 500 → Ex (some (.int (-4))) μ))) ∧ (¬ (mj_l μ h0 43) ≤ 0 → Ex (some (.int (-3))) μ)))) ∧ (s0 = 0 → Ex (some (.int (-2))) μ))) :
    mj_J G mY_M_part Ex N S 25 [(0, va_rf (some h0)), (1, .int v1), (2, .int v2), (3, .long v3)] [.int s0] μ := by
  obtain ⟨H1, H2⟩ := H
  refine mj_if_ne (tgt := 31) md_M_part_25 (by decide) (fun hx => ?_) (fun hx => ?_)
  · replace H := H1 hx
    refine mj_aload_n 0 md_M_part_31 rfl ?_
    obtain ⟨ht1, H⟩ := H
    refine mj_getf (v := .long (mj_l μ h0 43)) rfl kc_M 43 (by decide) tw_666 md_M_part_32 ht1 rfl ?_
    refine mj_lconst (v := 0) md_M_part_35 (by decide) ?_
    refine mj_lcmp md_M_part_36 ?_
    obtain ⟨H1, H2⟩ := H
    refine mj_if_le (tgt := 43) md_M_part_37 (by decide) (fun hx => ?_) (fun hx => ?_)
    · replace H := H1 ((lg_cmp_le (mj_l μ h0 43) 0).mp hx)
      refine mj_aload_n 0 md_M_part_43 rfl ?_
      refine mj_getf (v := .int (mj_i μ h0 7)) rfl kc_M 7 (by decide) tw_630 md_M_part_44 ht1 rfl ?_
      refine mj_sipush (v := 500) md_M_part_47 (by decide) ?_
      obtain ⟨H1, H2⟩ := H
      refine mj_icmp_ne (tgt := 56) md_M_part_50 (by decide) (fun hx => ?_) (fun hx => ?_)
      · replace H := H1 hx
        refine mj_aload_n 0 md_M_part_56 rfl ?_
        refine mj_getf (v := va_rf (mj_r μ h0 8)) rfl kc_M 8 (by decide) tw_631 md_M_part_57 ht1 rfl ?_
        refine mj_aload_n 0 md_M_part_60 rfl ?_
        refine mj_getf (v := .int (mj_i μ h0 7)) rfl kc_M 7 (by decide) tw_630 md_M_part_61 ht1 rfl ?_
        refine mj_iload_n 1 md_M_part_64 rfl ?_
        obtain ⟨b2, hb3, H⟩ := H
        obtain ⟨ht4, H⟩ := H
        obtain ⟨hi5, H⟩ := H
        refine mj_iast (t := 0) hb3 rfl ht4 hi5 md_M_part_65 ?_
        refine mj_aload_n 0 md_M_part_66 rfl ?_
        refine mj_getf (v := va_rf (mj_r μ h0 9)) rfl kc_M 9 (by decide) tw_632 md_M_part_67 ht1 rfl ?_
        refine mj_aload_n 0 md_M_part_70 rfl ?_
        refine mj_getf (v := .int (mj_i μ h0 7)) rfl kc_M 7 (by decide) tw_630 md_M_part_71 ht1 (by show Value.int (mj_i (mj_pI μ b2 (Int32.toNatClampNeg (mj_i μ h0 7)) v1) h0 7) = _; rw [mj_ki (mj_ne ht1 ht4 (by decide))]; try rfl) ?_
        refine mj_iload_n 2 md_M_part_74 rfl ?_
        obtain ⟨b6, hb7, H⟩ := H
        obtain ⟨ht8, H⟩ := H
        obtain ⟨hi9, H⟩ := H
        refine mj_iast (t := 0) hb7 rfl ht8 hi9 md_M_part_75 ?_
        refine mj_aload_n 0 md_M_part_76 rfl ?_
        refine mj_getf (v := va_rf (mj_r μ h0 10)) rfl kc_M 10 (by decide) tw_633 md_M_part_77 ht1 rfl ?_
        refine mj_aload_n 0 md_M_part_80 rfl ?_
        refine mj_getf (v := .int (mj_i μ h0 7)) rfl kc_M 7 (by decide) tw_630 md_M_part_81 ht1 (by show Value.int (mj_i (mj_pI (mj_pI μ b2 (Int32.toNatClampNeg (mj_i μ h0 7)) v1) b6 (Int32.toNatClampNeg (mj_i μ h0 7)) v2) h0 7) = _; rw [mj_ki (mj_ne ht1 ht8 (by decide))]; show Value.int (mj_i (mj_pI μ b2 (Int32.toNatClampNeg (mj_i μ h0 7)) v1) h0 7) = _; rw [mj_ki (mj_ne ht1 ht4 (by decide))]; try rfl) ?_
        refine mj_lload_n 3 md_M_part_84 rfl ?_
        obtain ⟨b10, hb11, H⟩ := H
        obtain ⟨ht12, H⟩ := H
        obtain ⟨hi13, H⟩ := H
        refine mj_last (t := 1) hb11 rfl ht12 hi13 md_M_part_85 ?_
        refine mj_aload_n 0 md_M_part_86 rfl ?_
        refine mj_dup md_M_part_87 (mj_rfc _) ?_
        refine mj_getf (v := .int (mj_i μ h0 7)) rfl kc_M 7 (by decide) tw_630 md_M_part_88 ht1 (by show Value.int (mj_i (mj_pI (mj_pI μ b2 (Int32.toNatClampNeg (mj_i μ h0 7)) v1) b6 (Int32.toNatClampNeg (mj_i μ h0 7)) v2) h0 7) = _; rw [mj_ki (mj_ne ht1 ht8 (by decide))]; show Value.int (mj_i (mj_pI μ b2 (Int32.toNatClampNeg (mj_i μ h0 7)) v1) h0 7) = _; rw [mj_ki (mj_ne ht1 ht4 (by decide))]; try rfl) ?_
        refine mj_iconst (v := 1) md_M_part_91 (by decide) ?_
        refine mj_iadd md_M_part_92 ?_
        refine mj_putI rfl kc_M 7 (by decide) rfl tw_630 md_M_part_93 (Or.inl rfl) ht1 rfl rfl ?_
        refine mj_iconst (v := 0) md_M_part_96 (by decide) ?_
        refine mj_istore (lv' := [(5, .int 0), (0, va_rf (some h0)), (1, .int v1), (2, .int v2), (3, .long v3)]) md_M_part_97 (by decide) (by first | rfl | (simp [mj_rfc]; done) | (simp [mj_rfc]; rfl)) ?_
        refine mj_iconst (v := 0) md_M_part_99 (by decide) ?_
        refine mj_istore (lv' := [(6, .int 0), (5, .int 0), (0, va_rf (some h0)), (1, .int v1), (2, .int v2), (3, .long v3)]) md_M_part_100 (by decide) (by first | rfl | (simp [mj_rfc]; done) | (simp [mj_rfc]; rfl)) ?_
        exact mj_lvs [2, 3, 1, 0] rfl H
      · replace H := H2 hx
        refine mj_bipush (v := (-4)) md_M_part_53 (by decide) ?_
        exact mj_ireturn md_M_part_55 rfl rfl H
    · replace H := H2 (fun hy => hx ((lg_cmp_le (mj_l μ h0 43) 0).mpr hy))
      refine mj_bipush (v := (-3)) md_M_part_40 (by decide) ?_
      exact mj_ireturn md_M_part_42 rfl rfl H
  · replace H := H2 hx
    refine mj_bipush (v := (-2)) md_M_part_28 (by decide) ?_
    exact mj_ireturn md_M_part_30 rfl rfl H

set_option maxRecDepth 20000 in
theorem bk_M_part_102 {G : mj_G} {Ex : Option Value → mj_MM → Prop} {N S : Nat} {μ : mj_MM} {h0 : Nat} {v1 : Int32} {v5 : Int32} {v6 : Int32}
    (H : ((mj_t μ h0 = 11) ∧ (((mj_i μ h0 7) ≤ v6 → Ex (some (.int v5)) μ) ∧ (¬ (mj_i μ h0 7) ≤ v6 → (∃ b2 : Nat, (mj_r μ h0 8 = some b2) ∧ (mj_t μ b2 = 1000) ∧ (vp_in v6 (mj_n μ b2)) ∧ ((¬ (mj_i μ b2 (Int32.toNatClampNeg v6)) = v1 → mj_J G mY_M_part Ex N S 102 [(0, va_rf (some h0)), (1, .int v1), (5, .int v5), (6, .int (v6 + 1))] [] μ) ∧ ((mj_i μ b2 (Int32.toNatClampNeg v6)) = v1 → mj_J G mY_M_part Ex N S 102 [(0, va_rf (some h0)), (1, .int v1), (5, .int (v5 + 1)), (6, .int (v6 + 1))] [] μ))))))) :
    mj_J G mY_M_part Ex N S 102 [(0, va_rf (some h0)), (1, .int v1), (5, .int v5), (6, .int v6)] [] μ := by
  refine mj_iload 3 md_M_part_102 rfl ?_
  refine mj_aload_n 0 md_M_part_104 rfl ?_
  obtain ⟨ht1, H⟩ := H
  refine mj_getf (v := .int (mj_i μ h0 7)) rfl kc_M 7 (by decide) tw_630 md_M_part_105 ht1 rfl ?_
  obtain ⟨H1, H2⟩ := H
  refine mj_icmp_ge (tgt := 139) md_M_part_108 (by decide) (fun hx => ?_) (fun hx => ?_)
  · replace H := H1 hx
    refine mj_iload 2 md_M_part_139 rfl ?_
    exact mj_ireturn md_M_part_141 rfl rfl H
  · replace H := H2 hx
    refine mj_aload_n 0 md_M_part_111 rfl ?_
    refine mj_getf (v := va_rf (mj_r μ h0 8)) rfl kc_M 8 (by decide) tw_631 md_M_part_112 ht1 rfl ?_
    refine mj_iload 3 md_M_part_115 rfl ?_
    obtain ⟨b2, hb3, H⟩ := H
    obtain ⟨ht4, H⟩ := H
    obtain ⟨hi5, H⟩ := H
    refine mj_iald (t := 0) hb3 rfl ht4 hi5 md_M_part_117 ?_
    refine mj_iload_n 1 md_M_part_118 rfl ?_
    obtain ⟨H1, H2⟩ := H
    refine mj_icmp_ne (tgt := 129) md_M_part_119 (by decide) (fun hx => ?_) (fun hx => ?_)
    · replace H := H1 hx
      refine mj_iload 2 md_M_part_129 rfl ?_
      refine mj_istore (lv' := [(5, .int v5), (0, va_rf (some h0)), (1, .int v1), (6, .int v6)]) md_M_part_131 (by decide) (by first | rfl | (simp [mj_rfc]; done) | (simp [mj_rfc]; rfl)) ?_
      refine mj_iinc (j := 3) (v := v6 + 1) (lv' := [(6, .int (v6 + 1)), (5, .int v5), (0, va_rf (some h0)), (1, .int v1)]) md_M_part_133 rfl rfl (by decide) (by first | rfl | (simp [mj_rfc]; done) | (simp [mj_rfc]; rfl)) ?_
      refine mj_goto (tgt := 102) md_M_part_136 (by decide) ?_
      exact mj_lvs [2, 3, 1, 0] rfl H
    · replace H := H2 hx
      refine mj_iload 2 md_M_part_122 rfl ?_
      refine mj_iconst (v := 1) md_M_part_124 (by decide) ?_
      refine mj_iadd md_M_part_125 ?_
      refine mj_goto (tgt := 131) md_M_part_126 (by decide) ?_
      refine mj_istore (lv' := [(5, .int (v5 + 1)), (0, va_rf (some h0)), (1, .int v1), (6, .int v6)]) md_M_part_131 (by decide) (by first | rfl | (simp [mj_rfc]; done) | (simp [mj_rfc]; rfl)) ?_
      refine mj_iinc (j := 3) (v := v6 + 1) (lv' := [(6, .int (v6 + 1)), (5, .int (v5 + 1)), (0, va_rf (some h0)), (1, .int v1)]) md_M_part_133 rfl rfl (by decide) (by first | rfl | (simp [mj_rfc]; done) | (simp [mj_rfc]; rfl)) ?_
      refine mj_goto (tgt := 102) md_M_part_136 (by decide) ?_
      exact mj_lvs [2, 3, 1, 0] rfl H

set_option maxRecDepth 20000 in
theorem bk_M_manner_0 {G : mj_G} {Ex : Option Value → mj_MM → Prop} {N S : Nat} {μ : mj_MM} {h0 : Nat} {v1 : Int32} {v2 : Int32}
    (H : ((mj_t μ h0 = 11) ∧ (∃ P : Int32 → mj_MM → Prop, mj_M G my_M_no mY_M_no [va_rf (some h0), .int v1] (mj_nc μ) (mj_ns μ) μ (mj_XI P) ∧ ∀ (x : Int32) (μ' : mj_MM), P x μ' → mj_nc μ' = mj_nc μ → mj_ns μ' = mj_ns μ → mj_J G mY_M_manner Ex N S 5 [(0, va_rf (some h0)), (1, .int v1), (2, .int v2)] [.int x] μ'))) :
    mj_J G mY_M_manner Ex N S 0 [(0, va_rf (some h0)), (1, .int v1), (2, .int v2)] [] μ := by
  refine mj_aload_n 0 md_M_manner_0 rfl ?_
  refine mj_iload_n 1 md_M_manner_1 rfl ?_
  obtain ⟨ht1, H⟩ := H
  obtain ⟨P, hM, H⟩ := H
  exact mj_callV (n := 1) (As := [.int v1]) rfl hM kc_M ht1 ⟨tw_770, tw_8, tw_773, ⟨by decide, by decide, by decide +kernel⟩, by decide, by decide⟩ tw_772 tp_32 rfl md_M_manner_2 (by first | decide | (simp only [List.map_cons, List.map_nil, List.sum_cons, List.sum_nil, mj_rfc, mj_ci, mj_cl]; done) | (simp only [List.map_cons, List.map_nil, List.sum_cons, List.sum_nil, mj_rfc, mj_ci, mj_cl]; decide)) id (mj_kI (fun x μ' hP e1 e2 => mj_lvs [0, 1, 2] rfl (H x μ' hP e1 e2)))

set_option maxRecDepth 20000 in
theorem bk_M_manner_5 {G : mj_G} {Ex : Option Value → mj_MM → Prop} {N S : Nat} {μ : mj_MM} {h0 : Nat} {v1 : Int32} {v2 : Int32} {s0 : Int32}
    (H : ((s0 = 0 → ((mj_t μ h0 = 11) ∧ (((mj_l μ h0 43) ≤ 0 → (∃ b2 : Nat, (mj_r μ h0 6 = some b2) ∧ (mj_t μ b2 = 1002) ∧ (vp_in v1 (mj_n μ b2)) ∧ (narrow .boolean (.int v2) = .int v2) ∧ Ex (some (.int 1)) (mj_pI μ b2 (Int32.toNatClampNeg v1) v2))) ∧ (¬ (mj_l μ h0 43) ≤ 0 → Ex (some (.int (-3))) μ)))) ∧ (¬ s0 = 0 → Ex (some (.int (-1))) μ))) :
    mj_J G mY_M_manner Ex N S 5 [(0, va_rf (some h0)), (1, .int v1), (2, .int v2)] [.int s0] μ := by
  obtain ⟨H1, H2⟩ := H
  refine mj_if_eq (tgt := 10) md_M_manner_5 (by decide) (fun hx => ?_) (fun hx => ?_)
  · replace H := H1 hx
    refine mj_aload_n 0 md_M_manner_10 rfl ?_
    obtain ⟨ht1, H⟩ := H
    refine mj_getf (v := .long (mj_l μ h0 43)) rfl kc_M 43 (by decide) tw_666 md_M_manner_11 ht1 rfl ?_
    refine mj_lconst (v := 0) md_M_manner_14 (by decide) ?_
    refine mj_lcmp md_M_manner_15 ?_
    obtain ⟨H1, H2⟩ := H
    refine mj_if_le (tgt := 22) md_M_manner_16 (by decide) (fun hx => ?_) (fun hx => ?_)
    · replace H := H1 ((lg_cmp_le (mj_l μ h0 43) 0).mp hx)
      refine mj_aload_n 0 md_M_manner_22 rfl ?_
      refine mj_getf (v := va_rf (mj_r μ h0 6)) rfl kc_M 6 (by decide) tw_629 md_M_manner_23 ht1 rfl ?_
      refine mj_iload_n 1 md_M_manner_26 rfl ?_
      refine mj_iload_n 2 md_M_manner_27 rfl ?_
      obtain ⟨b2, hb3, H⟩ := H
      obtain ⟨ht4, H⟩ := H
      obtain ⟨hi5, H⟩ := H
      obtain ⟨hz6, H⟩ := H
      refine mj_zast (t := 2) hb3 rfl ht4 hi5 hz6 md_M_manner_28 ?_
      refine mj_iconst (v := 1) md_M_manner_29 (by decide) ?_
      exact mj_ireturn md_M_manner_30 rfl rfl H
    · replace H := H2 (fun hy => hx ((lg_cmp_le (mj_l μ h0 43) 0).mpr hy))
      refine mj_bipush (v := (-3)) md_M_manner_19 (by decide) ?_
      exact mj_ireturn md_M_manner_21 rfl rfl H
  · replace H := H2 hx
    refine mj_iconst (v := (-1)) md_M_manner_8 (by decide) ?_
    exact mj_ireturn md_M_manner_9 rfl rfl H

set_option maxRecDepth 20000 in
theorem bk_M_activate_0 {G : mj_G} {Ex : Option Value → mj_MM → Prop} {N S : Nat} {μ : mj_MM} {h0 : Nat} {v1 : Int32} {v2 : Int64}
    (H : ((mj_t μ h0 = 11) ∧ (∃ P : Int32 → mj_MM → Prop, mj_M G my_M_no mY_M_no [va_rf (some h0), .int v1] (mj_nc μ) (mj_ns μ) μ (mj_XI P) ∧ ∀ (x : Int32) (μ' : mj_MM), P x μ' → mj_nc μ' = mj_nc μ → mj_ns μ' = mj_ns μ → mj_J G mY_M_activate Ex N S 5 [(0, va_rf (some h0)), (1, .int v1), (2, .long v2)] [.int x] μ'))) :
    mj_J G mY_M_activate Ex N S 0 [(0, va_rf (some h0)), (1, .int v1), (2, .long v2)] [] μ := by
  refine mj_aload_n 0 md_M_activate_0 rfl ?_
  refine mj_iload_n 1 md_M_activate_1 rfl ?_
  obtain ⟨ht1, H⟩ := H
  obtain ⟨P, hM, H⟩ := H
  exact mj_callV (n := 1) (As := [.int v1]) rfl hM kc_M ht1 ⟨tw_770, tw_8, tw_773, ⟨by decide, by decide, by decide +kernel⟩, by decide, by decide⟩ tw_772 tp_32 rfl md_M_activate_2 (by first | decide | (simp only [List.map_cons, List.map_nil, List.sum_cons, List.sum_nil, mj_rfc, mj_ci, mj_cl]; done) | (simp only [List.map_cons, List.map_nil, List.sum_cons, List.sum_nil, mj_rfc, mj_ci, mj_cl]; decide)) id (mj_kI (fun x μ' hP e1 e2 => mj_lvs [0, 1, 2] rfl (H x μ' hP e1 e2)))

set_option maxRecDepth 20000 in
theorem bk_M_activate_5 {G : mj_G} {Ex : Option Value → mj_MM → Prop} {N S : Nat} {μ : mj_MM} {h0 : Nat} {v1 : Int32} {v2 : Int64} {s0 : Int32}
    (H : ((s0 = 0 → ((mj_t μ h0 = 11) ∧ ((v2 < (mj_l μ h0 43) → Ex (some (.int (-2))) μ) ∧ (¬ v2 < (mj_l μ h0 43) → ((v2 ≤ 50000 → ((¬ (mj_i μ h0 32) = 500 → (∃ b2 : Nat, (mj_r μ h0 33 = some b2) ∧ (mj_t μ b2 = 1000) ∧ (vp_in (mj_i μ h0 32) (mj_n μ b2)) ∧ ∃ b6 : Nat, (mj_r μ h0 34 = some b6) ∧ (mj_t μ b6 = 1001) ∧ (vp_in (mj_i μ h0 32) (mj_n μ b6)) ∧ Ex (some (.int 1)) (mj_pI (mj_pL (mj_pI μ b2 (Int32.toNatClampNeg (mj_i μ h0 32)) v1) b6 (Int32.toNatClampNeg (mj_i μ h0 32)) v2) h0 32 ((mj_i μ h0 32) + 1)))) ∧ ((mj_i μ h0 32) = 500 → Ex (some (.int (-4))) μ))) ∧ (¬ v2 ≤ 50000 → Ex (some (.int (-2))) μ)))))) ∧ (¬ s0 = 0 → Ex (some (.int (-1))) μ))) :
    mj_J G mY_M_activate Ex N S 5 [(0, va_rf (some h0)), (1, .int v1), (2, .long v2)] [.int s0] μ := by
  obtain ⟨H1, H2⟩ := H
  refine mj_if_eq (tgt := 10) md_M_activate_5 (by decide) (fun hx => ?_) (fun hx => ?_)
  · replace H := H1 hx
    refine mj_lload_n 2 md_M_activate_10 rfl ?_
    refine mj_aload_n 0 md_M_activate_11 rfl ?_
    obtain ⟨ht1, H⟩ := H
    refine mj_getf (v := .long (mj_l μ h0 43)) rfl kc_M 43 (by decide) tw_666 md_M_activate_12 ht1 rfl ?_
    refine mj_lcmp md_M_activate_15 ?_
    obtain ⟨H1, H2⟩ := H
    refine mj_if_lt (tgt := 27) md_M_activate_16 (by decide) (fun hx => ?_) (fun hx => ?_)
    · replace H := H1 ((lg_cmp_lt v2 (mj_l μ h0 43)).mp hx)
      refine mj_bipush (v := (-2)) md_M_activate_27 (by decide) ?_
      exact mj_ireturn md_M_activate_29 rfl rfl H
    · replace H := H2 (fun hy => hx ((lg_cmp_lt v2 (mj_l μ h0 43)).mpr hy))
      refine mj_lload_n 2 md_M_activate_19 rfl ?_
      refine mj_ldc2 (v := 50000) tw_777 md_M_activate_20 ?_
      refine mj_lcmp md_M_activate_23 ?_
      obtain ⟨H1, H2⟩ := H
      refine mj_if_le (tgt := 30) md_M_activate_24 (by decide) (fun hx => ?_) (fun hx => ?_)
      · replace H := H1 ((lg_cmp_le v2 50000).mp hx)
        refine mj_aload_n 0 md_M_activate_30 rfl ?_
        refine mj_getf (v := .int (mj_i μ h0 32)) rfl kc_M 32 (by decide) tw_655 md_M_activate_31 ht1 rfl ?_
        refine mj_sipush (v := 500) md_M_activate_34 (by decide) ?_
        obtain ⟨H1, H2⟩ := H
        refine mj_icmp_ne (tgt := 43) md_M_activate_37 (by decide) (fun hx => ?_) (fun hx => ?_)
        · replace H := H1 hx
          refine mj_aload_n 0 md_M_activate_43 rfl ?_
          refine mj_getf (v := va_rf (mj_r μ h0 33)) rfl kc_M 33 (by decide) tw_656 md_M_activate_44 ht1 rfl ?_
          refine mj_aload_n 0 md_M_activate_47 rfl ?_
          refine mj_getf (v := .int (mj_i μ h0 32)) rfl kc_M 32 (by decide) tw_655 md_M_activate_48 ht1 rfl ?_
          refine mj_iload_n 1 md_M_activate_51 rfl ?_
          obtain ⟨b2, hb3, H⟩ := H
          obtain ⟨ht4, H⟩ := H
          obtain ⟨hi5, H⟩ := H
          refine mj_iast (t := 0) hb3 rfl ht4 hi5 md_M_activate_52 ?_
          refine mj_aload_n 0 md_M_activate_53 rfl ?_
          refine mj_getf (v := va_rf (mj_r μ h0 34)) rfl kc_M 34 (by decide) tw_657 md_M_activate_54 ht1 rfl ?_
          refine mj_aload_n 0 md_M_activate_57 rfl ?_
          refine mj_getf (v := .int (mj_i μ h0 32)) rfl kc_M 32 (by decide) tw_655 md_M_activate_58 ht1 (by show Value.int (mj_i (mj_pI μ b2 (Int32.toNatClampNeg (mj_i μ h0 32)) v1) h0 32) = _; rw [mj_ki (mj_ne ht1 ht4 (by decide))]; try rfl) ?_
          refine mj_lload_n 2 md_M_activate_61 rfl ?_
          obtain ⟨b6, hb7, H⟩ := H
          obtain ⟨ht8, H⟩ := H
          obtain ⟨hi9, H⟩ := H
          refine mj_last (t := 1) hb7 rfl ht8 hi9 md_M_activate_62 ?_
          refine mj_aload_n 0 md_M_activate_63 rfl ?_
          refine mj_dup md_M_activate_64 (mj_rfc _) ?_
          refine mj_getf (v := .int (mj_i μ h0 32)) rfl kc_M 32 (by decide) tw_655 md_M_activate_65 ht1 (by show Value.int (mj_i (mj_pI μ b2 (Int32.toNatClampNeg (mj_i μ h0 32)) v1) h0 32) = _; rw [mj_ki (mj_ne ht1 ht4 (by decide))]; try rfl) ?_
          refine mj_iconst (v := 1) md_M_activate_68 (by decide) ?_
          refine mj_iadd md_M_activate_69 ?_
          refine mj_putI rfl kc_M 32 (by decide) rfl tw_655 md_M_activate_70 (Or.inl rfl) ht1 rfl rfl ?_
          refine mj_iconst (v := 1) md_M_activate_73 (by decide) ?_
          exact mj_ireturn md_M_activate_74 rfl rfl H
        · replace H := H2 hx
          refine mj_bipush (v := (-4)) md_M_activate_40 (by decide) ?_
          exact mj_ireturn md_M_activate_42 rfl rfl H
      · replace H := H2 (fun hy => hx ((lg_cmp_le v2 50000).mpr hy))
        refine mj_bipush (v := (-2)) md_M_activate_27 (by decide) ?_
        exact mj_ireturn md_M_activate_29 rfl rfl H
  · replace H := H2 hx
    refine mj_iconst (v := (-1)) md_M_activate_8 (by decide) ?_
    exact mj_ireturn md_M_activate_9 rfl rfl H

set_option maxRecDepth 20000 in
theorem bk_M_interrupt_0 {G : mj_G} {Ex : Option Value → mj_MM → Prop} {N S : Nat} {μ : mj_MM} {h0 : Nat} {v1 : Int32} {v2 : Int64} {v4 : Int64}
    (H : ((v1 < 1 → Ex (some (.int (-2))) μ) ∧ (¬ v1 < 1 → ((15 < v1 → Ex (some (.int (-2))) μ) ∧ (¬ 15 < v1 → ((mj_t μ h0 = 11) ∧ ((v2 < (mj_l μ h0 43) → Ex (some (.int (-2))) μ) ∧ (¬ v2 < (mj_l μ h0 43) → ((50000 < v2 → Ex (some (.int (-2))) μ) ∧ (¬ 50000 < v2 → ((v4 < 1 → Ex (some (.int (-2))) μ) ∧ (¬ v4 < 1 → ((v4 ≤ 10000 → ((¬ (mj_i μ h0 35) = 500 → (∃ b2 : Nat, (mj_r μ h0 36 = some b2) ∧ (mj_t μ b2 = 1000) ∧ (vp_in (mj_i μ h0 35) (mj_n μ b2)) ∧ ∃ b6 : Nat, (mj_r μ h0 37 = some b6) ∧ (mj_t μ b6 = 1001) ∧ (vp_in (mj_i μ h0 35) (mj_n μ b6)) ∧ ∃ b10 : Nat, (mj_r μ h0 38 = some b10) ∧ (mj_t μ b10 = 1001) ∧ (vp_in (mj_i μ h0 35) (mj_n μ b10)) ∧ Ex (some (.int ((mj_i μ h0 35) + 1))) (mj_pI (mj_pL (mj_pL (mj_pI μ b2 (Int32.toNatClampNeg (mj_i μ h0 35)) v1) b6 (Int32.toNatClampNeg (mj_i μ h0 35)) v2) b10 (Int32.toNatClampNeg (mj_i μ h0 35)) v4) h0 35 ((mj_i μ h0 35) + 1)))) ∧ ((mj_i μ h0 35) = 500 → Ex (some (.int (-4))) μ))) ∧ (¬ v4 ≤ 10000 → Ex (some (.int (-2))) μ)))))))))))))) :
    mj_J G mY_M_interrupt Ex N S 0 [(0, va_rf (some h0)), (1, .int v1), (2, .long v2), (4, .long v4)] [] μ := by
  refine mj_iload_n 1 md_M_interrupt_0 rfl ?_
  refine mj_iconst (v := 1) md_M_interrupt_1 (by decide) ?_
  obtain ⟨H1, H2⟩ := H
  refine mj_icmp_lt (tgt := 44) md_M_interrupt_2 (by decide) (fun hx => ?_) (fun hx => ?_)
  · replace H := H1 hx
    refine mj_bipush (v := (-2)) md_M_interrupt_44 (by decide) ?_
    exact mj_ireturn md_M_interrupt_46 rfl rfl H
  · replace H := H2 hx
    refine mj_iload_n 1 md_M_interrupt_5 rfl ?_
    refine mj_bipush (v := 15) md_M_interrupt_6 (by decide) ?_
    obtain ⟨H1, H2⟩ := H
    refine mj_icmp_gt (tgt := 44) md_M_interrupt_8 (by decide) (fun hx => ?_) (fun hx => ?_)
    · replace H := H1 hx
      refine mj_bipush (v := (-2)) md_M_interrupt_44 (by decide) ?_
      exact mj_ireturn md_M_interrupt_46 rfl rfl H
    · replace H := H2 hx
      refine mj_lload_n 2 md_M_interrupt_11 rfl ?_
      refine mj_aload_n 0 md_M_interrupt_12 rfl ?_
      obtain ⟨ht1, H⟩ := H
      refine mj_getf (v := .long (mj_l μ h0 43)) rfl kc_M 43 (by decide) tw_666 md_M_interrupt_13 ht1 rfl ?_
      refine mj_lcmp md_M_interrupt_16 ?_
      obtain ⟨H1, H2⟩ := H
      refine mj_if_lt (tgt := 44) md_M_interrupt_17 (by decide) (fun hx => ?_) (fun hx => ?_)
      · replace H := H1 ((lg_cmp_lt v2 (mj_l μ h0 43)).mp hx)
        refine mj_bipush (v := (-2)) md_M_interrupt_44 (by decide) ?_
        exact mj_ireturn md_M_interrupt_46 rfl rfl H
      · replace H := H2 (fun hy => hx ((lg_cmp_lt v2 (mj_l μ h0 43)).mpr hy))
        refine mj_lload_n 2 md_M_interrupt_20 rfl ?_
        refine mj_ldc2 (v := 50000) tw_777 md_M_interrupt_21 ?_
        refine mj_lcmp md_M_interrupt_24 ?_
        obtain ⟨H1, H2⟩ := H
        refine mj_if_gt (tgt := 44) md_M_interrupt_25 (by decide) (fun hx => ?_) (fun hx => ?_)
        · replace H := H1 ((lg_cmp_gt v2 50000).mp hx)
          refine mj_bipush (v := (-2)) md_M_interrupt_44 (by decide) ?_
          exact mj_ireturn md_M_interrupt_46 rfl rfl H
        · replace H := H2 (fun hy => hx ((lg_cmp_gt v2 50000).mpr hy))
          refine mj_lload 3 md_M_interrupt_28 rfl ?_
          refine mj_lconst (v := 1) md_M_interrupt_30 (by decide) ?_
          refine mj_lcmp md_M_interrupt_31 ?_
          obtain ⟨H1, H2⟩ := H
          refine mj_if_lt (tgt := 44) md_M_interrupt_32 (by decide) (fun hx => ?_) (fun hx => ?_)
          · replace H := H1 ((lg_cmp_lt v4 1).mp hx)
            refine mj_bipush (v := (-2)) md_M_interrupt_44 (by decide) ?_
            exact mj_ireturn md_M_interrupt_46 rfl rfl H
          · replace H := H2 (fun hy => hx ((lg_cmp_lt v4 1).mpr hy))
            refine mj_lload 3 md_M_interrupt_35 rfl ?_
            refine mj_ldc2 (v := 10000) tw_797 md_M_interrupt_37 ?_
            refine mj_lcmp md_M_interrupt_40 ?_
            obtain ⟨H1, H2⟩ := H
            refine mj_if_le (tgt := 47) md_M_interrupt_41 (by decide) (fun hx => ?_) (fun hx => ?_)
            · replace H := H1 ((lg_cmp_le v4 10000).mp hx)
              refine mj_aload_n 0 md_M_interrupt_47 rfl ?_
              refine mj_getf (v := .int (mj_i μ h0 35)) rfl kc_M 35 (by decide) tw_658 md_M_interrupt_48 ht1 rfl ?_
              refine mj_sipush (v := 500) md_M_interrupt_51 (by decide) ?_
              obtain ⟨H1, H2⟩ := H
              refine mj_icmp_ne (tgt := 60) md_M_interrupt_54 (by decide) (fun hx => ?_) (fun hx => ?_)
              · replace H := H1 hx
                refine mj_aload_n 0 md_M_interrupt_60 rfl ?_
                refine mj_getf (v := va_rf (mj_r μ h0 36)) rfl kc_M 36 (by decide) tw_659 md_M_interrupt_61 ht1 rfl ?_
                refine mj_aload_n 0 md_M_interrupt_64 rfl ?_
                refine mj_getf (v := .int (mj_i μ h0 35)) rfl kc_M 35 (by decide) tw_658 md_M_interrupt_65 ht1 rfl ?_
                refine mj_iload_n 1 md_M_interrupt_68 rfl ?_
                obtain ⟨b2, hb3, H⟩ := H
                obtain ⟨ht4, H⟩ := H
                obtain ⟨hi5, H⟩ := H
                refine mj_iast (t := 0) hb3 rfl ht4 hi5 md_M_interrupt_69 ?_
                refine mj_aload_n 0 md_M_interrupt_70 rfl ?_
                refine mj_getf (v := va_rf (mj_r μ h0 37)) rfl kc_M 37 (by decide) tw_660 md_M_interrupt_71 ht1 rfl ?_
                refine mj_aload_n 0 md_M_interrupt_74 rfl ?_
                refine mj_getf (v := .int (mj_i μ h0 35)) rfl kc_M 35 (by decide) tw_658 md_M_interrupt_75 ht1 (by show Value.int (mj_i (mj_pI μ b2 (Int32.toNatClampNeg (mj_i μ h0 35)) v1) h0 35) = _; rw [mj_ki (mj_ne ht1 ht4 (by decide))]; try rfl) ?_
                refine mj_lload_n 2 md_M_interrupt_78 rfl ?_
                obtain ⟨b6, hb7, H⟩ := H
                obtain ⟨ht8, H⟩ := H
                obtain ⟨hi9, H⟩ := H
                refine mj_last (t := 1) hb7 rfl ht8 hi9 md_M_interrupt_79 ?_
                refine mj_aload_n 0 md_M_interrupt_80 rfl ?_
                refine mj_getf (v := va_rf (mj_r μ h0 38)) rfl kc_M 38 (by decide) tw_661 md_M_interrupt_81 ht1 rfl ?_
                refine mj_aload_n 0 md_M_interrupt_84 rfl ?_
                refine mj_getf (v := .int (mj_i μ h0 35)) rfl kc_M 35 (by decide) tw_658 md_M_interrupt_85 ht1 (by show Value.int (mj_i (mj_pI μ b2 (Int32.toNatClampNeg (mj_i μ h0 35)) v1) h0 35) = _; rw [mj_ki (mj_ne ht1 ht4 (by decide))]; try rfl) ?_
                refine mj_lload 3 md_M_interrupt_88 rfl ?_
                obtain ⟨b10, hb11, H⟩ := H
                obtain ⟨ht12, H⟩ := H
                obtain ⟨hi13, H⟩ := H
                refine mj_last (t := 1) hb11 rfl ht12 hi13 md_M_interrupt_90 ?_
                refine mj_aload_n 0 md_M_interrupt_91 rfl ?_
                refine mj_dup md_M_interrupt_92 (mj_rfc _) ?_
                refine mj_getf (v := .int (mj_i μ h0 35)) rfl kc_M 35 (by decide) tw_658 md_M_interrupt_93 ht1 (by show Value.int (mj_i (mj_pI μ b2 (Int32.toNatClampNeg (mj_i μ h0 35)) v1) h0 35) = _; rw [mj_ki (mj_ne ht1 ht4 (by decide))]; try rfl) ?_
                refine mj_iconst (v := 1) md_M_interrupt_96 (by decide) ?_
                refine mj_iadd md_M_interrupt_97 ?_
                refine mj_putI rfl kc_M 35 (by decide) rfl tw_658 md_M_interrupt_98 (Or.inl rfl) ht1 rfl rfl ?_
                refine mj_aload_n 0 md_M_interrupt_101 rfl ?_
                refine mj_getf (v := .int ((mj_i μ h0 35) + 1)) rfl kc_M 35 (by decide) tw_658 md_M_interrupt_102 ht1 (by show Value.int (mj_i (mj_pI (mj_pL (mj_pL (mj_pI μ b2 (Int32.toNatClampNeg (mj_i μ h0 35)) v1) b6 (Int32.toNatClampNeg (mj_i μ h0 35)) v2) b10 (Int32.toNatClampNeg (mj_i μ h0 35)) v4) h0 35 ((mj_i μ h0 35) + 1)) h0 35) = _; rw [mj_sI]) ?_
                exact mj_ireturn md_M_interrupt_105 rfl rfl H
              · replace H := H2 hx
                refine mj_bipush (v := (-4)) md_M_interrupt_57 (by decide) ?_
                exact mj_ireturn md_M_interrupt_59 rfl rfl H
            · replace H := H2 (fun hy => hx ((lg_cmp_le v4 10000).mpr hy))
              refine mj_bipush (v := (-2)) md_M_interrupt_44 (by decide) ?_
              exact mj_ireturn md_M_interrupt_46 rfl rfl H

set_option maxRecDepth 20000 in
theorem bk_M_tell_0 {G : mj_G} {Ex : Option Value → mj_MM → Prop} {N S : Nat} {μ : mj_MM} {h0 : Nat} {v1 : Int32} {v2 : Int32}
    (H : ((mj_t μ h0 = 11) ∧ ((1000 ≤ (mj_i μ h0 39) → Ex none (mj_pI μ h0 39 ((mj_i μ h0 39) + 1))) ∧ (¬ 1000 ≤ (mj_i μ h0 39) → (∃ b2 : Nat, (mj_r μ h0 40 = some b2) ∧ (mj_t μ b2 = 1000) ∧ (vp_in (mj_i μ h0 39) (mj_n μ b2)) ∧ ∃ b6 : Nat, (mj_r μ h0 41 = some b6) ∧ (mj_t μ b6 = 1000) ∧ (vp_in (mj_i μ h0 39) (mj_n μ b6)) ∧ ∃ b10 : Nat, (mj_r μ h0 42 = some b10) ∧ (mj_t μ b10 = 1001) ∧ (vp_in (mj_i μ h0 39) (mj_n μ b10)) ∧ Ex none (mj_pI (mj_pL (mj_pI (mj_pI μ b2 (Int32.toNatClampNeg (mj_i μ h0 39)) v1) b6 (Int32.toNatClampNeg (mj_i μ h0 39)) v2) b10 (Int32.toNatClampNeg (mj_i μ h0 39)) (mj_l μ h0 43)) h0 39 ((mj_i μ h0 39) + 1))))))) :
    mj_J G mY_M_tell Ex N S 0 [(0, va_rf (some h0)), (1, .int v1), (2, .int v2)] [] μ := by
  refine mj_aload_n 0 md_M_tell_0 rfl ?_
  obtain ⟨ht1, H⟩ := H
  refine mj_getf (v := .int (mj_i μ h0 39)) rfl kc_M 39 (by decide) tw_662 md_M_tell_1 ht1 rfl ?_
  refine mj_sipush (v := 1000) md_M_tell_4 (by decide) ?_
  obtain ⟨H1, H2⟩ := H
  refine mj_icmp_ge (tgt := 43) md_M_tell_7 (by decide) (fun hx => ?_) (fun hx => ?_)
  · replace H := H1 hx
    refine mj_aload_n 0 md_M_tell_43 rfl ?_
    refine mj_dup md_M_tell_44 (mj_rfc _) ?_
    refine mj_getf (v := .int (mj_i μ h0 39)) rfl kc_M 39 (by decide) tw_662 md_M_tell_45 ht1 rfl ?_
    refine mj_iconst (v := 1) md_M_tell_48 (by decide) ?_
    refine mj_iadd md_M_tell_49 ?_
    refine mj_putI rfl kc_M 39 (by decide) rfl tw_662 md_M_tell_50 (Or.inl rfl) ht1 rfl rfl ?_
    exact mj_return md_M_tell_53 rfl H
  · replace H := H2 hx
    refine mj_aload_n 0 md_M_tell_10 rfl ?_
    refine mj_getf (v := va_rf (mj_r μ h0 40)) rfl kc_M 40 (by decide) tw_663 md_M_tell_11 ht1 rfl ?_
    refine mj_aload_n 0 md_M_tell_14 rfl ?_
    refine mj_getf (v := .int (mj_i μ h0 39)) rfl kc_M 39 (by decide) tw_662 md_M_tell_15 ht1 rfl ?_
    refine mj_iload_n 1 md_M_tell_18 rfl ?_
    obtain ⟨b2, hb3, H⟩ := H
    obtain ⟨ht4, H⟩ := H
    obtain ⟨hi5, H⟩ := H
    refine mj_iast (t := 0) hb3 rfl ht4 hi5 md_M_tell_19 ?_
    refine mj_aload_n 0 md_M_tell_20 rfl ?_
    refine mj_getf (v := va_rf (mj_r μ h0 41)) rfl kc_M 41 (by decide) tw_664 md_M_tell_21 ht1 rfl ?_
    refine mj_aload_n 0 md_M_tell_24 rfl ?_
    refine mj_getf (v := .int (mj_i μ h0 39)) rfl kc_M 39 (by decide) tw_662 md_M_tell_25 ht1 (by show Value.int (mj_i (mj_pI μ b2 (Int32.toNatClampNeg (mj_i μ h0 39)) v1) h0 39) = _; rw [mj_ki (mj_ne ht1 ht4 (by decide))]; try rfl) ?_
    refine mj_iload_n 2 md_M_tell_28 rfl ?_
    obtain ⟨b6, hb7, H⟩ := H
    obtain ⟨ht8, H⟩ := H
    obtain ⟨hi9, H⟩ := H
    refine mj_iast (t := 0) hb7 rfl ht8 hi9 md_M_tell_29 ?_
    refine mj_aload_n 0 md_M_tell_30 rfl ?_
    refine mj_getf (v := va_rf (mj_r μ h0 42)) rfl kc_M 42 (by decide) tw_665 md_M_tell_31 ht1 rfl ?_
    refine mj_aload_n 0 md_M_tell_34 rfl ?_
    refine mj_getf (v := .int (mj_i μ h0 39)) rfl kc_M 39 (by decide) tw_662 md_M_tell_35 ht1 (by show Value.int (mj_i (mj_pI (mj_pI μ b2 (Int32.toNatClampNeg (mj_i μ h0 39)) v1) b6 (Int32.toNatClampNeg (mj_i μ h0 39)) v2) h0 39) = _; rw [mj_ki (mj_ne ht1 ht8 (by decide))]; show Value.int (mj_i (mj_pI μ b2 (Int32.toNatClampNeg (mj_i μ h0 39)) v1) h0 39) = _; rw [mj_ki (mj_ne ht1 ht4 (by decide))]; try rfl) ?_
    refine mj_aload_n 0 md_M_tell_38 rfl ?_
    refine mj_getf (v := .long (mj_l μ h0 43)) rfl kc_M 43 (by decide) tw_666 md_M_tell_39 ht1 rfl ?_
    obtain ⟨b10, hb11, H⟩ := H
    obtain ⟨ht12, H⟩ := H
    obtain ⟨hi13, H⟩ := H
    refine mj_last (t := 1) hb11 rfl ht12 hi13 md_M_tell_42 ?_
    refine mj_aload_n 0 md_M_tell_43 rfl ?_
    refine mj_dup md_M_tell_44 (mj_rfc _) ?_
    refine mj_getf (v := .int (mj_i μ h0 39)) rfl kc_M 39 (by decide) tw_662 md_M_tell_45 ht1 (by show Value.int (mj_i (mj_pI (mj_pI μ b2 (Int32.toNatClampNeg (mj_i μ h0 39)) v1) b6 (Int32.toNatClampNeg (mj_i μ h0 39)) v2) h0 39) = _; rw [mj_ki (mj_ne ht1 ht8 (by decide))]; show Value.int (mj_i (mj_pI μ b2 (Int32.toNatClampNeg (mj_i μ h0 39)) v1) h0 39) = _; rw [mj_ki (mj_ne ht1 ht4 (by decide))]; try rfl) ?_
    refine mj_iconst (v := 1) md_M_tell_48 (by decide) ?_
    refine mj_iadd md_M_tell_49 ?_
    refine mj_putI rfl kc_M 39 (by decide) rfl tw_662 md_M_tell_50 (Or.inl rfl) ht1 rfl rfl ?_
    exact mj_return md_M_tell_53 rfl H

set_option maxRecDepth 20000 in
theorem bk_M_ready_0 {G : mj_G} {Ex : Option Value → mj_MM → Prop} {N S : Nat} {μ : mj_MM} {h0 : Nat} {v1 : Int32}
    (H : ((mj_t μ h0 = 11) ∧ ∃ b2 : Nat, (mj_r μ h0 12 = some b2) ∧ (mj_t μ b2 = 1001) ∧ (vp_in v1 (mj_n μ b2)) ∧ ∃ b6 : Nat, (mj_r μ h0 11 = some b6) ∧ (mj_t μ b6 = 1000) ∧ (vp_in v1 (mj_n μ b6)) ∧ Ex none (mj_pI (mj_pL (mj_pL μ h0 21 ((mj_l μ h0 21) + 1)) b2 (Int32.toNatClampNeg v1) ((mj_l μ h0 21) + 1)) b6 (Int32.toNatClampNeg v1) 1))) :
    mj_J G mY_M_ready Ex N S 0 [(0, va_rf (some h0)), (1, .int v1)] [] μ := by
  refine mj_aload_n 0 md_M_ready_0 rfl ?_
  refine mj_dup md_M_ready_1 (mj_rfc _) ?_
  obtain ⟨ht1, H⟩ := H
  refine mj_getf (v := .long (mj_l μ h0 21)) rfl kc_M 21 (by decide) tw_644 md_M_ready_2 ht1 rfl ?_
  refine mj_lconst (v := 1) md_M_ready_5 (by decide) ?_
  refine mj_ladd md_M_ready_6 ?_
  refine mj_putL rfl kc_M 21 (by decide) rfl tw_644 md_M_ready_7 (Or.inl rfl) ht1 ?_
  refine mj_aload_n 0 md_M_ready_10 rfl ?_
  refine mj_getf (v := va_rf (mj_r μ h0 12)) rfl kc_M 12 (by decide) tw_635 md_M_ready_11 ht1 rfl ?_
  refine mj_iload_n 1 md_M_ready_14 rfl ?_
  refine mj_aload_n 0 md_M_ready_15 rfl ?_
  refine mj_getf (v := .long ((mj_l μ h0 21) + 1)) rfl kc_M 21 (by decide) tw_644 md_M_ready_16 ht1 (by show Value.long (mj_l (mj_pL μ h0 21 ((mj_l μ h0 21) + 1)) h0 21) = _; rw [mj_sL]) ?_
  obtain ⟨b2, hb3, H⟩ := H
  obtain ⟨ht4, H⟩ := H
  obtain ⟨hi5, H⟩ := H
  refine mj_last (t := 1) hb3 rfl ht4 hi5 md_M_ready_19 ?_
  refine mj_aload_n 0 md_M_ready_20 rfl ?_
  refine mj_getf (v := va_rf (mj_r μ h0 11)) rfl kc_M 11 (by decide) tw_634 md_M_ready_21 ht1 rfl ?_
  refine mj_iload_n 1 md_M_ready_24 rfl ?_
  refine mj_iconst (v := 1) md_M_ready_25 (by decide) ?_
  obtain ⟨b6, hb7, H⟩ := H
  obtain ⟨ht8, H⟩ := H
  obtain ⟨hi9, H⟩ := H
  refine mj_iast (t := 0) hb7 rfl ht8 hi9 md_M_ready_26 ?_
  exact mj_return md_M_ready_27 rfl H

set_option maxRecDepth 20000 in
theorem bk_M_begin_0 {G : mj_G} {Ex : Option Value → mj_MM → Prop} {N S : Nat} {μ : mj_MM} {h0 : Nat} {v1 : Int32}
    (H : ((mj_t μ h0 = 11) ∧ ∃ b2 : Nat, (mj_r μ h0 11 = some b2) ∧ (mj_t μ b2 = 1000) ∧ (vp_in v1 (mj_n μ b2)) ∧ (((mj_i μ b2 (Int32.toNatClampNeg v1)) = 0 → (∃ P : mj_MM → Prop, mj_M G my_M_ready mY_M_ready [va_rf (some h0), .int v1] (mj_nc μ) (mj_ns μ) μ (mj_XV P) ∧ ∀ (μ' : mj_MM), P μ' → mj_nc μ' = mj_nc μ → mj_ns μ' = mj_ns μ → mj_J G mY_M_begin Ex N S 51 [(0, va_rf (some h0)), (1, .int v1)] [] μ')) ∧ (¬ (mj_i μ b2 (Int32.toNatClampNeg v1)) = 0 → (∃ b6 : Nat, (mj_r μ h0 13 = some b6) ∧ (mj_t μ b6 = 1000) ∧ (vp_in v1 (mj_n μ b6)) ∧ ∃ b10 : Nat, (mj_r μ h0 4 = some b10) ∧ (mj_t μ b10 = 1000) ∧ (vp_in v1 (mj_n μ b10)) ∧ (((1 + (mj_i μ b6 (Int32.toNatClampNeg v1))) < (mj_i μ b10 (Int32.toNatClampNeg v1)) → ((vp_in v1 (mj_n μ b6)) ∧ (vp_in v1 (mj_n μ b6)) ∧ Ex none (mj_pI μ b6 (Int32.toNatClampNeg v1) ((mj_i μ b6 (Int32.toNatClampNeg v1)) + 1)))) ∧ (¬ (1 + (mj_i μ b6 (Int32.toNatClampNeg v1))) < (mj_i μ b10 (Int32.toNatClampNeg v1)) → (∃ P : mj_MM → Prop, mj_M G my_M_tell mY_M_tell [va_rf (some h0), .int 1, .int v1] (mj_nc μ) (mj_ns μ) μ (mj_XV P) ∧ ∀ (μ' : mj_MM), P μ' → mj_nc μ' = mj_nc μ → mj_ns μ' = mj_ns μ → mj_J G mY_M_begin Ex N S 32 [] [] μ')))))))) :
    mj_J G mY_M_begin Ex N S 0 [(0, va_rf (some h0)), (1, .int v1)] [] μ := by
  refine mj_aload_n 0 md_M_begin_0 rfl ?_
  obtain ⟨ht1, H⟩ := H
  refine mj_getf (v := va_rf (mj_r μ h0 11)) rfl kc_M 11 (by decide) tw_634 md_M_begin_1 ht1 rfl ?_
  refine mj_iload_n 1 md_M_begin_4 rfl ?_
  obtain ⟨b2, hb3, H⟩ := H
  obtain ⟨ht4, H⟩ := H
  obtain ⟨hi5, H⟩ := H
  refine mj_iald (t := 0) hb3 rfl ht4 hi5 md_M_begin_5 ?_
  obtain ⟨H1, H2⟩ := H
  refine mj_if_eq (tgt := 46) md_M_begin_6 (by decide) (fun hx => ?_) (fun hx => ?_)
  · replace H := H1 hx
    refine mj_aload_n 0 md_M_begin_46 rfl ?_
    refine mj_iload_n 1 md_M_begin_47 rfl ?_
    obtain ⟨P, hM, H⟩ := H
    exact mj_callV (n := 1) (As := [.int v1]) rfl hM kc_M ht1 ⟨tw_818, tw_8, tw_821, ⟨by decide, by decide, by decide +kernel⟩, by decide, by decide⟩ tw_820 tp_37 rfl md_M_begin_48 (by first | decide | (simp only [List.map_cons, List.map_nil, List.sum_cons, List.sum_nil, mj_rfc, mj_ci, mj_cl]; done) | (simp only [List.map_cons, List.map_nil, List.sum_cons, List.sum_nil, mj_rfc, mj_ci, mj_cl]; decide)) id (mj_kV (fun μ' hP e1 e2 => mj_lvs [0, 1] rfl (H μ' hP e1 e2)))
  · replace H := H2 hx
    refine mj_iconst (v := 1) md_M_begin_9 (by decide) ?_
    refine mj_aload_n 0 md_M_begin_10 rfl ?_
    refine mj_getf (v := va_rf (mj_r μ h0 13)) rfl kc_M 13 (by decide) tw_636 md_M_begin_11 ht1 rfl ?_
    refine mj_iload_n 1 md_M_begin_14 rfl ?_
    obtain ⟨b6, hb7, H⟩ := H
    obtain ⟨ht8, H⟩ := H
    obtain ⟨hi9, H⟩ := H
    refine mj_iald (t := 0) hb7 rfl ht8 hi9 md_M_begin_15 ?_
    refine mj_iadd md_M_begin_16 ?_
    refine mj_aload_n 0 md_M_begin_17 rfl ?_
    refine mj_getf (v := va_rf (mj_r μ h0 4)) rfl kc_M 4 (by decide) tw_627 md_M_begin_18 ht1 rfl ?_
    refine mj_iload_n 1 md_M_begin_21 rfl ?_
    obtain ⟨b10, hb11, H⟩ := H
    obtain ⟨ht12, H⟩ := H
    obtain ⟨hi13, H⟩ := H
    refine mj_iald (t := 0) hb11 rfl ht12 hi13 md_M_begin_22 ?_
    obtain ⟨H1, H2⟩ := H
    refine mj_icmp_lt (tgt := 35) md_M_begin_23 (by decide) (fun hx => ?_) (fun hx => ?_)
    · replace H := H1 hx
      refine mj_aload_n 0 md_M_begin_35 rfl ?_
      refine mj_getf (v := va_rf (mj_r μ h0 13)) rfl kc_M 13 (by decide) tw_636 md_M_begin_36 ht1 rfl ?_
      refine mj_iload_n 1 md_M_begin_39 rfl ?_
      refine mj_dup2 md_M_begin_40 (rfl) (mj_rfc _) ?_
      obtain ⟨hi14, H⟩ := H
      refine mj_iald (t := 0) hb7 rfl ht8 hi14 md_M_begin_41 ?_
      refine mj_iconst (v := 1) md_M_begin_42 (by decide) ?_
      refine mj_iadd md_M_begin_43 ?_
      obtain ⟨hi15, H⟩ := H
      refine mj_iast (t := 0) hb7 rfl ht8 hi15 md_M_begin_44 ?_
      exact mj_return md_M_begin_45 rfl H
    · replace H := H2 hx
      refine mj_aload_n 0 md_M_begin_26 rfl ?_
      refine mj_iconst (v := 1) md_M_begin_27 (by decide) ?_
      refine mj_iload_n 1 md_M_begin_28 rfl ?_
      obtain ⟨P, hM, H⟩ := H
      exact mj_callV (n := 2) (As := [.int 1, .int v1]) rfl hM kc_M ht1 ⟨tw_814, tw_8, tw_817, ⟨by decide, by decide, by decide +kernel⟩, by decide, by decide⟩ tw_816 tp_36 rfl md_M_begin_29 (by first | decide | (simp only [List.map_cons, List.map_nil, List.sum_cons, List.sum_nil, mj_rfc, mj_ci, mj_cl]; done) | (simp only [List.map_cons, List.map_nil, List.sum_cons, List.sum_nil, mj_rfc, mj_ci, mj_cl]; decide)) id (mj_kV (fun μ' hP e1 e2 => mj_lvs [] rfl (H μ' hP e1 e2)))

set_option maxRecDepth 20000 in
theorem bk_M_begin_51 {G : mj_G} {Ex : Option Value → mj_MM → Prop} {N S : Nat} {μ : mj_MM} {h0 : Nat} {v1 : Int32}
    (H : ((mj_t μ h0 = 11) ∧ ∃ b2 : Nat, (mj_r μ h0 17 = some b2) ∧ (mj_t μ b2 = 1000) ∧ (vp_in v1 (mj_n μ b2)) ∧ ∃ b6 : Nat, (mj_r μ h0 14 = some b6) ∧ (mj_t μ b6 = 1000) ∧ (vp_in v1 (mj_n μ b6)) ∧ ∃ b10 : Nat, (mj_r μ h0 15 = some b10) ∧ (mj_t μ b10 = 1001) ∧ (vp_in v1 (mj_n μ b10)) ∧ ∃ b14 : Nat, (mj_r μ h0 16 = some b14) ∧ (mj_t μ b14 = 1002) ∧ (vp_in v1 (mj_n μ b14)) ∧ Ex none (mj_pI (mj_pL (mj_pI (mj_pI μ b2 (Int32.toNatClampNeg v1) 0) b6 (Int32.toNatClampNeg v1) 0) b10 (Int32.toNatClampNeg v1) 1) b14 (Int32.toNatClampNeg v1) 1))) :
    mj_J G mY_M_begin Ex N S 51 [(0, va_rf (some h0)), (1, .int v1)] [] μ := by
  refine mj_aload_n 0 md_M_begin_51 rfl ?_
  obtain ⟨ht1, H⟩ := H
  refine mj_getf (v := va_rf (mj_r μ h0 17)) rfl kc_M 17 (by decide) tw_640 md_M_begin_52 ht1 rfl ?_
  refine mj_iload_n 1 md_M_begin_55 rfl ?_
  refine mj_iconst (v := 0) md_M_begin_56 (by decide) ?_
  obtain ⟨b2, hb3, H⟩ := H
  obtain ⟨ht4, H⟩ := H
  obtain ⟨hi5, H⟩ := H
  refine mj_iast (t := 0) hb3 rfl ht4 hi5 md_M_begin_57 ?_
  refine mj_aload_n 0 md_M_begin_58 rfl ?_
  refine mj_getf (v := va_rf (mj_r μ h0 14)) rfl kc_M 14 (by decide) tw_637 md_M_begin_59 ht1 rfl ?_
  refine mj_iload_n 1 md_M_begin_62 rfl ?_
  refine mj_iconst (v := 0) md_M_begin_63 (by decide) ?_
  obtain ⟨b6, hb7, H⟩ := H
  obtain ⟨ht8, H⟩ := H
  obtain ⟨hi9, H⟩ := H
  refine mj_iast (t := 0) hb7 rfl ht8 hi9 md_M_begin_64 ?_
  refine mj_aload_n 0 md_M_begin_65 rfl ?_
  refine mj_getf (v := va_rf (mj_r μ h0 15)) rfl kc_M 15 (by decide) tw_638 md_M_begin_66 ht1 rfl ?_
  refine mj_iload_n 1 md_M_begin_69 rfl ?_
  refine mj_lconst (v := 1) md_M_begin_70 (by decide) ?_
  obtain ⟨b10, hb11, H⟩ := H
  obtain ⟨ht12, H⟩ := H
  obtain ⟨hi13, H⟩ := H
  refine mj_last (t := 1) hb11 rfl ht12 hi13 md_M_begin_71 ?_
  refine mj_aload_n 0 md_M_begin_72 rfl ?_
  refine mj_getf (v := va_rf (mj_r μ h0 16)) rfl kc_M 16 (by decide) tw_639 md_M_begin_73 ht1 rfl ?_
  refine mj_iload_n 1 md_M_begin_76 rfl ?_
  refine mj_iconst (v := 1) md_M_begin_77 (by decide) ?_
  obtain ⟨b14, hb15, H⟩ := H
  obtain ⟨ht16, H⟩ := H
  obtain ⟨hi17, H⟩ := H
  refine mj_zast (t := 2) hb15 rfl ht16 hi17 (by decide) md_M_begin_78 ?_
  exact mj_return md_M_begin_79 rfl H

set_option maxRecDepth 20000 in
theorem bk_M_begin_32 {G : mj_G} {Ex : Option Value → mj_MM → Prop} {N S : Nat} {μ : mj_MM}
    (H : Ex none μ) :
    mj_J G mY_M_begin Ex N S 32 [] [] μ := by
  refine mj_goto (tgt := 45) md_M_begin_32 (by decide) ?_
  exact mj_return md_M_begin_45 rfl H

set_option maxRecDepth 20000 in
theorem bk_M_set_0 {G : mj_G} {Ex : Option Value → mj_MM → Prop} {N S : Nat} {μ : mj_MM} {h0 : Nat} {v1 : Int32} {v2 : Int32}
    (H : ((mj_t μ h0 = 11) ∧ ∃ b2 : Nat, (mj_r μ h0 5 = some b2) ∧ (mj_t μ b2 = 1002) ∧ (vp_in v1 (mj_n μ b2)) ∧ (((mj_i μ b2 (Int32.toNatClampNeg v1)) = 0 → Ex (some (.int 0)) μ) ∧ (¬ (mj_i μ b2 (Int32.toNatClampNeg v1)) = 0 → (∃ b6 : Nat, (mj_r μ h0 11 = some b6) ∧ (mj_t μ b6 = 1000) ∧ (vp_in v1 (mj_n μ b6)) ∧ ((¬ (mj_i μ b6 (Int32.toNatClampNeg v1)) = 0 → (∃ b10 : Nat, (mj_r μ h0 17 = some b10) ∧ (mj_t μ b10 = 1000) ∧ (vp_in v1 (mj_n μ b10)) ∧ (vp_in v1 (mj_n μ b10)) ∧ (vp_in v1 (mj_n μ b6)) ∧ ((¬ (mj_i (mj_pI μ b10 (Int32.toNatClampNeg v1) ((mj_i μ b10 (Int32.toNatClampNeg v1)) ||| v2)) b6 (Int32.toNatClampNeg v1)) = 3 → mj_J G mY_M_set Ex N S 65 [] [] (mj_pI μ b10 (Int32.toNatClampNeg v1) ((mj_i μ b10 (Int32.toNatClampNeg v1)) ||| v2))) ∧ ((mj_i (mj_pI μ b10 (Int32.toNatClampNeg v1) ((mj_i μ b10 (Int32.toNatClampNeg v1)) ||| v2)) b6 (Int32.toNatClampNeg v1)) = 3 → ((vp_in v1 (mj_n μ b10)) ∧ ∃ b17 : Nat, (mj_r μ h0 18 = some b17) ∧ (mj_t μ b17 = 1000) ∧ (vp_in v1 (mj_n μ b17)) ∧ ((((mj_i (mj_pI μ b10 (Int32.toNatClampNeg v1) ((mj_i μ b10 (Int32.toNatClampNeg v1)) ||| v2)) b10 (Int32.toNatClampNeg v1)) &&& (mj_i (mj_pI μ b10 (Int32.toNatClampNeg v1) ((mj_i μ b10 (Int32.toNatClampNeg v1)) ||| v2)) b17 (Int32.toNatClampNeg v1))) = 0 → mj_J G mY_M_set Ex N S 65 [] [] (mj_pI μ b10 (Int32.toNatClampNeg v1) ((mj_i μ b10 (Int32.toNatClampNeg v1)) ||| v2))) ∧ (¬ ((mj_i (mj_pI μ b10 (Int32.toNatClampNeg v1) ((mj_i μ b10 (Int32.toNatClampNeg v1)) ||| v2)) b10 (Int32.toNatClampNeg v1)) &&& (mj_i (mj_pI μ b10 (Int32.toNatClampNeg v1) ((mj_i μ b10 (Int32.toNatClampNeg v1)) ||| v2)) b17 (Int32.toNatClampNeg v1))) = 0 → (∃ P : mj_MM → Prop, mj_M G my_M_ready mY_M_ready [va_rf (some h0), .int v1] (mj_nc μ) (mj_ns μ) (mj_pI μ b10 (Int32.toNatClampNeg v1) ((mj_i μ b10 (Int32.toNatClampNeg v1)) ||| v2)) (mj_XV P) ∧ ∀ (μ' : mj_MM), P μ' → mj_nc μ' = mj_nc μ → mj_ns μ' = mj_ns μ → mj_J G mY_M_set Ex N S 65 [] [] μ')))))))) ∧ ((mj_i μ b6 (Int32.toNatClampNeg v1)) = 0 → Ex (some (.int 0)) μ))))))) :
    mj_J G mY_M_set Ex N S 0 [(0, va_rf (some h0)), (1, .int v1), (2, .int v2)] [] μ := by
  refine mj_aload_n 0 md_M_set_0 rfl ?_
  obtain ⟨ht1, H⟩ := H
  refine mj_getf (v := va_rf (mj_r μ h0 5)) rfl kc_M 5 (by decide) tw_628 md_M_set_1 ht1 rfl ?_
  refine mj_iload_n 1 md_M_set_4 rfl ?_
  obtain ⟨b2, hb3, H⟩ := H
  obtain ⟨ht4, H⟩ := H
  obtain ⟨hi5, H⟩ := H
  refine mj_zald (t := 2) hb3 rfl ht4 hi5 md_M_set_5 ?_
  obtain ⟨H1, H2⟩ := H
  refine mj_if_eq (tgt := 18) md_M_set_6 (by decide) (fun hx => ?_) (fun hx => ?_)
  · replace H := H1 hx
    refine mj_iconst (v := 0) md_M_set_18 (by decide) ?_
    exact mj_ireturn md_M_set_19 rfl (by decide) H
  · replace H := H2 hx
    refine mj_aload_n 0 md_M_set_9 rfl ?_
    refine mj_getf (v := va_rf (mj_r μ h0 11)) rfl kc_M 11 (by decide) tw_634 md_M_set_10 ht1 rfl ?_
    refine mj_iload_n 1 md_M_set_13 rfl ?_
    obtain ⟨b6, hb7, H⟩ := H
    obtain ⟨ht8, H⟩ := H
    obtain ⟨hi9, H⟩ := H
    refine mj_iald (t := 0) hb7 rfl ht8 hi9 md_M_set_14 ?_
    obtain ⟨H1, H2⟩ := H
    refine mj_if_ne (tgt := 20) md_M_set_15 (by decide) (fun hx => ?_) (fun hx => ?_)
    · replace H := H1 hx
      refine mj_aload_n 0 md_M_set_20 rfl ?_
      refine mj_getf (v := va_rf (mj_r μ h0 17)) rfl kc_M 17 (by decide) tw_640 md_M_set_21 ht1 rfl ?_
      refine mj_iload_n 1 md_M_set_24 rfl ?_
      refine mj_aload_n 0 md_M_set_25 rfl ?_
      refine mj_getf (v := va_rf (mj_r μ h0 17)) rfl kc_M 17 (by decide) tw_640 md_M_set_26 ht1 rfl ?_
      refine mj_iload_n 1 md_M_set_29 rfl ?_
      obtain ⟨b10, hb11, H⟩ := H
      obtain ⟨ht12, H⟩ := H
      obtain ⟨hi13, H⟩ := H
      refine mj_iald (t := 0) hb11 rfl ht12 hi13 md_M_set_30 ?_
      refine mj_iload_n 2 md_M_set_31 rfl ?_
      refine mj_ior md_M_set_32 ?_
      obtain ⟨hi14, H⟩ := H
      refine mj_iast (t := 0) hb11 rfl ht12 hi14 md_M_set_33 ?_
      refine mj_aload_n 0 md_M_set_34 rfl ?_
      refine mj_getf (v := va_rf (mj_r μ h0 11)) rfl kc_M 11 (by decide) tw_634 md_M_set_35 ht1 rfl ?_
      refine mj_iload_n 1 md_M_set_38 rfl ?_
      obtain ⟨hi15, H⟩ := H
      refine mj_iald (t := 0) hb7 rfl ht8 hi15 md_M_set_39 ?_
      refine mj_iconst (v := 3) md_M_set_40 (by decide) ?_
      obtain ⟨H1, H2⟩ := H
      refine mj_icmp_ne (tgt := 65) md_M_set_41 (by decide) (fun hx => ?_) (fun hx => ?_)
      · replace H := H1 hx
        exact mj_lvs [] rfl H
      · replace H := H2 hx
        refine mj_aload_n 0 md_M_set_44 rfl ?_
        refine mj_getf (v := va_rf (mj_r μ h0 17)) rfl kc_M 17 (by decide) tw_640 md_M_set_45 ht1 rfl ?_
        refine mj_iload_n 1 md_M_set_48 rfl ?_
        obtain ⟨hi16, H⟩ := H
        refine mj_iald (t := 0) hb11 rfl ht12 hi16 md_M_set_49 ?_
        refine mj_aload_n 0 md_M_set_50 rfl ?_
        refine mj_getf (v := va_rf (mj_r μ h0 18)) rfl kc_M 18 (by decide) tw_641 md_M_set_51 ht1 rfl ?_
        refine mj_iload_n 1 md_M_set_54 rfl ?_
        obtain ⟨b17, hb18, H⟩ := H
        obtain ⟨ht19, H⟩ := H
        obtain ⟨hi20, H⟩ := H
        refine mj_iald (t := 0) hb18 rfl ht19 hi20 md_M_set_55 ?_
        refine mj_iand md_M_set_56 ?_
        obtain ⟨H1, H2⟩ := H
        refine mj_if_eq (tgt := 65) md_M_set_57 (by decide) (fun hx => ?_) (fun hx => ?_)
        · replace H := H1 hx
          exact mj_lvs [] rfl H
        · replace H := H2 hx
          refine mj_aload_n 0 md_M_set_60 rfl ?_
          refine mj_iload_n 1 md_M_set_61 rfl ?_
          obtain ⟨P, hM, H⟩ := H
          exact mj_callV (n := 1) (As := [.int v1]) rfl hM kc_M ht1 ⟨tw_818, tw_8, tw_821, ⟨by decide, by decide, by decide +kernel⟩, by decide, by decide⟩ tw_820 tp_37 rfl md_M_set_62 (by first | decide | (simp only [List.map_cons, List.map_nil, List.sum_cons, List.sum_nil, mj_rfc, mj_ci, mj_cl]; done) | (simp only [List.map_cons, List.map_nil, List.sum_cons, List.sum_nil, mj_rfc, mj_ci, mj_cl]; decide)) id (mj_kV (fun μ' hP e1 e2 => mj_lvs [] rfl (H μ' hP e1 e2)))
    · replace H := H2 hx
      refine mj_iconst (v := 0) md_M_set_18 (by decide) ?_
      exact mj_ireturn md_M_set_19 rfl (by decide) H

set_option maxRecDepth 20000 in
theorem bk_M_set_65 {G : mj_G} {Ex : Option Value → mj_MM → Prop} {N S : Nat} {μ : mj_MM}
    (H : Ex (some (.int 1)) μ) :
    mj_J G mY_M_set Ex N S 65 [] [] μ := by
  refine mj_iconst (v := 1) md_M_set_65 (by decide) ?_
  exact mj_ireturn md_M_set_66 rfl (by decide) H

set_option maxRecDepth 20000 in
theorem bk_M_unlock_0 {G : mj_G} {Ex : Option Value → mj_MM → Prop} {N S : Nat} {μ : mj_MM} {h0 : Nat} {v1 : Int32}
    (H : ((mj_t μ h0 = 11) ∧ ∃ b2 : Nat, (mj_r μ h0 25 = some b2) ∧ (mj_t μ b2 = 1000) ∧ (vp_in v1 (mj_n μ b2)) ∧ mj_J G mY_M_unlock Ex N S 11 [(0, va_rf (some h0)), (1, .int v1), (2, .int 0), (3, .int 1)] [] (mj_pI μ b2 (Int32.toNatClampNeg v1) 0))) :
    mj_J G mY_M_unlock Ex N S 0 [(0, va_rf (some h0)), (1, .int v1)] [] μ := by
  refine mj_aload_n 0 md_M_unlock_0 rfl ?_
  obtain ⟨ht1, H⟩ := H
  refine mj_getf (v := va_rf (mj_r μ h0 25)) rfl kc_M 25 (by decide) tw_648 md_M_unlock_1 ht1 rfl ?_
  refine mj_iload_n 1 md_M_unlock_4 rfl ?_
  refine mj_iconst (v := 0) md_M_unlock_5 (by decide) ?_
  obtain ⟨b2, hb3, H⟩ := H
  obtain ⟨ht4, H⟩ := H
  obtain ⟨hi5, H⟩ := H
  refine mj_iast (t := 0) hb3 rfl ht4 hi5 md_M_unlock_6 ?_
  refine mj_iconst (v := 0) md_M_unlock_7 (by decide) ?_
  refine mj_istn (i := 2) (lv' := [(2, .int 0), (0, va_rf (some h0)), (1, .int v1)]) md_M_unlock_8 rfl (by decide) (by first | rfl | (simp [mj_rfc]; done) | (simp [mj_rfc]; rfl)) ?_
  refine mj_iconst (v := 1) md_M_unlock_9 (by decide) ?_
  refine mj_istn (i := 3) (lv' := [(3, .int 1), (2, .int 0), (0, va_rf (some h0)), (1, .int v1)]) md_M_unlock_10 rfl (by decide) (by first | rfl | (simp [mj_rfc]; done) | (simp [mj_rfc]; rfl)) ?_
  exact mj_lvs [2, 3, 1, 0] rfl H

set_option maxRecDepth 20000 in
theorem bk_M_unlock_11 {G : mj_G} {Ex : Option Value → mj_MM → Prop} {N S : Nat} {μ : mj_MM} {h0 : Nat} {v1 : Int32} {v2 : Int32} {v3 : Int32}
    (H : ((mj_t μ h0 = 11) ∧ (((mj_i μ h0 1) < v3 → ((¬ v2 = 0 → (∃ b2 : Nat, (mj_r μ h0 25 = some b2) ∧ (mj_t μ b2 = 1000) ∧ (vp_in v1 (mj_n μ b2)) ∧ ∃ b6 : Nat, (mj_r μ h0 26 = some b6) ∧ (mj_t μ b6 = 1000) ∧ (vp_in v2 (mj_n μ b6)) ∧ ∃ b10 : Nat, (mj_r μ h0 14 = some b10) ∧ (mj_t μ b10 = 1000) ∧ (vp_in v2 (mj_n μ b10)) ∧ (vp_in v2 (mj_n μ b10)) ∧ Ex none (mj_pI (mj_pI (mj_pI μ b2 (Int32.toNatClampNeg v1) v2) b6 (Int32.toNatClampNeg v2) 0) b10 (Int32.toNatClampNeg v2) ((mj_i (mj_pI (mj_pI μ b2 (Int32.toNatClampNeg v1) v2) b6 (Int32.toNatClampNeg v2) 0) b10 (Int32.toNatClampNeg v2)) + 1)))) ∧ (v2 = 0 → Ex none μ))) ∧ (¬ (mj_i μ h0 1) < v3 → (∃ b15 : Nat, (mj_r μ h0 26 = some b15) ∧ (mj_t μ b15 = 1000) ∧ (vp_in v3 (mj_n μ b15)) ∧ ((¬ (mj_i μ b15 (Int32.toNatClampNeg v3)) = v1 → mj_J G mY_M_unlock Ex N S 11 [(0, va_rf (some h0)), (1, .int v1), (2, .int v2), (3, .int (v3 + 1))] [] μ) ∧ ((mj_i μ b15 (Int32.toNatClampNeg v3)) = v1 → ((v2 = 0 → mj_J G mY_M_unlock Ex N S 11 [(0, va_rf (some h0)), (1, .int v1), (2, .int v3), (3, .int (v3 + 1))] [] μ) ∧ (¬ v2 = 0 → (∃ b19 : Nat, (mj_r μ h0 27 = some b19) ∧ (mj_t μ b19 = 1001) ∧ (vp_in v3 (mj_n μ b19)) ∧ (vp_in v2 (mj_n μ b19)) ∧ (((mj_l μ b19 (Int32.toNatClampNeg v2)) ≤ (mj_l μ b19 (Int32.toNatClampNeg v3)) → mj_J G mY_M_unlock Ex N S 11 [(0, va_rf (some h0)), (1, .int v1), (2, .int v2), (3, .int (v3 + 1))] [] μ) ∧ (¬ (mj_l μ b19 (Int32.toNatClampNeg v2)) ≤ (mj_l μ b19 (Int32.toNatClampNeg v3)) → mj_J G mY_M_unlock Ex N S 11 [(0, va_rf (some h0)), (1, .int v1), (2, .int v3), (3, .int (v3 + 1))] [] μ)))))))))))) :
    mj_J G mY_M_unlock Ex N S 11 [(0, va_rf (some h0)), (1, .int v1), (2, .int v2), (3, .int v3)] [] μ := by
  refine mj_iload_n 3 md_M_unlock_11 rfl ?_
  refine mj_aload_n 0 md_M_unlock_12 rfl ?_
  obtain ⟨ht1, H⟩ := H
  refine mj_getf (v := .int (mj_i μ h0 1)) rfl kc_M 1 (by decide) tw_624 md_M_unlock_13 ht1 rfl ?_
  obtain ⟨H1, H2⟩ := H
  refine mj_icmp_gt (tgt := 57) md_M_unlock_16 (by decide) (fun hx => ?_) (fun hx => ?_)
  · replace H := H1 hx
    refine mj_iload_n 2 md_M_unlock_57 rfl ?_
    obtain ⟨H1, H2⟩ := H
    refine mj_if_ne (tgt := 62) md_M_unlock_58 (by decide) (fun hx => ?_) (fun hx => ?_)
    · replace H := H1 hx
      refine mj_aload_n 0 md_M_unlock_62 rfl ?_
      refine mj_getf (v := va_rf (mj_r μ h0 25)) rfl kc_M 25 (by decide) tw_648 md_M_unlock_63 ht1 rfl ?_
      refine mj_iload_n 1 md_M_unlock_66 rfl ?_
      refine mj_iload_n 2 md_M_unlock_67 rfl ?_
      obtain ⟨b2, hb3, H⟩ := H
      obtain ⟨ht4, H⟩ := H
      obtain ⟨hi5, H⟩ := H
      refine mj_iast (t := 0) hb3 rfl ht4 hi5 md_M_unlock_68 ?_
      refine mj_aload_n 0 md_M_unlock_69 rfl ?_
      refine mj_getf (v := va_rf (mj_r μ h0 26)) rfl kc_M 26 (by decide) tw_649 md_M_unlock_70 ht1 rfl ?_
      refine mj_iload_n 2 md_M_unlock_73 rfl ?_
      refine mj_iconst (v := 0) md_M_unlock_74 (by decide) ?_
      obtain ⟨b6, hb7, H⟩ := H
      obtain ⟨ht8, H⟩ := H
      obtain ⟨hi9, H⟩ := H
      refine mj_iast (t := 0) hb7 rfl ht8 hi9 md_M_unlock_75 ?_
      refine mj_aload_n 0 md_M_unlock_76 rfl ?_
      refine mj_getf (v := va_rf (mj_r μ h0 14)) rfl kc_M 14 (by decide) tw_637 md_M_unlock_77 ht1 rfl ?_
      refine mj_iload_n 2 md_M_unlock_80 rfl ?_
      refine mj_dup2 md_M_unlock_81 (rfl) (mj_rfc _) ?_
      obtain ⟨b10, hb11, H⟩ := H
      obtain ⟨ht12, H⟩ := H
      obtain ⟨hi13, H⟩ := H
      refine mj_iald (t := 0) hb11 rfl ht12 hi13 md_M_unlock_82 ?_
      refine mj_iconst (v := 1) md_M_unlock_83 (by decide) ?_
      refine mj_iadd md_M_unlock_84 ?_
      obtain ⟨hi14, H⟩ := H
      refine mj_iast (t := 0) hb11 rfl ht12 hi14 md_M_unlock_85 ?_
      exact mj_return md_M_unlock_86 rfl H
    · replace H := H2 hx
      exact mj_return md_M_unlock_61 rfl H
  · replace H := H2 hx
    refine mj_aload_n 0 md_M_unlock_19 rfl ?_
    refine mj_getf (v := va_rf (mj_r μ h0 26)) rfl kc_M 26 (by decide) tw_649 md_M_unlock_20 ht1 rfl ?_
    refine mj_iload_n 3 md_M_unlock_23 rfl ?_
    obtain ⟨b15, hb16, H⟩ := H
    obtain ⟨ht17, H⟩ := H
    obtain ⟨hi18, H⟩ := H
    refine mj_iald (t := 0) hb16 rfl ht17 hi18 md_M_unlock_24 ?_
    refine mj_iload_n 1 md_M_unlock_25 rfl ?_
    obtain ⟨H1, H2⟩ := H
    refine mj_icmp_ne (tgt := 51) md_M_unlock_26 (by decide) (fun hx => ?_) (fun hx => ?_)
    · replace H := H1 hx
      refine mj_iinc (j := 3) (v := v3 + 1) (lv' := [(3, .int (v3 + 1)), (0, va_rf (some h0)), (1, .int v1), (2, .int v2)]) md_M_unlock_51 rfl rfl (by decide) (by first | rfl | (simp [mj_rfc]; done) | (simp [mj_rfc]; rfl)) ?_
      refine mj_goto (tgt := 11) md_M_unlock_54 (by decide) ?_
      exact mj_lvs [1, 2, 3, 0] rfl H
    · replace H := H2 hx
      refine mj_iload_n 2 md_M_unlock_29 rfl ?_
      obtain ⟨H1, H2⟩ := H
      refine mj_if_eq (tgt := 49) md_M_unlock_30 (by decide) (fun hx => ?_) (fun hx => ?_)
      · replace H := H1 hx
        refine mj_iload_n 3 md_M_unlock_49 rfl ?_
        refine mj_istn (i := 2) (lv' := [(2, .int v3), (0, va_rf (some h0)), (1, .int v1), (3, .int v3)]) md_M_unlock_50 rfl (by decide) (by first | rfl | (simp [mj_rfc]; done) | (simp [mj_rfc]; rfl)) ?_
        refine mj_iinc (j := 3) (v := v3 + 1) (lv' := [(3, .int (v3 + 1)), (2, .int v3), (0, va_rf (some h0)), (1, .int v1)]) md_M_unlock_51 rfl rfl (by decide) (by first | rfl | (simp [mj_rfc]; done) | (simp [mj_rfc]; rfl)) ?_
        refine mj_goto (tgt := 11) md_M_unlock_54 (by decide) ?_
        exact mj_lvs [2, 3, 1, 0] rfl H
      · replace H := H2 hx
        refine mj_aload_n 0 md_M_unlock_33 rfl ?_
        refine mj_getf (v := va_rf (mj_r μ h0 27)) rfl kc_M 27 (by decide) tw_650 md_M_unlock_34 ht1 rfl ?_
        refine mj_iload_n 3 md_M_unlock_37 rfl ?_
        obtain ⟨b19, hb20, H⟩ := H
        obtain ⟨ht21, H⟩ := H
        obtain ⟨hi22, H⟩ := H
        refine mj_lald (t := 1) hb20 rfl ht21 hi22 md_M_unlock_38 ?_
        refine mj_aload_n 0 md_M_unlock_39 rfl ?_
        refine mj_getf (v := va_rf (mj_r μ h0 27)) rfl kc_M 27 (by decide) tw_650 md_M_unlock_40 ht1 rfl ?_
        refine mj_iload_n 2 md_M_unlock_43 rfl ?_
        obtain ⟨hi23, H⟩ := H
        refine mj_lald (t := 1) hb20 rfl ht21 hi23 md_M_unlock_44 ?_
        refine mj_lcmp md_M_unlock_45 ?_
        obtain ⟨H1, H2⟩ := H
        refine mj_if_ge (tgt := 51) md_M_unlock_46 (by decide) (fun hx => ?_) (fun hx => ?_)
        · replace H := H1 ((lg_cmp_ge (mj_l μ b19 (Int32.toNatClampNeg v3)) (mj_l μ b19 (Int32.toNatClampNeg v2))).mp hx)
          refine mj_iinc (j := 3) (v := v3 + 1) (lv' := [(3, .int (v3 + 1)), (0, va_rf (some h0)), (1, .int v1), (2, .int v2)]) md_M_unlock_51 rfl rfl (by decide) (by first | rfl | (simp [mj_rfc]; done) | (simp [mj_rfc]; rfl)) ?_
          refine mj_goto (tgt := 11) md_M_unlock_54 (by decide) ?_
          exact mj_lvs [1, 2, 3, 0] rfl H
        · replace H := H2 (fun hy => hx ((lg_cmp_ge (mj_l μ b19 (Int32.toNatClampNeg v3)) (mj_l μ b19 (Int32.toNatClampNeg v2))).mpr hy))
          refine mj_iload_n 3 md_M_unlock_49 rfl ?_
          refine mj_istn (i := 2) (lv' := [(2, .int v3), (0, va_rf (some h0)), (1, .int v1), (3, .int v3)]) md_M_unlock_50 rfl (by decide) (by first | rfl | (simp [mj_rfc]; done) | (simp [mj_rfc]; rfl)) ?_
          refine mj_iinc (j := 3) (v := v3 + 1) (lv' := [(3, .int (v3 + 1)), (2, .int v3), (0, va_rf (some h0)), (1, .int v1)]) md_M_unlock_51 rfl rfl (by decide) (by first | rfl | (simp [mj_rfc]; done) | (simp [mj_rfc]; rfl)) ?_
          refine mj_goto (tgt := 11) md_M_unlock_54 (by decide) ?_
          exact mj_lvs [2, 3, 1, 0] rfl H

set_option maxRecDepth 20000 in
theorem bk_M_holdsSome_0 {G : mj_G} {Ex : Option Value → mj_MM → Prop} {N S : Nat} {μ : mj_MM} {h0 : Nat} {v1 : Int32}
    (H : mj_J G mY_M_holdsSome Ex N S 4 [(0, va_rf (some h0)), (1, .int v1), (2, .int 0), (3, .int 1)] [] μ) :
    mj_J G mY_M_holdsSome Ex N S 0 [(0, va_rf (some h0)), (1, .int v1)] [] μ := by
  refine mj_iconst (v := 0) md_M_holdsSome_0 (by decide) ?_
  refine mj_istn (i := 2) (lv' := [(2, .int 0), (0, va_rf (some h0)), (1, .int v1)]) md_M_holdsSome_1 rfl (by decide) (by first | rfl | (simp [mj_rfc]; done) | (simp [mj_rfc]; rfl)) ?_
  refine mj_iconst (v := 1) md_M_holdsSome_2 (by decide) ?_
  refine mj_istn (i := 3) (lv' := [(3, .int 1), (2, .int 0), (0, va_rf (some h0)), (1, .int v1)]) md_M_holdsSome_3 rfl (by decide) (by first | rfl | (simp [mj_rfc]; done) | (simp [mj_rfc]; rfl)) ?_
  exact mj_lvs [2, 3, 1, 0] rfl H

set_option maxRecDepth 20000 in
theorem bk_M_holdsSome_4 {G : mj_G} {Ex : Option Value → mj_MM → Prop} {N S : Nat} {μ : mj_MM} {h0 : Nat} {v1 : Int32} {v2 : Int32} {v3 : Int32}
    (H : ((32 < v3 → mj_J G mY_M_holdsSome Ex N S 38 [(0, va_rf (some h0)), (1, .int v1), (2, .int v2), (3, .int 1)] [] μ) ∧ (¬ 32 < v3 → ((¬ v2 = 0 → mj_J G mY_M_holdsSome Ex N S 4 [(0, va_rf (some h0)), (1, .int v1), (2, .int 1), (3, .int (v3 + 1))] [] μ) ∧ (v2 = 0 → ((mj_t μ h0 = 11) ∧ ∃ b2 : Nat, (mj_r μ h0 22 = some b2) ∧ (mj_t μ b2 = 1000) ∧ (vp_in v3 (mj_n μ b2)) ∧ ((¬ (mj_i μ b2 (Int32.toNatClampNeg v3)) = v1 → mj_J G mY_M_holdsSome Ex N S 4 [(0, va_rf (some h0)), (1, .int v1), (2, .int 0), (3, .int (v3 + 1))] [] μ) ∧ ((mj_i μ b2 (Int32.toNatClampNeg v3)) = v1 → mj_J G mY_M_holdsSome Ex N S 4 [(0, va_rf (some h0)), (1, .int v1), (2, .int 1), (3, .int (v3 + 1))] [] μ)))))))) :
    mj_J G mY_M_holdsSome Ex N S 4 [(0, va_rf (some h0)), (1, .int v1), (2, .int v2), (3, .int v3)] [] μ := by
  refine mj_iload_n 3 md_M_holdsSome_4 rfl ?_
  refine mj_bipush (v := 32) md_M_holdsSome_5 (by decide) ?_
  obtain ⟨H1, H2⟩ := H
  refine mj_icmp_gt (tgt := 36) md_M_holdsSome_7 (by decide) (fun hx => ?_) (fun hx => ?_)
  · replace H := H1 hx
    refine mj_iconst (v := 1) md_M_holdsSome_36 (by decide) ?_
    refine mj_istn (i := 3) (lv' := [(3, .int 1), (0, va_rf (some h0)), (1, .int v1), (2, .int v2)]) md_M_holdsSome_37 rfl (by decide) (by first | rfl | (simp [mj_rfc]; done) | (simp [mj_rfc]; rfl)) ?_
    exact mj_lvs [1, 2, 3, 0] rfl H
  · replace H := H2 hx
    refine mj_iload_n 2 md_M_holdsSome_10 rfl ?_
    obtain ⟨H1, H2⟩ := H
    refine mj_if_ne (tgt := 24) md_M_holdsSome_11 (by decide) (fun hx => ?_) (fun hx => ?_)
    · replace H := H1 hx
      refine mj_iconst (v := 1) md_M_holdsSome_24 (by decide) ?_
      refine mj_goto (tgt := 29) md_M_holdsSome_25 (by decide) ?_
      refine mj_istn (i := 2) (lv' := [(2, .int 1), (0, va_rf (some h0)), (1, .int v1), (3, .int v3)]) md_M_holdsSome_29 rfl (by decide) (by first | rfl | (simp [mj_rfc]; done) | (simp [mj_rfc]; rfl)) ?_
      refine mj_iinc (j := 3) (v := v3 + 1) (lv' := [(3, .int (v3 + 1)), (2, .int 1), (0, va_rf (some h0)), (1, .int v1)]) md_M_holdsSome_30 rfl rfl (by decide) (by first | rfl | (simp [mj_rfc]; done) | (simp [mj_rfc]; rfl)) ?_
      refine mj_goto (tgt := 4) md_M_holdsSome_33 (by decide) ?_
      exact mj_lvs [2, 3, 1, 0] rfl H
    · replace H := H2 hx
      refine mj_aload_n 0 md_M_holdsSome_14 rfl ?_
      obtain ⟨ht1, H⟩ := H
      refine mj_getf (v := va_rf (mj_r μ h0 22)) rfl kc_M 22 (by decide) tw_645 md_M_holdsSome_15 ht1 rfl ?_
      refine mj_iload_n 3 md_M_holdsSome_18 rfl ?_
      obtain ⟨b2, hb3, H⟩ := H
      obtain ⟨ht4, H⟩ := H
      obtain ⟨hi5, H⟩ := H
      refine mj_iald (t := 0) hb3 rfl ht4 hi5 md_M_holdsSome_19 ?_
      refine mj_iload_n 1 md_M_holdsSome_20 rfl ?_
      obtain ⟨H1, H2⟩ := H
      refine mj_icmp_ne (tgt := 28) md_M_holdsSome_21 (by decide) (fun hx => ?_) (fun hx => ?_)
      · replace H := H1 hx
        refine mj_iconst (v := 0) md_M_holdsSome_28 (by decide) ?_
        refine mj_istn (i := 2) (lv' := [(2, .int 0), (0, va_rf (some h0)), (1, .int v1), (3, .int v3)]) md_M_holdsSome_29 rfl (by decide) (by first | rfl | (simp [mj_rfc]; done) | (simp [mj_rfc]; rfl)) ?_
        refine mj_iinc (j := 3) (v := v3 + 1) (lv' := [(3, .int (v3 + 1)), (2, .int 0), (0, va_rf (some h0)), (1, .int v1)]) md_M_holdsSome_30 rfl rfl (by decide) (by first | rfl | (simp [mj_rfc]; done) | (simp [mj_rfc]; rfl)) ?_
        refine mj_goto (tgt := 4) md_M_holdsSome_33 (by decide) ?_
        exact mj_lvs [2, 3, 1, 0] rfl H
      · replace H := H2 hx
        refine mj_iconst (v := 1) md_M_holdsSome_24 (by decide) ?_
        refine mj_goto (tgt := 29) md_M_holdsSome_25 (by decide) ?_
        refine mj_istn (i := 2) (lv' := [(2, .int 1), (0, va_rf (some h0)), (1, .int v1), (3, .int v3)]) md_M_holdsSome_29 rfl (by decide) (by first | rfl | (simp [mj_rfc]; done) | (simp [mj_rfc]; rfl)) ?_
        refine mj_iinc (j := 3) (v := v3 + 1) (lv' := [(3, .int (v3 + 1)), (2, .int 1), (0, va_rf (some h0)), (1, .int v1)]) md_M_holdsSome_30 rfl rfl (by decide) (by first | rfl | (simp [mj_rfc]; done) | (simp [mj_rfc]; rfl)) ?_
        refine mj_goto (tgt := 4) md_M_holdsSome_33 (by decide) ?_
        exact mj_lvs [2, 3, 1, 0] rfl H

set_option maxRecDepth 20000 in
theorem bk_M_holdsSome_38 {G : mj_G} {Ex : Option Value → mj_MM → Prop} {N S : Nat} {μ : mj_MM} {h0 : Nat} {v1 : Int32} {v2 : Int32} {v3 : Int32}
    (H : ((16 < v3 → ((v2 = 0 ∨ v2 = 1) ∧ Ex (some (.int v2)) μ)) ∧ (¬ 16 < v3 → ((¬ v2 = 0 → mj_J G mY_M_holdsSome Ex N S 38 [(0, va_rf (some h0)), (1, .int v1), (2, .int 1), (3, .int (v3 + 1))] [] μ) ∧ (v2 = 0 → ((mj_t μ h0 = 11) ∧ ∃ b3 : Nat, (mj_r μ h0 25 = some b3) ∧ (mj_t μ b3 = 1000) ∧ (vp_in v3 (mj_n μ b3)) ∧ ((¬ (mj_i μ b3 (Int32.toNatClampNeg v3)) = v1 → mj_J G mY_M_holdsSome Ex N S 38 [(0, va_rf (some h0)), (1, .int v1), (2, .int 0), (3, .int (v3 + 1))] [] μ) ∧ ((mj_i μ b3 (Int32.toNatClampNeg v3)) = v1 → mj_J G mY_M_holdsSome Ex N S 38 [(0, va_rf (some h0)), (1, .int v1), (2, .int 1), (3, .int (v3 + 1))] [] μ)))))))) :
    mj_J G mY_M_holdsSome Ex N S 38 [(0, va_rf (some h0)), (1, .int v1), (2, .int v2), (3, .int v3)] [] μ := by
  refine mj_iload_n 3 md_M_holdsSome_38 rfl ?_
  refine mj_bipush (v := 16) md_M_holdsSome_39 (by decide) ?_
  obtain ⟨H1, H2⟩ := H
  refine mj_icmp_gt (tgt := 70) md_M_holdsSome_41 (by decide) (fun hx => ?_) (fun hx => ?_)
  · replace H := H1 hx
    refine mj_iload_n 2 md_M_holdsSome_70 rfl ?_
    obtain ⟨hz1, H⟩ := H
    exact mj_ireturn md_M_holdsSome_71 rfl (mj_bn hz1) H
  · replace H := H2 hx
    refine mj_iload_n 2 md_M_holdsSome_44 rfl ?_
    obtain ⟨H1, H2⟩ := H
    refine mj_if_ne (tgt := 58) md_M_holdsSome_45 (by decide) (fun hx => ?_) (fun hx => ?_)
    · replace H := H1 hx
      refine mj_iconst (v := 1) md_M_holdsSome_58 (by decide) ?_
      refine mj_goto (tgt := 63) md_M_holdsSome_59 (by decide) ?_
      refine mj_istn (i := 2) (lv' := [(2, .int 1), (0, va_rf (some h0)), (1, .int v1), (3, .int v3)]) md_M_holdsSome_63 rfl (by decide) (by first | rfl | (simp [mj_rfc]; done) | (simp [mj_rfc]; rfl)) ?_
      refine mj_iinc (j := 3) (v := v3 + 1) (lv' := [(3, .int (v3 + 1)), (2, .int 1), (0, va_rf (some h0)), (1, .int v1)]) md_M_holdsSome_64 rfl rfl (by decide) (by first | rfl | (simp [mj_rfc]; done) | (simp [mj_rfc]; rfl)) ?_
      refine mj_goto (tgt := 38) md_M_holdsSome_67 (by decide) ?_
      exact mj_lvs [2, 3, 1, 0] rfl H
    · replace H := H2 hx
      refine mj_aload_n 0 md_M_holdsSome_48 rfl ?_
      obtain ⟨ht2, H⟩ := H
      refine mj_getf (v := va_rf (mj_r μ h0 25)) rfl kc_M 25 (by decide) tw_648 md_M_holdsSome_49 ht2 rfl ?_
      refine mj_iload_n 3 md_M_holdsSome_52 rfl ?_
      obtain ⟨b3, hb4, H⟩ := H
      obtain ⟨ht5, H⟩ := H
      obtain ⟨hi6, H⟩ := H
      refine mj_iald (t := 0) hb4 rfl ht5 hi6 md_M_holdsSome_53 ?_
      refine mj_iload_n 1 md_M_holdsSome_54 rfl ?_
      obtain ⟨H1, H2⟩ := H
      refine mj_icmp_ne (tgt := 62) md_M_holdsSome_55 (by decide) (fun hx => ?_) (fun hx => ?_)
      · replace H := H1 hx
        refine mj_iconst (v := 0) md_M_holdsSome_62 (by decide) ?_
        refine mj_istn (i := 2) (lv' := [(2, .int 0), (0, va_rf (some h0)), (1, .int v1), (3, .int v3)]) md_M_holdsSome_63 rfl (by decide) (by first | rfl | (simp [mj_rfc]; done) | (simp [mj_rfc]; rfl)) ?_
        refine mj_iinc (j := 3) (v := v3 + 1) (lv' := [(3, .int (v3 + 1)), (2, .int 0), (0, va_rf (some h0)), (1, .int v1)]) md_M_holdsSome_64 rfl rfl (by decide) (by first | rfl | (simp [mj_rfc]; done) | (simp [mj_rfc]; rfl)) ?_
        refine mj_goto (tgt := 38) md_M_holdsSome_67 (by decide) ?_
        exact mj_lvs [2, 3, 1, 0] rfl H
      · replace H := H2 hx
        refine mj_iconst (v := 1) md_M_holdsSome_58 (by decide) ?_
        refine mj_goto (tgt := 63) md_M_holdsSome_59 (by decide) ?_
        refine mj_istn (i := 2) (lv' := [(2, .int 1), (0, va_rf (some h0)), (1, .int v1), (3, .int v3)]) md_M_holdsSome_63 rfl (by decide) (by first | rfl | (simp [mj_rfc]; done) | (simp [mj_rfc]; rfl)) ?_
        refine mj_iinc (j := 3) (v := v3 + 1) (lv' := [(3, .int (v3 + 1)), (2, .int 1), (0, va_rf (some h0)), (1, .int v1)]) md_M_holdsSome_64 rfl rfl (by decide) (by first | rfl | (simp [mj_rfc]; done) | (simp [mj_rfc]; rfl)) ?_
        refine mj_goto (tgt := 38) md_M_holdsSome_67 (by decide) ?_
        exact mj_lvs [2, 3, 1, 0] rfl H

set_option maxRecDepth 20000 in
theorem bk_M_free_0 {G : mj_G} {Ex : Option Value → mj_MM → Prop} {N S : Nat} {μ : mj_MM} {h0 : Nat} {v1 : Int32}
    (H : ((mj_t μ h0 = 11) ∧ (∃ P : Int32 → mj_MM → Prop, mj_M G my_M_holdsSome mY_M_holdsSome [va_rf (some h0), .int v1] (mj_nc μ) (mj_ns μ) μ (mj_XI P) ∧ ∀ (x : Int32) (μ' : mj_MM), P x μ' → mj_nc μ' = mj_nc μ → mj_ns μ' = mj_ns μ → mj_J G mY_M_free Ex N S 5 [(0, va_rf (some h0)), (1, .int v1)] [.int x] μ'))) :
    mj_J G mY_M_free Ex N S 0 [(0, va_rf (some h0)), (1, .int v1)] [] μ := by
  refine mj_aload_n 0 md_M_free_0 rfl ?_
  refine mj_iload_n 1 md_M_free_1 rfl ?_
  obtain ⟨ht1, H⟩ := H
  obtain ⟨P, hM, H⟩ := H
  exact mj_callV (n := 1) (As := [.int v1]) rfl hM kc_M ht1 ⟨tw_854, tw_8, tw_857, ⟨by decide, by decide, by decide +kernel⟩, by decide, by decide⟩ tw_856 tp_46 rfl md_M_free_2 (by first | decide | (simp only [List.map_cons, List.map_nil, List.sum_cons, List.sum_nil, mj_rfc, mj_ci, mj_cl]; done) | (simp only [List.map_cons, List.map_nil, List.sum_cons, List.sum_nil, mj_rfc, mj_ci, mj_cl]; decide)) id (mj_kI (fun x μ' hP e1 e2 => mj_lvs [0, 1] rfl (H x μ' hP e1 e2)))

set_option maxRecDepth 20000 in
theorem bk_M_free_5 {G : mj_G} {Ex : Option Value → mj_MM → Prop} {N S : Nat} {μ : mj_MM} {h0 : Nat} {v1 : Int32} {s0 : Int32}
    (H : ((¬ s0 = 0 → mj_J G mY_M_free Ex N S 24 [(0, va_rf (some h0)), (1, .int v1), (2, .int 1), (3, .int 1)] [] μ) ∧ (s0 = 0 → ((mj_t μ h0 = 11) ∧ ((¬ (mj_i μ h0 29) = v1 → mj_J G mY_M_free Ex N S 24 [(0, va_rf (some h0)), (1, .int v1), (2, .int 0), (3, .int 1)] [] μ) ∧ ((mj_i μ h0 29) = v1 → mj_J G mY_M_free Ex N S 24 [(0, va_rf (some h0)), (1, .int v1), (2, .int 1), (3, .int 1)] [] μ)))))) :
    mj_J G mY_M_free Ex N S 5 [(0, va_rf (some h0)), (1, .int v1)] [.int s0] μ := by
  obtain ⟨H1, H2⟩ := H
  refine mj_if_ne (tgt := 16) md_M_free_5 (by decide) (fun hx => ?_) (fun hx => ?_)
  · replace H := H1 hx
    refine mj_iconst (v := 1) md_M_free_16 (by decide) ?_
    refine mj_goto (tgt := 21) md_M_free_17 (by decide) ?_
    refine mj_istn (i := 2) (lv' := [(2, .int 1), (0, va_rf (some h0)), (1, .int v1)]) md_M_free_21 rfl (by decide) (by first | rfl | (simp [mj_rfc]; done) | (simp [mj_rfc]; rfl)) ?_
    refine mj_iconst (v := 1) md_M_free_22 (by decide) ?_
    refine mj_istn (i := 3) (lv' := [(3, .int 1), (2, .int 1), (0, va_rf (some h0)), (1, .int v1)]) md_M_free_23 rfl (by decide) (by first | rfl | (simp [mj_rfc]; done) | (simp [mj_rfc]; rfl)) ?_
    exact mj_lvs [2, 3, 1, 0] rfl H
  · replace H := H2 hx
    refine mj_aload_n 0 md_M_free_8 rfl ?_
    obtain ⟨ht1, H⟩ := H
    refine mj_getf (v := .int (mj_i μ h0 29)) rfl kc_M 29 (by decide) tw_652 md_M_free_9 ht1 rfl ?_
    refine mj_iload_n 1 md_M_free_12 rfl ?_
    obtain ⟨H1, H2⟩ := H
    refine mj_icmp_ne (tgt := 20) md_M_free_13 (by decide) (fun hx => ?_) (fun hx => ?_)
    · replace H := H1 hx
      refine mj_iconst (v := 0) md_M_free_20 (by decide) ?_
      refine mj_istn (i := 2) (lv' := [(2, .int 0), (0, va_rf (some h0)), (1, .int v1)]) md_M_free_21 rfl (by decide) (by first | rfl | (simp [mj_rfc]; done) | (simp [mj_rfc]; rfl)) ?_
      refine mj_iconst (v := 1) md_M_free_22 (by decide) ?_
      refine mj_istn (i := 3) (lv' := [(3, .int 1), (2, .int 0), (0, va_rf (some h0)), (1, .int v1)]) md_M_free_23 rfl (by decide) (by first | rfl | (simp [mj_rfc]; done) | (simp [mj_rfc]; rfl)) ?_
      exact mj_lvs [2, 3, 1, 0] rfl H
    · replace H := H2 hx
      refine mj_iconst (v := 1) md_M_free_16 (by decide) ?_
      refine mj_goto (tgt := 21) md_M_free_17 (by decide) ?_
      refine mj_istn (i := 2) (lv' := [(2, .int 1), (0, va_rf (some h0)), (1, .int v1)]) md_M_free_21 rfl (by decide) (by first | rfl | (simp [mj_rfc]; done) | (simp [mj_rfc]; rfl)) ?_
      refine mj_iconst (v := 1) md_M_free_22 (by decide) ?_
      refine mj_istn (i := 3) (lv' := [(3, .int 1), (2, .int 1), (0, va_rf (some h0)), (1, .int v1)]) md_M_free_23 rfl (by decide) (by first | rfl | (simp [mj_rfc]; done) | (simp [mj_rfc]; rfl)) ?_
      exact mj_lvs [2, 3, 1, 0] rfl H

set_option maxRecDepth 20000 in
theorem bk_M_free_24 {G : mj_G} {Ex : Option Value → mj_MM → Prop} {N S : Nat} {μ : mj_MM} {h0 : Nat} {v1 : Int32} {v2 : Int32} {v3 : Int32}
    (H : ((32 < v3 → mj_J G mY_M_free Ex N S 64 [(0, va_rf (some h0)), (1, .int v1), (2, .int v2), (3, .int 1)] [] μ) ∧ (¬ 32 < v3 → ((mj_t μ h0 = 11) ∧ ∃ b2 : Nat, (mj_r μ h0 22 = some b2) ∧ (mj_t μ b2 = 1000) ∧ (vp_in v3 (mj_n μ b2)) ∧ ((¬ (mj_i μ b2 (Int32.toNatClampNeg v3)) = v1 → ((vp_in v3 (mj_n μ b2)) ∧ (vp_in v3 (mj_n μ b2)) ∧ mj_J G mY_M_free Ex N S 24 [(0, va_rf (some h0)), (1, .int v1), (2, .int v2), (3, .int (v3 + 1))] [] (mj_pI μ b2 (Int32.toNatClampNeg v3) (mj_i μ b2 (Int32.toNatClampNeg v3))))) ∧ ((mj_i μ b2 (Int32.toNatClampNeg v3)) = v1 → ((vp_in v3 (mj_n μ b2)) ∧ mj_J G mY_M_free Ex N S 24 [(0, va_rf (some h0)), (1, .int v1), (2, .int v2), (3, .int (v3 + 1))] [] (mj_pI μ b2 (Int32.toNatClampNeg v3) 0)))))))) :
    mj_J G mY_M_free Ex N S 24 [(0, va_rf (some h0)), (1, .int v1), (2, .int v2), (3, .int v3)] [] μ := by
  refine mj_iload_n 3 md_M_free_24 rfl ?_
  refine mj_bipush (v := 32) md_M_free_25 (by decide) ?_
  obtain ⟨H1, H2⟩ := H
  refine mj_icmp_gt (tgt := 62) md_M_free_27 (by decide) (fun hx => ?_) (fun hx => ?_)
  · replace H := H1 hx
    refine mj_iconst (v := 1) md_M_free_62 (by decide) ?_
    refine mj_istn (i := 3) (lv' := [(3, .int 1), (0, va_rf (some h0)), (1, .int v1), (2, .int v2)]) md_M_free_63 rfl (by decide) (by first | rfl | (simp [mj_rfc]; done) | (simp [mj_rfc]; rfl)) ?_
    exact mj_lvs [1, 2, 3, 0] rfl H
  · replace H := H2 hx
    refine mj_aload_n 0 md_M_free_30 rfl ?_
    obtain ⟨ht1, H⟩ := H
    refine mj_getf (v := va_rf (mj_r μ h0 22)) rfl kc_M 22 (by decide) tw_645 md_M_free_31 ht1 rfl ?_
    refine mj_iload_n 3 md_M_free_34 rfl ?_
    refine mj_aload_n 0 md_M_free_35 rfl ?_
    refine mj_getf (v := va_rf (mj_r μ h0 22)) rfl kc_M 22 (by decide) tw_645 md_M_free_36 ht1 rfl ?_
    refine mj_iload_n 3 md_M_free_39 rfl ?_
    obtain ⟨b2, hb3, H⟩ := H
    obtain ⟨ht4, H⟩ := H
    obtain ⟨hi5, H⟩ := H
    refine mj_iald (t := 0) hb3 rfl ht4 hi5 md_M_free_40 ?_
    refine mj_iload_n 1 md_M_free_41 rfl ?_
    obtain ⟨H1, H2⟩ := H
    refine mj_icmp_ne (tgt := 49) md_M_free_42 (by decide) (fun hx => ?_) (fun hx => ?_)
    · replace H := H1 hx
      refine mj_aload_n 0 md_M_free_49 rfl ?_
      refine mj_getf (v := va_rf (mj_r μ h0 22)) rfl kc_M 22 (by decide) tw_645 md_M_free_50 ht1 rfl ?_
      refine mj_iload_n 3 md_M_free_53 rfl ?_
      obtain ⟨hi6, H⟩ := H
      refine mj_iald (t := 0) hb3 rfl ht4 hi6 md_M_free_54 ?_
      obtain ⟨hi7, H⟩ := H
      refine mj_iast (t := 0) hb3 rfl ht4 hi7 md_M_free_55 ?_
      refine mj_iinc (j := 3) (v := v3 + 1) (lv' := [(3, .int (v3 + 1)), (0, va_rf (some h0)), (1, .int v1), (2, .int v2)]) md_M_free_56 rfl rfl (by decide) (by first | rfl | (simp [mj_rfc]; done) | (simp [mj_rfc]; rfl)) ?_
      refine mj_goto (tgt := 24) md_M_free_59 (by decide) ?_
      exact mj_lvs [1, 2, 3, 0] rfl H
    · replace H := H2 hx
      refine mj_iconst (v := 0) md_M_free_45 (by decide) ?_
      refine mj_goto (tgt := 55) md_M_free_46 (by decide) ?_
      obtain ⟨hi8, H⟩ := H
      refine mj_iast (t := 0) hb3 rfl ht4 hi8 md_M_free_55 ?_
      refine mj_iinc (j := 3) (v := v3 + 1) (lv' := [(3, .int (v3 + 1)), (0, va_rf (some h0)), (1, .int v1), (2, .int v2)]) md_M_free_56 rfl rfl (by decide) (by first | rfl | (simp [mj_rfc]; done) | (simp [mj_rfc]; rfl)) ?_
      refine mj_goto (tgt := 24) md_M_free_59 (by decide) ?_
      exact mj_lvs [1, 2, 3, 0] rfl H

set_option maxRecDepth 20000 in
theorem bk_M_free_64 {G : mj_G} {Ex : Option Value → mj_MM → Prop} {N S : Nat} {μ : mj_MM} {h0 : Nat} {v1 : Int32} {v2 : Int32} {v3 : Int32}
    (H : ((16 < v3 → ((mj_t μ h0 = 11) ∧ ((¬ (mj_i μ h0 29) = v1 → ((v2 = 0 → mj_J G mY_M_free Ex N S 121 [(0, va_rf (some h0)), (1, .int v1)] [] (mj_pI μ h0 29 (mj_i μ h0 29))) ∧ (¬ v2 = 0 → (∃ P : mj_MM → Prop, mj_M G my_M_tell mY_M_tell [va_rf (some h0), .int 3, .int v1] (mj_nc μ) (mj_ns μ) (mj_pI μ h0 29 (mj_i μ h0 29)) (mj_XV P) ∧ ∀ (μ' : mj_MM), P μ' → mj_nc μ' = mj_nc μ → mj_ns μ' = mj_ns μ → mj_J G mY_M_free Ex N S 121 [(0, va_rf (some h0)), (1, .int v1)] [] μ')))) ∧ ((mj_i μ h0 29) = v1 → ((v2 = 0 → mj_J G mY_M_free Ex N S 121 [(0, va_rf (some h0)), (1, .int v1)] [] (mj_pI μ h0 29 0)) ∧ (¬ v2 = 0 → (∃ P : mj_MM → Prop, mj_M G my_M_tell mY_M_tell [va_rf (some h0), .int 3, .int v1] (mj_nc μ) (mj_ns μ) (mj_pI μ h0 29 0) (mj_XV P) ∧ ∀ (μ' : mj_MM), P μ' → mj_nc μ' = mj_nc μ → mj_ns μ' = mj_ns μ → mj_J G mY_M_free Ex N S 121 [(0, va_rf (some h0)), (1, .int v1)] [] μ'))))))) ∧ (¬ 16 < v3 → ((mj_t μ h0 = 11) ∧ ∃ b3 : Nat, (mj_r μ h0 25 = some b3) ∧ (mj_t μ b3 = 1000) ∧ (vp_in v3 (mj_n μ b3)) ∧ ((¬ (mj_i μ b3 (Int32.toNatClampNeg v3)) = v1 → mj_J G mY_M_free Ex N S 85 [(0, va_rf (some h0)), (1, .int v1), (2, .int v2), (3, .int v3)] [] μ) ∧ ((mj_i μ b3 (Int32.toNatClampNeg v3)) = v1 → (∃ P : mj_MM → Prop, mj_M G my_M_unlock mY_M_unlock [va_rf (some h0), .int v3] (mj_nc μ) (mj_ns μ) μ (mj_XV P) ∧ ∀ (μ' : mj_MM), P μ' → mj_nc μ' = mj_nc μ → mj_ns μ' = mj_ns μ → mj_J G mY_M_free Ex N S 85 [(0, va_rf (some h0)), (1, .int v1), (2, .int v2), (3, .int v3)] [] μ'))))))) :
    mj_J G mY_M_free Ex N S 64 [(0, va_rf (some h0)), (1, .int v1), (2, .int v2), (3, .int v3)] [] μ := by
  refine mj_iload_n 3 md_M_free_64 rfl ?_
  refine mj_bipush (v := 16) md_M_free_65 (by decide) ?_
  obtain ⟨H1, H2⟩ := H
  refine mj_icmp_gt (tgt := 91) md_M_free_67 (by decide) (fun hx => ?_) (fun hx => ?_)
  · replace H := H1 hx
    refine mj_aload_n 0 md_M_free_91 rfl ?_
    refine mj_aload_n 0 md_M_free_92 rfl ?_
    obtain ⟨ht1, H⟩ := H
    refine mj_getf (v := .int (mj_i μ h0 29)) rfl kc_M 29 (by decide) tw_652 md_M_free_93 ht1 rfl ?_
    refine mj_iload_n 1 md_M_free_96 rfl ?_
    obtain ⟨H1, H2⟩ := H
    refine mj_icmp_ne (tgt := 104) md_M_free_97 (by decide) (fun hx => ?_) (fun hx => ?_)
    · replace H := H1 hx
      refine mj_aload_n 0 md_M_free_104 rfl ?_
      refine mj_getf (v := .int (mj_i μ h0 29)) rfl kc_M 29 (by decide) tw_652 md_M_free_105 ht1 rfl ?_
      refine mj_putI rfl kc_M 29 (by decide) rfl tw_652 md_M_free_108 (Or.inl rfl) ht1 rfl rfl ?_
      refine mj_iload_n 2 md_M_free_111 rfl ?_
      obtain ⟨H1, H2⟩ := H
      refine mj_if_eq (tgt := 121) md_M_free_112 (by decide) (fun hx => ?_) (fun hx => ?_)
      · replace H := H1 hx
        exact mj_lvs [0, 1] rfl H
      · replace H := H2 hx
        refine mj_aload_n 0 md_M_free_115 rfl ?_
        refine mj_iconst (v := 3) md_M_free_116 (by decide) ?_
        refine mj_iload_n 1 md_M_free_117 rfl ?_
        obtain ⟨P, hM, H⟩ := H
        exact mj_callV (n := 2) (As := [.int 3, .int v1]) rfl hM kc_M ht1 ⟨tw_814, tw_8, tw_817, ⟨by decide, by decide, by decide +kernel⟩, by decide, by decide⟩ tw_816 tp_36 rfl md_M_free_118 (by first | decide | (simp only [List.map_cons, List.map_nil, List.sum_cons, List.sum_nil, mj_rfc, mj_ci, mj_cl]; done) | (simp only [List.map_cons, List.map_nil, List.sum_cons, List.sum_nil, mj_rfc, mj_ci, mj_cl]; decide)) id (mj_kV (fun μ' hP e1 e2 => mj_lvs [0, 1] rfl (H μ' hP e1 e2)))
    · replace H := H2 hx
      refine mj_iconst (v := 0) md_M_free_100 (by decide) ?_
      refine mj_goto (tgt := 108) md_M_free_101 (by decide) ?_
      refine mj_putI rfl kc_M 29 (by decide) rfl tw_652 md_M_free_108 (Or.inl rfl) ht1 rfl rfl ?_
      refine mj_iload_n 2 md_M_free_111 rfl ?_
      obtain ⟨H1, H2⟩ := H
      refine mj_if_eq (tgt := 121) md_M_free_112 (by decide) (fun hx => ?_) (fun hx => ?_)
      · replace H := H1 hx
        exact mj_lvs [0, 1] rfl H
      · replace H := H2 hx
        refine mj_aload_n 0 md_M_free_115 rfl ?_
        refine mj_iconst (v := 3) md_M_free_116 (by decide) ?_
        refine mj_iload_n 1 md_M_free_117 rfl ?_
        obtain ⟨P, hM, H⟩ := H
        exact mj_callV (n := 2) (As := [.int 3, .int v1]) rfl hM kc_M ht1 ⟨tw_814, tw_8, tw_817, ⟨by decide, by decide, by decide +kernel⟩, by decide, by decide⟩ tw_816 tp_36 rfl md_M_free_118 (by first | decide | (simp only [List.map_cons, List.map_nil, List.sum_cons, List.sum_nil, mj_rfc, mj_ci, mj_cl]; done) | (simp only [List.map_cons, List.map_nil, List.sum_cons, List.sum_nil, mj_rfc, mj_ci, mj_cl]; decide)) id (mj_kV (fun μ' hP e1 e2 => mj_lvs [0, 1] rfl (H μ' hP e1 e2)))
  · replace H := H2 hx
    refine mj_aload_n 0 md_M_free_70 rfl ?_
    obtain ⟨ht2, H⟩ := H
    refine mj_getf (v := va_rf (mj_r μ h0 25)) rfl kc_M 25 (by decide) tw_648 md_M_free_71 ht2 rfl ?_
    refine mj_iload_n 3 md_M_free_74 rfl ?_
    obtain ⟨b3, hb4, H⟩ := H
    obtain ⟨ht5, H⟩ := H
    obtain ⟨hi6, H⟩ := H
    refine mj_iald (t := 0) hb4 rfl ht5 hi6 md_M_free_75 ?_
    refine mj_iload_n 1 md_M_free_76 rfl ?_
    obtain ⟨H1, H2⟩ := H
    refine mj_icmp_ne (tgt := 85) md_M_free_77 (by decide) (fun hx => ?_) (fun hx => ?_)
    · replace H := H1 hx
      exact mj_lvs [0, 1, 2, 3] rfl H
    · replace H := H2 hx
      refine mj_aload_n 0 md_M_free_80 rfl ?_
      refine mj_iload_n 3 md_M_free_81 rfl ?_
      obtain ⟨P, hM, H⟩ := H
      exact mj_callV (n := 1) (As := [.int v3]) rfl hM kc_M ht2 ⟨tw_858, tw_8, tw_861, ⟨by decide, by decide, by decide +kernel⟩, by decide, by decide⟩ tw_860 tp_47 rfl md_M_free_82 (by first | decide | (simp only [List.map_cons, List.map_nil, List.sum_cons, List.sum_nil, mj_rfc, mj_ci, mj_cl]; done) | (simp only [List.map_cons, List.map_nil, List.sum_cons, List.sum_nil, mj_rfc, mj_ci, mj_cl]; decide)) id (mj_kV (fun μ' hP e1 e2 => mj_lvs [0, 1, 2, 3] rfl (H μ' hP e1 e2)))

set_option maxRecDepth 20000 in
theorem bk_M_free_121 {G : mj_G} {Ex : Option Value → mj_MM → Prop} {N S : Nat} {μ : mj_MM} {h0 : Nat} {v1 : Int32}
    (H : ((mj_t μ h0 = 11) ∧ ∃ b2 : Nat, (mj_r μ h0 11 = some b2) ∧ (mj_t μ b2 = 1000) ∧ (vp_in v1 (mj_n μ b2)) ∧ ∃ b6 : Nat, (mj_r μ h0 19 = some b6) ∧ (mj_t μ b6 = 1002) ∧ (vp_in v1 (mj_n μ b6)) ∧ Ex none (mj_pI (mj_pI μ b2 (Int32.toNatClampNeg v1) 0) b6 (Int32.toNatClampNeg v1) 0))) :
    mj_J G mY_M_free Ex N S 121 [(0, va_rf (some h0)), (1, .int v1)] [] μ := by
  refine mj_aload_n 0 md_M_free_121 rfl ?_
  obtain ⟨ht1, H⟩ := H
  refine mj_getf (v := va_rf (mj_r μ h0 11)) rfl kc_M 11 (by decide) tw_634 md_M_free_122 ht1 rfl ?_
  refine mj_iload_n 1 md_M_free_125 rfl ?_
  refine mj_iconst (v := 0) md_M_free_126 (by decide) ?_
  obtain ⟨b2, hb3, H⟩ := H
  obtain ⟨ht4, H⟩ := H
  obtain ⟨hi5, H⟩ := H
  refine mj_iast (t := 0) hb3 rfl ht4 hi5 md_M_free_127 ?_
  refine mj_aload_n 0 md_M_free_128 rfl ?_
  refine mj_getf (v := va_rf (mj_r μ h0 19)) rfl kc_M 19 (by decide) tw_642 md_M_free_129 ht1 rfl ?_
  refine mj_iload_n 1 md_M_free_132 rfl ?_
  refine mj_iconst (v := 0) md_M_free_133 (by decide) ?_
  obtain ⟨b6, hb7, H⟩ := H
  obtain ⟨ht8, H⟩ := H
  obtain ⟨hi9, H⟩ := H
  refine mj_zast (t := 2) hb7 rfl ht8 hi9 (by decide) md_M_free_134 ?_
  exact mj_return md_M_free_135 rfl H

set_option maxRecDepth 20000 in
theorem bk_M_free_85 {G : mj_G} {Ex : Option Value → mj_MM → Prop} {N S : Nat} {μ : mj_MM} {h0 : Nat} {v1 : Int32} {v2 : Int32} {v3 : Int32}
    (H : mj_J G mY_M_free Ex N S 64 [(0, va_rf (some h0)), (1, .int v1), (2, .int v2), (3, .int (v3 + 1))] [] μ) :
    mj_J G mY_M_free Ex N S 85 [(0, va_rf (some h0)), (1, .int v1), (2, .int v2), (3, .int v3)] [] μ := by
  refine mj_iinc (j := 3) (v := v3 + 1) (lv' := [(3, .int (v3 + 1)), (0, va_rf (some h0)), (1, .int v1), (2, .int v2)]) md_M_free_85 rfl rfl (by decide) (by first | rfl | (simp [mj_rfc]; done) | (simp [mj_rfc]; rfl)) ?_
  refine mj_goto (tgt := 64) md_M_free_88 (by decide) ?_
  exact mj_lvs [1, 2, 3, 0] rfl H

set_option maxRecDepth 20000 in
theorem bk_M_ends_0 {G : mj_G} {Ex : Option Value → mj_MM → Prop} {N S : Nat} {μ : mj_MM} {h0 : Nat} {v1 : Int32}
    (H : ((mj_t μ h0 = 11) ∧ (∃ P : mj_MM → Prop, mj_M G my_M_free mY_M_free [va_rf (some h0), .int v1] (mj_nc μ) (mj_ns μ) μ (mj_XV P) ∧ ∀ (μ' : mj_MM), P μ' → mj_nc μ' = mj_nc μ → mj_ns μ' = mj_ns μ → mj_J G mY_M_ends Ex N S 5 [(0, va_rf (some h0)), (1, .int v1)] [] μ'))) :
    mj_J G mY_M_ends Ex N S 0 [(0, va_rf (some h0)), (1, .int v1)] [] μ := by
  refine mj_aload_n 0 md_M_ends_0 rfl ?_
  refine mj_iload_n 1 md_M_ends_1 rfl ?_
  obtain ⟨ht1, H⟩ := H
  obtain ⟨P, hM, H⟩ := H
  exact mj_callV (n := 1) (As := [.int v1]) rfl hM kc_M ht1 ⟨tw_850, tw_8, tw_853, ⟨by decide, by decide, by decide +kernel⟩, by decide, by decide⟩ tw_852 tp_45 rfl md_M_ends_2 (by first | decide | (simp only [List.map_cons, List.map_nil, List.sum_cons, List.sum_nil, mj_rfc, mj_ci, mj_cl]; done) | (simp only [List.map_cons, List.map_nil, List.sum_cons, List.sum_nil, mj_rfc, mj_ci, mj_cl]; decide)) id (mj_kV (fun μ' hP e1 e2 => mj_lvs [0, 1] rfl (H μ' hP e1 e2)))

set_option maxRecDepth 20000 in
theorem bk_M_ends_5 {G : mj_G} {Ex : Option Value → mj_MM → Prop} {N S : Nat} {μ : mj_MM} {h0 : Nat} {v1 : Int32}
    (H : ((mj_t μ h0 = 11) ∧ ∃ b2 : Nat, (mj_r μ h0 13 = some b2) ∧ (mj_t μ b2 = 1000) ∧ (vp_in v1 (mj_n μ b2)) ∧ ((¬ (mj_i μ b2 (Int32.toNatClampNeg v1)) = 0 → ((vp_in v1 (mj_n μ b2)) ∧ (vp_in v1 (mj_n μ b2)) ∧ (∃ P : mj_MM → Prop, mj_M G my_M_begin mY_M_begin [va_rf (some h0), .int v1] (mj_nc μ) (mj_ns μ) (mj_pI μ b2 (Int32.toNatClampNeg v1) ((mj_i μ b2 (Int32.toNatClampNeg v1)) - 1)) (mj_XV P) ∧ ∀ (μ' : mj_MM), P μ' → mj_nc μ' = mj_nc μ → mj_ns μ' = mj_ns μ → mj_J G mY_M_ends Ex N S 30 [] [] μ'))) ∧ ((mj_i μ b2 (Int32.toNatClampNeg v1)) = 0 → Ex none μ)))) :
    mj_J G mY_M_ends Ex N S 5 [(0, va_rf (some h0)), (1, .int v1)] [] μ := by
  refine mj_aload_n 0 md_M_ends_5 rfl ?_
  obtain ⟨ht1, H⟩ := H
  refine mj_getf (v := va_rf (mj_r μ h0 13)) rfl kc_M 13 (by decide) tw_636 md_M_ends_6 ht1 rfl ?_
  refine mj_iload_n 1 md_M_ends_9 rfl ?_
  obtain ⟨b2, hb3, H⟩ := H
  obtain ⟨ht4, H⟩ := H
  obtain ⟨hi5, H⟩ := H
  refine mj_iald (t := 0) hb3 rfl ht4 hi5 md_M_ends_10 ?_
  obtain ⟨H1, H2⟩ := H
  refine mj_if_ne (tgt := 15) md_M_ends_11 (by decide) (fun hx => ?_) (fun hx => ?_)
  · replace H := H1 hx
    refine mj_aload_n 0 md_M_ends_15 rfl ?_
    refine mj_getf (v := va_rf (mj_r μ h0 13)) rfl kc_M 13 (by decide) tw_636 md_M_ends_16 ht1 rfl ?_
    refine mj_iload_n 1 md_M_ends_19 rfl ?_
    refine mj_dup2 md_M_ends_20 (rfl) (mj_rfc _) ?_
    obtain ⟨hi6, H⟩ := H
    refine mj_iald (t := 0) hb3 rfl ht4 hi6 md_M_ends_21 ?_
    refine mj_iconst (v := 1) md_M_ends_22 (by decide) ?_
    refine mj_isub md_M_ends_23 ?_
    obtain ⟨hi7, H⟩ := H
    refine mj_iast (t := 0) hb3 rfl ht4 hi7 md_M_ends_24 ?_
    refine mj_aload_n 0 md_M_ends_25 rfl ?_
    refine mj_iload_n 1 md_M_ends_26 rfl ?_
    obtain ⟨P, hM, H⟩ := H
    exact mj_callV (n := 1) (As := [.int v1]) rfl hM kc_M ht1 ⟨tw_810, tw_8, tw_813, ⟨by decide, by decide, by decide +kernel⟩, by decide, by decide⟩ tw_812 tp_35 rfl md_M_ends_27 (by first | decide | (simp only [List.map_cons, List.map_nil, List.sum_cons, List.sum_nil, mj_rfc, mj_ci, mj_cl]; done) | (simp only [List.map_cons, List.map_nil, List.sum_cons, List.sum_nil, mj_rfc, mj_ci, mj_cl]; decide)) id (mj_kV (fun μ' hP e1 e2 => mj_lvs [] rfl (H μ' hP e1 e2)))
  · replace H := H2 hx
    exact mj_return md_M_ends_14 rfl H

set_option maxRecDepth 20000 in
theorem bk_M_ends_30 {G : mj_G} {Ex : Option Value → mj_MM → Prop} {N S : Nat} {μ : mj_MM}
    (H : Ex none μ) :
    mj_J G mY_M_ends Ex N S 30 [] [] μ := by
  exact mj_return md_M_ends_30 rfl H

set_option maxRecDepth 20000 in
theorem bk_M_nextPart_0 {G : mj_G} {Ex : Option Value → mj_MM → Prop} {N S : Nat} {μ : mj_MM} {h0 : Nat} {v1 : Int32}
    (H : mj_J G mY_M_nextPart Ex N S 4 [(0, va_rf (some h0)), (1, .int v1), (2, .int 0), (3, .int 0)] [] μ) :
    mj_J G mY_M_nextPart Ex N S 0 [(0, va_rf (some h0)), (1, .int v1)] [] μ := by
  refine mj_iconst (v := 0) md_M_nextPart_0 (by decide) ?_
  refine mj_istn (i := 2) (lv' := [(2, .int 0), (0, va_rf (some h0)), (1, .int v1)]) md_M_nextPart_1 rfl (by decide) (by first | rfl | (simp [mj_rfc]; done) | (simp [mj_rfc]; rfl)) ?_
  refine mj_iconst (v := 0) md_M_nextPart_2 (by decide) ?_
  refine mj_istn (i := 3) (lv' := [(3, .int 0), (2, .int 0), (0, va_rf (some h0)), (1, .int v1)]) md_M_nextPart_3 rfl (by decide) (by first | rfl | (simp [mj_rfc]; done) | (simp [mj_rfc]; rfl)) ?_
  exact mj_lvs [2, 3, 1, 0] rfl H

set_option maxRecDepth 20000 in
theorem bk_M_nextPart_4 {G : mj_G} {Ex : Option Value → mj_MM → Prop} {N S : Nat} {μ : mj_MM} {h0 : Nat} {v1 : Int32} {v2 : Int32} {v3 : Int32}
    (H : ((mj_t μ h0 = 11) ∧ (((mj_i μ h0 7) ≤ v3 → Ex (some (.int (-1))) μ) ∧ (¬ (mj_i μ h0 7) ≤ v3 → (∃ b2 : Nat, (mj_r μ h0 8 = some b2) ∧ (mj_t μ b2 = 1000) ∧ (vp_in v3 (mj_n μ b2)) ∧ ((¬ (mj_i μ b2 (Int32.toNatClampNeg v3)) = v1 → mj_J G mY_M_nextPart Ex N S 4 [(0, va_rf (some h0)), (1, .int v1), (2, .int v2), (3, .int (v3 + 1))] [] μ) ∧ ((mj_i μ b2 (Int32.toNatClampNeg v3)) = v1 → (∃ b6 : Nat, (mj_r μ h0 14 = some b6) ∧ (mj_t μ b6 = 1000) ∧ (vp_in v1 (mj_n μ b6)) ∧ ((¬ v2 = (mj_i μ b6 (Int32.toNatClampNeg v1)) → mj_J G mY_M_nextPart Ex N S 4 [(0, va_rf (some h0)), (1, .int v1), (2, .int (v2 + 1)), (3, .int (v3 + 1))] [] μ) ∧ (v2 = (mj_i μ b6 (Int32.toNatClampNeg v1)) → Ex (some (.int v3)) μ)))))))))) :
    mj_J G mY_M_nextPart Ex N S 4 [(0, va_rf (some h0)), (1, .int v1), (2, .int v2), (3, .int v3)] [] μ := by
  refine mj_iload_n 3 md_M_nextPart_4 rfl ?_
  refine mj_aload_n 0 md_M_nextPart_5 rfl ?_
  obtain ⟨ht1, H⟩ := H
  refine mj_getf (v := .int (mj_i μ h0 7)) rfl kc_M 7 (by decide) tw_630 md_M_nextPart_6 ht1 rfl ?_
  obtain ⟨H1, H2⟩ := H
  refine mj_icmp_ge (tgt := 43) md_M_nextPart_9 (by decide) (fun hx => ?_) (fun hx => ?_)
  · replace H := H1 hx
    refine mj_iconst (v := (-1)) md_M_nextPart_43 (by decide) ?_
    exact mj_ireturn md_M_nextPart_44 rfl rfl H
  · replace H := H2 hx
    refine mj_aload_n 0 md_M_nextPart_12 rfl ?_
    refine mj_getf (v := va_rf (mj_r μ h0 8)) rfl kc_M 8 (by decide) tw_631 md_M_nextPart_13 ht1 rfl ?_
    refine mj_iload_n 3 md_M_nextPart_16 rfl ?_
    obtain ⟨b2, hb3, H⟩ := H
    obtain ⟨ht4, H⟩ := H
    obtain ⟨hi5, H⟩ := H
    refine mj_iald (t := 0) hb3 rfl ht4 hi5 md_M_nextPart_17 ?_
    refine mj_iload_n 1 md_M_nextPart_18 rfl ?_
    obtain ⟨H1, H2⟩ := H
    refine mj_icmp_ne (tgt := 37) md_M_nextPart_19 (by decide) (fun hx => ?_) (fun hx => ?_)
    · replace H := H1 hx
      refine mj_iinc (j := 3) (v := v3 + 1) (lv' := [(3, .int (v3 + 1)), (0, va_rf (some h0)), (1, .int v1), (2, .int v2)]) md_M_nextPart_37 rfl rfl (by decide) (by first | rfl | (simp [mj_rfc]; done) | (simp [mj_rfc]; rfl)) ?_
      refine mj_goto (tgt := 4) md_M_nextPart_40 (by decide) ?_
      exact mj_lvs [1, 2, 3, 0] rfl H
    · replace H := H2 hx
      refine mj_iload_n 2 md_M_nextPart_22 rfl ?_
      refine mj_aload_n 0 md_M_nextPart_23 rfl ?_
      refine mj_getf (v := va_rf (mj_r μ h0 14)) rfl kc_M 14 (by decide) tw_637 md_M_nextPart_24 ht1 rfl ?_
      refine mj_iload_n 1 md_M_nextPart_27 rfl ?_
      obtain ⟨b6, hb7, H⟩ := H
      obtain ⟨ht8, H⟩ := H
      obtain ⟨hi9, H⟩ := H
      refine mj_iald (t := 0) hb7 rfl ht8 hi9 md_M_nextPart_28 ?_
      obtain ⟨H1, H2⟩ := H
      refine mj_icmp_ne (tgt := 34) md_M_nextPart_29 (by decide) (fun hx => ?_) (fun hx => ?_)
      · replace H := H1 hx
        refine mj_iinc (j := 2) (v := v2 + 1) (lv' := [(2, .int (v2 + 1)), (0, va_rf (some h0)), (1, .int v1), (3, .int v3)]) md_M_nextPart_34 rfl rfl (by decide) (by first | rfl | (simp [mj_rfc]; done) | (simp [mj_rfc]; rfl)) ?_
        refine mj_iinc (j := 3) (v := v3 + 1) (lv' := [(3, .int (v3 + 1)), (2, .int (v2 + 1)), (0, va_rf (some h0)), (1, .int v1)]) md_M_nextPart_37 rfl rfl (by decide) (by first | rfl | (simp [mj_rfc]; done) | (simp [mj_rfc]; rfl)) ?_
        refine mj_goto (tgt := 4) md_M_nextPart_40 (by decide) ?_
        exact mj_lvs [2, 3, 1, 0] rfl H
      · replace H := H2 hx
        refine mj_iload_n 3 md_M_nextPart_32 rfl ?_
        exact mj_ireturn md_M_nextPart_33 rfl rfl H

set_option maxRecDepth 20000 in
theorem bk_M_act_0 {G : mj_G} {Ex : Option Value → mj_MM → Prop} {N S : Nat} {μ : mj_MM} {h0 : Nat} {v1 : Int32} {v2 : Int32} {v3 : Int64}
    (H : mj_J G mY_M_act Ex N S 7 [(0, va_rf (some h0)), (1, .int v1), (2, .int v2), (3, .long v3), (5, .int (Int64.toInt32 v3)), (6, .int 0)] [] μ) :
    mj_J G mY_M_act Ex N S 0 [(0, va_rf (some h0)), (1, .int v1), (2, .int v2), (3, .long v3)] [] μ := by
  refine mj_lload_n 3 md_M_act_0 rfl ?_
  refine mj_l2i md_M_act_1 ?_
  refine mj_istore (lv' := [(5, .int (Int64.toInt32 v3)), (0, va_rf (some h0)), (1, .int v1), (2, .int v2), (3, .long v3)]) md_M_act_2 (by decide) (by first | rfl | (simp [mj_rfc]; done) | (simp [mj_rfc]; rfl)) ?_
  refine mj_iconst (v := 0) md_M_act_4 (by decide) ?_
  refine mj_istore (lv' := [(6, .int 0), (5, .int (Int64.toInt32 v3)), (0, va_rf (some h0)), (1, .int v1), (2, .int v2), (3, .long v3)]) md_M_act_5 (by decide) (by first | rfl | (simp [mj_rfc]; done) | (simp [mj_rfc]; rfl)) ?_
  exact mj_lvs [2, 3, 4, 5, 1, 0] rfl H

set_option maxRecDepth 20000 in
theorem bk_M_act_7 {G : mj_G} {Ex : Option Value → mj_MM → Prop} {N S : Nat} {μ : mj_MM} {h0 : Nat} {v1 : Int32} {v2 : Int32} {v3 : Int64} {v5 : Int32} {v6 : Int32}
    (H : ((¬ v2 = 2 → mj_J G mY_M_act Ex N S 20 [(0, va_rf (some h0)), (1, .int v1), (2, .int v2), (3, .long v3), (5, .int v5), (6, .int v6)] [] μ) ∧ (v2 = 2 → ((mj_t μ h0 = 11) ∧ (∃ P : mj_MM → Prop, mj_M G my_M_chain mY_M_chain [va_rf (some h0), .int v1, .int v5] (mj_nc μ) (mj_ns μ) μ (mj_XV P) ∧ ∀ (μ' : mj_MM), P μ' → mj_nc μ' = mj_nc μ → mj_ns μ' = mj_ns μ → mj_J G mY_M_act Ex N S 19 [] [] μ'))))) :
    mj_J G mY_M_act Ex N S 7 [(0, va_rf (some h0)), (1, .int v1), (2, .int v2), (3, .long v3), (5, .int v5), (6, .int v6)] [] μ := by
  refine mj_iload_n 2 md_M_act_7 rfl ?_
  refine mj_iconst (v := 2) md_M_act_8 (by decide) ?_
  obtain ⟨H1, H2⟩ := H
  refine mj_icmp_ne (tgt := 20) md_M_act_9 (by decide) (fun hx => ?_) (fun hx => ?_)
  · replace H := H1 hx
    exact mj_lvs [0, 1, 2, 3, 4, 5] rfl H
  · replace H := H2 hx
    refine mj_aload_n 0 md_M_act_12 rfl ?_
    refine mj_iload_n 1 md_M_act_13 rfl ?_
    refine mj_iload 4 md_M_act_14 rfl ?_
    obtain ⟨ht1, H⟩ := H
    obtain ⟨P, hM, H⟩ := H
    exact mj_callV (n := 2) (As := [.int v1, .int v5]) rfl hM kc_M ht1 ⟨tw_866, tw_8, tw_869, ⟨by decide, by decide, by decide +kernel⟩, by decide, by decide⟩ tw_868 tp_49 rfl md_M_act_16 (by first | decide | (simp only [List.map_cons, List.map_nil, List.sum_cons, List.sum_nil, mj_rfc, mj_ci, mj_cl]; done) | (simp only [List.map_cons, List.map_nil, List.sum_cons, List.sum_nil, mj_rfc, mj_ci, mj_cl]; decide)) id (mj_kV (fun μ' hP e1 e2 => mj_lvs [] rfl (H μ' hP e1 e2)))

set_option maxRecDepth 20000 in
theorem bk_M_act_20 {G : mj_G} {Ex : Option Value → mj_MM → Prop} {N S : Nat} {μ : mj_MM} {h0 : Nat} {v1 : Int32} {v2 : Int32} {v3 : Int64} {v5 : Int32} {v6 : Int32}
    (H : ((¬ v2 = 11 → mj_J G mY_M_act Ex N S 32 [(0, va_rf (some h0)), (1, .int v1), (2, .int v2), (3, .long v3), (5, .int v5), (6, .int v6)] [] μ) ∧ (v2 = 11 → ((mj_t μ h0 = 11) ∧ (∃ P : mj_MM → Prop, mj_M G my_M_ends mY_M_ends [va_rf (some h0), .int v1] (mj_nc μ) (mj_ns μ) μ (mj_XV P) ∧ ∀ (μ' : mj_MM), P μ' → mj_nc μ' = mj_nc μ → mj_ns μ' = mj_ns μ → mj_J G mY_M_act Ex N S 31 [] [] μ'))))) :
    mj_J G mY_M_act Ex N S 20 [(0, va_rf (some h0)), (1, .int v1), (2, .int v2), (3, .long v3), (5, .int v5), (6, .int v6)] [] μ := by
  refine mj_iload_n 2 md_M_act_20 rfl ?_
  refine mj_bipush (v := 11) md_M_act_21 (by decide) ?_
  obtain ⟨H1, H2⟩ := H
  refine mj_icmp_ne (tgt := 32) md_M_act_23 (by decide) (fun hx => ?_) (fun hx => ?_)
  · replace H := H1 hx
    exact mj_lvs [0, 1, 2, 3, 4, 5] rfl H
  · replace H := H2 hx
    refine mj_aload_n 0 md_M_act_26 rfl ?_
    refine mj_iload_n 1 md_M_act_27 rfl ?_
    obtain ⟨ht1, H⟩ := H
    obtain ⟨P, hM, H⟩ := H
    exact mj_callV (n := 1) (As := [.int v1]) rfl hM kc_M ht1 ⟨tw_846, tw_8, tw_849, ⟨by decide, by decide, by decide +kernel⟩, by decide, by decide⟩ tw_848 tp_44 rfl md_M_act_28 (by first | decide | (simp only [List.map_cons, List.map_nil, List.sum_cons, List.sum_nil, mj_rfc, mj_ci, mj_cl]; done) | (simp only [List.map_cons, List.map_nil, List.sum_cons, List.sum_nil, mj_rfc, mj_ci, mj_cl]; decide)) id (mj_kV (fun μ' hP e1 e2 => mj_lvs [] rfl (H μ' hP e1 e2)))

set_option maxRecDepth 20000 in
theorem bk_M_act_19 {G : mj_G} {Ex : Option Value → mj_MM → Prop} {N S : Nat} {μ : mj_MM}
    (H : Ex none μ) :
    mj_J G mY_M_act Ex N S 19 [] [] μ := by
  exact mj_return md_M_act_19 rfl H

set_option maxRecDepth 20000 in
theorem bk_M_act_32 {G : mj_G} {Ex : Option Value → mj_MM → Prop} {N S : Nat} {μ : mj_MM} {h0 : Nat} {v1 : Int32} {v2 : Int32} {v3 : Int64} {v5 : Int32} {v6 : Int32}
    (H : ((¬ v2 = 8 → mj_J G mY_M_act Ex N S 88 [(0, va_rf (some h0)), (1, .int v1), (2, .int v2), (3, .long v3), (5, .int v5), (6, .int v6)] [] μ) ∧ (v2 = 8 → ((mj_t μ h0 = 11) ∧ ∃ b2 : Nat, (mj_r μ h0 25 = some b2) ∧ (mj_t μ b2 = 1000) ∧ (vp_in v5 (mj_n μ b2)) ∧ (((mj_i μ b2 (Int32.toNatClampNeg v5)) = 0 → mj_J G mY_M_act Ex N S 88 [(0, va_rf (some h0)), (1, .int v1), (2, .int v2), (3, .long v3), (5, .int v5), (6, .int v6)] [] μ) ∧ (¬ (mj_i μ b2 (Int32.toNatClampNeg v5)) = 0 → ((vp_in v5 (mj_n μ b2)) ∧ (((mj_i μ b2 (Int32.toNatClampNeg v5)) = v1 → mj_J G mY_M_act Ex N S 88 [(0, va_rf (some h0)), (1, .int v1), (2, .int v2), (3, .long v3), (5, .int v5), (6, .int v6)] [] μ) ∧ (¬ (mj_i μ b2 (Int32.toNatClampNeg v5)) = v1 → (∃ b7 : Nat, (mj_r μ h0 26 = some b7) ∧ (mj_t μ b7 = 1000) ∧ (vp_in v1 (mj_n μ b7)) ∧ ∃ b11 : Nat, (mj_r μ h0 27 = some b11) ∧ (mj_t μ b11 = 1001) ∧ (vp_in v1 (mj_n μ b11)) ∧ Ex none (mj_pL (mj_pI (mj_pL μ h0 28 ((mj_l μ h0 28) + 1)) b7 (Int32.toNatClampNeg v1) v5) b11 (Int32.toNatClampNeg v1) ((mj_l μ h0 28) + 1)))))))))))) :
    mj_J G mY_M_act Ex N S 32 [(0, va_rf (some h0)), (1, .int v1), (2, .int v2), (3, .long v3), (5, .int v5), (6, .int v6)] [] μ := by
  refine mj_iload_n 2 md_M_act_32 rfl ?_
  refine mj_bipush (v := 8) md_M_act_33 (by decide) ?_
  obtain ⟨H1, H2⟩ := H
  refine mj_icmp_ne (tgt := 88) md_M_act_35 (by decide) (fun hx => ?_) (fun hx => ?_)
  · replace H := H1 hx
    exact mj_lvs [0, 1, 2, 3, 4, 5] rfl H
  · replace H := H2 hx
    refine mj_aload_n 0 md_M_act_38 rfl ?_
    obtain ⟨ht1, H⟩ := H
    refine mj_getf (v := va_rf (mj_r μ h0 25)) rfl kc_M 25 (by decide) tw_648 md_M_act_39 ht1 rfl ?_
    refine mj_iload 4 md_M_act_42 rfl ?_
    obtain ⟨b2, hb3, H⟩ := H
    obtain ⟨ht4, H⟩ := H
    obtain ⟨hi5, H⟩ := H
    refine mj_iald (t := 0) hb3 rfl ht4 hi5 md_M_act_44 ?_
    obtain ⟨H1, H2⟩ := H
    refine mj_if_eq (tgt := 88) md_M_act_45 (by decide) (fun hx => ?_) (fun hx => ?_)
    · replace H := H1 hx
      exact mj_lvs [0, 1, 2, 3, 4, 5] rfl H
    · replace H := H2 hx
      refine mj_aload_n 0 md_M_act_48 rfl ?_
      refine mj_getf (v := va_rf (mj_r μ h0 25)) rfl kc_M 25 (by decide) tw_648 md_M_act_49 ht1 rfl ?_
      refine mj_iload 4 md_M_act_52 rfl ?_
      obtain ⟨hi6, H⟩ := H
      refine mj_iald (t := 0) hb3 rfl ht4 hi6 md_M_act_54 ?_
      refine mj_iload_n 1 md_M_act_55 rfl ?_
      obtain ⟨H1, H2⟩ := H
      refine mj_icmp_eq (tgt := 88) md_M_act_56 (by decide) (fun hx => ?_) (fun hx => ?_)
      · replace H := H1 hx
        exact mj_lvs [0, 1, 2, 3, 4, 5] rfl H
      · replace H := H2 hx
        refine mj_aload_n 0 md_M_act_59 rfl ?_
        refine mj_dup md_M_act_60 (mj_rfc _) ?_
        refine mj_getf (v := .long (mj_l μ h0 28)) rfl kc_M 28 (by decide) tw_651 md_M_act_61 ht1 rfl ?_
        refine mj_lconst (v := 1) md_M_act_64 (by decide) ?_
        refine mj_ladd md_M_act_65 ?_
        refine mj_putL rfl kc_M 28 (by decide) rfl tw_651 md_M_act_66 (Or.inl rfl) ht1 ?_
        refine mj_aload_n 0 md_M_act_69 rfl ?_
        refine mj_getf (v := va_rf (mj_r μ h0 26)) rfl kc_M 26 (by decide) tw_649 md_M_act_70 ht1 rfl ?_
        refine mj_iload_n 1 md_M_act_73 rfl ?_
        refine mj_iload 4 md_M_act_74 rfl ?_
        obtain ⟨b7, hb8, H⟩ := H
        obtain ⟨ht9, H⟩ := H
        obtain ⟨hi10, H⟩ := H
        refine mj_iast (t := 0) hb8 rfl ht9 hi10 md_M_act_76 ?_
        refine mj_aload_n 0 md_M_act_77 rfl ?_
        refine mj_getf (v := va_rf (mj_r μ h0 27)) rfl kc_M 27 (by decide) tw_650 md_M_act_78 ht1 rfl ?_
        refine mj_iload_n 1 md_M_act_81 rfl ?_
        refine mj_aload_n 0 md_M_act_82 rfl ?_
        refine mj_getf (v := .long ((mj_l μ h0 28) + 1)) rfl kc_M 28 (by decide) tw_651 md_M_act_83 ht1 (by show Value.long (mj_l (mj_pL μ h0 28 ((mj_l μ h0 28) + 1)) h0 28) = _; rw [mj_sL]) ?_
        obtain ⟨b11, hb12, H⟩ := H
        obtain ⟨ht13, H⟩ := H
        obtain ⟨hi14, H⟩ := H
        refine mj_last (t := 1) hb12 rfl ht13 hi14 md_M_act_86 ?_
        exact mj_return md_M_act_87 rfl H

set_option maxRecDepth 20000 in
theorem bk_M_act_31 {G : mj_G} {Ex : Option Value → mj_MM → Prop} {N S : Nat} {μ : mj_MM}
    (H : Ex none μ) :
    mj_J G mY_M_act Ex N S 31 [] [] μ := by
  exact mj_return md_M_act_31 rfl H

set_option maxRecDepth 20000 in
theorem bk_M_act_88 {G : mj_G} {Ex : Option Value → mj_MM → Prop} {N S : Nat} {μ : mj_MM} {h0 : Nat} {v1 : Int32} {v2 : Int32} {v3 : Int64} {v5 : Int32} {v6 : Int32}
    (H : ((mj_t μ h0 = 11) ∧ ∃ b2 : Nat, (mj_r μ h0 14 = some b2) ∧ (mj_t μ b2 = 1000) ∧ (vp_in v1 (mj_n μ b2)) ∧ (vp_in v1 (mj_n μ b2)) ∧ mj_J G mY_M_act Ex N S 98 [(0, va_rf (some h0)), (1, .int v1), (2, .int v2), (3, .long v3), (5, .int v5), (6, .int v6)] [] (mj_pI μ b2 (Int32.toNatClampNeg v1) ((mj_i μ b2 (Int32.toNatClampNeg v1)) + 1)))) :
    mj_J G mY_M_act Ex N S 88 [(0, va_rf (some h0)), (1, .int v1), (2, .int v2), (3, .long v3), (5, .int v5), (6, .int v6)] [] μ := by
  refine mj_aload_n 0 md_M_act_88 rfl ?_
  obtain ⟨ht1, H⟩ := H
  refine mj_getf (v := va_rf (mj_r μ h0 14)) rfl kc_M 14 (by decide) tw_637 md_M_act_89 ht1 rfl ?_
  refine mj_iload_n 1 md_M_act_92 rfl ?_
  refine mj_dup2 md_M_act_93 (rfl) (mj_rfc _) ?_
  obtain ⟨b2, hb3, H⟩ := H
  obtain ⟨ht4, H⟩ := H
  obtain ⟨hi5, H⟩ := H
  refine mj_iald (t := 0) hb3 rfl ht4 hi5 md_M_act_94 ?_
  refine mj_iconst (v := 1) md_M_act_95 (by decide) ?_
  refine mj_iadd md_M_act_96 ?_
  obtain ⟨hi6, H⟩ := H
  refine mj_iast (t := 0) hb3 rfl ht4 hi6 md_M_act_97 ?_
  exact mj_lvs [0, 1, 2, 3, 4, 5] rfl H

set_option maxRecDepth 20000 in
theorem bk_M_act_98 {G : mj_G} {Ex : Option Value → mj_MM → Prop} {N S : Nat} {μ : mj_MM} {h0 : Nat} {v1 : Int32} {v2 : Int32} {v3 : Int64} {v5 : Int32} {v6 : Int32}
    (H : ((¬ v2 = 1 → mj_J G mY_M_act Ex N S 128 [(0, va_rf (some h0)), (1, .int v1), (2, .int v2), (3, .long v3), (5, .int v5), (6, .int v6)] [] μ) ∧ (v2 = 1 → ((mj_t μ h0 = 11) ∧ (∃ P : Int32 → mj_MM → Prop, mj_M G my_M_no mY_M_no [va_rf (some h0), .int v5] (mj_nc μ) (mj_ns μ) μ (mj_XI P) ∧ ∀ (x : Int32) (μ' : mj_MM), P x μ' → mj_nc μ' = mj_nc μ → mj_ns μ' = mj_ns μ → mj_J G mY_M_act Ex N S 109 [(0, va_rf (some h0)), (1, .int v1), (5, .int v5), (6, .int v6)] [.int x] μ'))))) :
    mj_J G mY_M_act Ex N S 98 [(0, va_rf (some h0)), (1, .int v1), (2, .int v2), (3, .long v3), (5, .int v5), (6, .int v6)] [] μ := by
  refine mj_iload_n 2 md_M_act_98 rfl ?_
  refine mj_iconst (v := 1) md_M_act_99 (by decide) ?_
  obtain ⟨H1, H2⟩ := H
  refine mj_icmp_ne (tgt := 128) md_M_act_100 (by decide) (fun hx => ?_) (fun hx => ?_)
  · replace H := H1 hx
    exact mj_lvs [0, 1, 2, 3, 4, 5] rfl H
  · replace H := H2 hx
    refine mj_aload_n 0 md_M_act_103 rfl ?_
    refine mj_iload 4 md_M_act_104 rfl ?_
    obtain ⟨ht1, H⟩ := H
    obtain ⟨P, hM, H⟩ := H
    exact mj_callV (n := 1) (As := [.int v5]) rfl hM kc_M ht1 ⟨tw_770, tw_8, tw_773, ⟨by decide, by decide, by decide +kernel⟩, by decide, by decide⟩ tw_772 tp_32 rfl md_M_act_106 (by first | decide | (simp only [List.map_cons, List.map_nil, List.sum_cons, List.sum_nil, mj_rfc, mj_ci, mj_cl]; done) | (simp only [List.map_cons, List.map_nil, List.sum_cons, List.sum_nil, mj_rfc, mj_ci, mj_cl]; decide)) id (mj_kI (fun x μ' hP e1 e2 => mj_lvs [0, 1, 4, 5] rfl (H x μ' hP e1 e2)))

set_option maxRecDepth 20000 in
theorem bk_M_act_128 {G : mj_G} {Ex : Option Value → mj_MM → Prop} {N S : Nat} {μ : mj_MM} {h0 : Nat} {v1 : Int32} {v2 : Int32} {v3 : Int64} {v5 : Int32} {v6 : Int32}
    (H : ((¬ v2 = 3 → mj_J G mY_M_act Ex N S 196 [(0, va_rf (some h0)), (1, .int v1), (2, .int v2), (3, .long v3), (5, .int v5), (6, .int v6)] [] μ) ∧ (v2 = 3 → ((mj_t μ h0 = 11) ∧ ∃ b2 : Nat, (mj_r μ h0 5 = some b2) ∧ (mj_t μ b2 = 1002) ∧ (vp_in v1 (mj_n μ b2)) ∧ ((¬ (mj_i μ b2 (Int32.toNatClampNeg v1)) = 0 → (∃ P : Int32 → mj_MM → Prop, mj_M G my_M_holdsSome mY_M_holdsSome [va_rf (some h0), .int v1] (mj_nc μ) (mj_ns μ) μ (mj_XI P) ∧ ∀ (x : Int32) (μ' : mj_MM), P x μ' → mj_nc μ' = mj_nc μ → mj_ns μ' = mj_ns μ → mj_J G mY_M_act Ex N S 151 [(0, va_rf (some h0)), (1, .int v1), (5, .int v5)] [.int x] μ')) ∧ ((mj_i μ b2 (Int32.toNatClampNeg v1)) = 0 → mj_J G mY_M_act Ex N S 654 [(0, va_rf (some h0)), (1, .int v1), (6, .int 2)] [] μ)))))) :
    mj_J G mY_M_act Ex N S 128 [(0, va_rf (some h0)), (1, .int v1), (2, .int v2), (3, .long v3), (5, .int v5), (6, .int v6)] [] μ := by
  refine mj_iload_n 2 md_M_act_128 rfl ?_
  refine mj_iconst (v := 3) md_M_act_129 (by decide) ?_
  obtain ⟨H1, H2⟩ := H
  refine mj_icmp_ne (tgt := 196) md_M_act_130 (by decide) (fun hx => ?_) (fun hx => ?_)
  · replace H := H1 hx
    exact mj_lvs [0, 1, 2, 3, 4, 5] rfl H
  · replace H := H2 hx
    refine mj_aload_n 0 md_M_act_133 rfl ?_
    obtain ⟨ht1, H⟩ := H
    refine mj_getf (v := va_rf (mj_r μ h0 5)) rfl kc_M 5 (by decide) tw_628 md_M_act_134 ht1 rfl ?_
    refine mj_iload_n 1 md_M_act_137 rfl ?_
    obtain ⟨b2, hb3, H⟩ := H
    obtain ⟨ht4, H⟩ := H
    obtain ⟨hi5, H⟩ := H
    refine mj_zald (t := 2) hb3 rfl ht4 hi5 md_M_act_138 ?_
    obtain ⟨H1, H2⟩ := H
    refine mj_if_ne (tgt := 146) md_M_act_139 (by decide) (fun hx => ?_) (fun hx => ?_)
    · replace H := H1 hx
      refine mj_aload_n 0 md_M_act_146 rfl ?_
      refine mj_iload_n 1 md_M_act_147 rfl ?_
      obtain ⟨P, hM, H⟩ := H
      exact mj_callV (n := 1) (As := [.int v1]) rfl hM kc_M ht1 ⟨tw_854, tw_8, tw_857, ⟨by decide, by decide, by decide +kernel⟩, by decide, by decide⟩ tw_856 tp_46 rfl md_M_act_148 (by first | decide | (simp only [List.map_cons, List.map_nil, List.sum_cons, List.sum_nil, mj_rfc, mj_ci, mj_cl]; done) | (simp only [List.map_cons, List.map_nil, List.sum_cons, List.sum_nil, mj_rfc, mj_ci, mj_cl]; decide)) id (mj_kI (fun x μ' hP e1 e2 => mj_lvs [0, 1, 4] rfl (H x μ' hP e1 e2)))
    · replace H := H2 hx
      refine mj_iconst (v := 2) md_M_act_142 (by decide) ?_
      refine mj_goto (tgt := 159) md_M_act_143 (by decide) ?_
      refine mj_istore (lv' := [(6, .int 2), (0, va_rf (some h0)), (1, .int v1), (2, .int v2), (3, .long v3), (5, .int v5)]) md_M_act_159 (by decide) (by first | rfl | (simp [mj_rfc]; done) | (simp [mj_rfc]; rfl)) ?_
      refine mj_iload 0 md_M_act_161 rfl ?_
      refine mj_if_ne (tgt := 654) md_M_act_163 (by decide) (fun _ => ?_) (fun hx => absurd hx (by decide))
      exact mj_lvs [1, 2, 0] rfl H

set_option maxRecDepth 20000 in
theorem bk_M_act_109 {G : mj_G} {Ex : Option Value → mj_MM → Prop} {N S : Nat} {μ : mj_MM} {h0 : Nat} {v1 : Int32} {v5 : Int32} {v6 : Int32} {s0 : Int32}
    (H : ((s0 = 0 → ((mj_t μ h0 = 11) ∧ (∃ P : mj_MM → Prop, mj_M G my_M_begin mY_M_begin [va_rf (some h0), .int v5] (mj_nc μ) (mj_ns μ) μ (mj_XV P) ∧ ∀ (μ' : mj_MM), P μ' → mj_nc μ' = mj_nc μ → mj_ns μ' = mj_ns μ → mj_J G mY_M_act Ex N S 125 [(0, va_rf (some h0)), (1, .int v1), (6, .int v6)] [] μ'))) ∧ (¬ s0 = 0 → mj_J G mY_M_act Ex N S 654 [(0, va_rf (some h0)), (1, .int v1), (6, .int 8)] [] μ))) :
    mj_J G mY_M_act Ex N S 109 [(0, va_rf (some h0)), (1, .int v1), (5, .int v5), (6, .int v6)] [.int s0] μ := by
  obtain ⟨H1, H2⟩ := H
  refine mj_if_eq (tgt := 119) md_M_act_109 (by decide) (fun hx => ?_) (fun hx => ?_)
  · replace H := H1 hx
    refine mj_aload_n 0 md_M_act_119 rfl ?_
    refine mj_iload 2 md_M_act_120 rfl ?_
    obtain ⟨ht1, H⟩ := H
    obtain ⟨P, hM, H⟩ := H
    exact mj_callV (n := 1) (As := [.int v5]) rfl hM kc_M ht1 ⟨tw_810, tw_8, tw_813, ⟨by decide, by decide, by decide +kernel⟩, by decide, by decide⟩ tw_812 tp_35 rfl md_M_act_122 (by first | decide | (simp only [List.map_cons, List.map_nil, List.sum_cons, List.sum_nil, mj_rfc, mj_ci, mj_cl]; done) | (simp only [List.map_cons, List.map_nil, List.sum_cons, List.sum_nil, mj_rfc, mj_ci, mj_cl]; decide)) id (mj_kV (fun μ' hP e1 e2 => mj_lvs [0, 1, 3] rfl (H μ' hP e1 e2)))
  · replace H := H2 hx
    refine mj_bipush (v := 8) md_M_act_112 (by decide) ?_
    refine mj_istore (lv' := [(6, .int 8), (0, va_rf (some h0)), (1, .int v1), (5, .int v5)]) md_M_act_114 (by decide) (by first | rfl | (simp [mj_rfc]; done) | (simp [mj_rfc]; rfl)) ?_
    refine mj_goto (tgt := 654) md_M_act_116 (by decide) ?_
    exact mj_lvs [1, 2, 0] rfl H

set_option maxRecDepth 20000 in
theorem bk_M_act_196 {G : mj_G} {Ex : Option Value → mj_MM → Prop} {N S : Nat} {μ : mj_MM} {h0 : Nat} {v1 : Int32} {v2 : Int32} {v3 : Int64} {v5 : Int32} {v6 : Int32}
    (H : ((¬ v2 = 4 → mj_J G mY_M_act Ex N S 246 [(0, va_rf (some h0)), (1, .int v1), (2, .int v2), (3, .long v3), (5, .int v5), (6, .int v6)] [] μ) ∧ (v2 = 4 → ((mj_t μ h0 = 11) ∧ (∃ P : Int32 → mj_MM → Prop, mj_M G my_M_no mY_M_no [va_rf (some h0), .int (v5 / 65536)] (mj_nc μ) (mj_ns μ) μ (mj_XI P) ∧ ∀ (x : Int32) (μ' : mj_MM), P x μ' → mj_nc μ' = mj_nc μ → mj_ns μ' = mj_ns μ → mj_J G mY_M_act Ex N S 214 [(0, va_rf (some h0)), (1, .int v1), (5, .int v5), (7, .int (v5 / 65536))] [.int x] μ'))))) :
    mj_J G mY_M_act Ex N S 196 [(0, va_rf (some h0)), (1, .int v1), (2, .int v2), (3, .long v3), (5, .int v5), (6, .int v6)] [] μ := by
  refine mj_iload_n 2 md_M_act_196 rfl ?_
  refine mj_iconst (v := 4) md_M_act_197 (by decide) ?_
  obtain ⟨H1, H2⟩ := H
  refine mj_icmp_ne (tgt := 246) md_M_act_198 (by decide) (fun hx => ?_) (fun hx => ?_)
  · replace H := H1 hx
    exact mj_lvs [0, 1, 2, 3, 4, 5] rfl H
  · replace H := H2 hx
    refine mj_iload 4 md_M_act_201 rfl ?_
    refine mj_ldc (v := 65536) tw_870 md_M_act_203 ?_
    refine mj_idiv md_M_act_205 (by decide) ?_
    refine mj_istore (lv' := [(7, .int (v5 / 65536)), (0, va_rf (some h0)), (1, .int v1), (2, .int v2), (3, .long v3), (5, .int v5), (6, .int v6)]) md_M_act_206 (by decide) (by first | rfl | (simp [mj_rfc]; done) | (simp [mj_rfc]; rfl)) ?_
    refine mj_aload_n 1 md_M_act_208 rfl ?_
    refine mj_iload 0 md_M_act_209 rfl ?_
    obtain ⟨ht1, H⟩ := H
    obtain ⟨P, hM, H⟩ := H
    exact mj_callV (n := 1) (As := [.int (v5 / 65536)]) rfl hM kc_M ht1 ⟨tw_770, tw_8, tw_773, ⟨by decide, by decide, by decide +kernel⟩, by decide, by decide⟩ tw_772 tp_32 rfl md_M_act_211 (by first | decide | (simp only [List.map_cons, List.map_nil, List.sum_cons, List.sum_nil, mj_rfc, mj_ci, mj_cl]; done) | (simp only [List.map_cons, List.map_nil, List.sum_cons, List.sum_nil, mj_rfc, mj_ci, mj_cl]; decide)) id (mj_kI (fun x μ' hP e1 e2 => mj_lvs [1, 2, 5, 0] rfl (H x μ' hP e1 e2)))

set_option maxRecDepth 20000 in
theorem bk_M_act_151 {G : mj_G} {Ex : Option Value → mj_MM → Prop} {N S : Nat} {μ : mj_MM} {h0 : Nat} {v1 : Int32} {v5 : Int32} {s0 : Int32}
    (H : ((s0 = 0 → ((mj_t μ h0 = 11) ∧ ∃ b2 : Nat, (mj_r μ h0 17 = some b2) ∧ (mj_t μ b2 = 1000) ∧ (vp_in v1 (mj_n μ b2)) ∧ ((¬ ((mj_i μ b2 (Int32.toNatClampNeg v1)) &&& v5) = 0 → mj_J G mY_M_act Ex N S 654 [(0, va_rf (some h0)), (1, .int v1), (6, .int 0)] [] μ) ∧ (((mj_i μ b2 (Int32.toNatClampNeg v1)) &&& v5) = 0 → (∃ b6 : Nat, (mj_r μ h0 11 = some b6) ∧ (mj_t μ b6 = 1000) ∧ (vp_in v1 (mj_n μ b6)) ∧ ∃ b10 : Nat, (mj_r μ h0 18 = some b10) ∧ (mj_t μ b10 = 1000) ∧ (vp_in v1 (mj_n μ b10)) ∧ mj_J G mY_M_act Ex N S 654 [(0, va_rf (some h0)), (1, .int v1), (6, .int 0)] [] (mj_pI (mj_pI μ b6 (Int32.toNatClampNeg v1) 3) b10 (Int32.toNatClampNeg v1) v5)))))) ∧ (¬ s0 = 0 → mj_J G mY_M_act Ex N S 654 [(0, va_rf (some h0)), (1, .int v1), (6, .int 4)] [] μ))) :
    mj_J G mY_M_act Ex N S 151 [(0, va_rf (some h0)), (1, .int v1), (5, .int v5)] [.int s0] μ := by
  obtain ⟨H1, H2⟩ := H
  refine mj_if_eq (tgt := 158) md_M_act_151 (by decide) (fun hx => ?_) (fun hx => ?_)
  · replace H := H1 hx
    refine mj_iconst (v := 0) md_M_act_158 (by decide) ?_
    refine mj_istore (lv' := [(6, .int 0), (0, va_rf (some h0)), (1, .int v1), (5, .int v5)]) md_M_act_159 (by decide) (by first | rfl | (simp [mj_rfc]; done) | (simp [mj_rfc]; rfl)) ?_
    refine mj_iload 0 md_M_act_161 rfl ?_
    refine mj_if_ne (tgt := 654) md_M_act_163 (by decide) (fun hx => absurd hx (by decide)) (fun _ => ?_)
    refine mj_aload_n 1 md_M_act_166 rfl ?_
    obtain ⟨ht1, H⟩ := H
    refine mj_getf (v := va_rf (mj_r μ h0 17)) rfl kc_M 17 (by decide) tw_640 md_M_act_167 ht1 rfl ?_
    refine mj_iload_n 2 md_M_act_170 rfl ?_
    obtain ⟨b2, hb3, H⟩ := H
    obtain ⟨ht4, H⟩ := H
    obtain ⟨hi5, H⟩ := H
    refine mj_iald (t := 0) hb3 rfl ht4 hi5 md_M_act_171 ?_
    refine mj_iload 3 md_M_act_172 rfl ?_
    refine mj_iand md_M_act_174 ?_
    obtain ⟨H1, H2⟩ := H
    refine mj_if_ne (tgt := 654) md_M_act_175 (by decide) (fun hx => ?_) (fun hx => ?_)
    · replace H := H1 hx
      exact mj_lvs [1, 2, 0] rfl H
    · replace H := H2 hx
      refine mj_aload_n 1 md_M_act_178 rfl ?_
      refine mj_getf (v := va_rf (mj_r μ h0 11)) rfl kc_M 11 (by decide) tw_634 md_M_act_179 ht1 rfl ?_
      refine mj_iload_n 2 md_M_act_182 rfl ?_
      refine mj_iconst (v := 3) md_M_act_183 (by decide) ?_
      obtain ⟨b6, hb7, H⟩ := H
      obtain ⟨ht8, H⟩ := H
      obtain ⟨hi9, H⟩ := H
      refine mj_iast (t := 0) hb7 rfl ht8 hi9 md_M_act_184 ?_
      refine mj_aload_n 1 md_M_act_185 rfl ?_
      refine mj_getf (v := va_rf (mj_r μ h0 18)) rfl kc_M 18 (by decide) tw_641 md_M_act_186 ht1 rfl ?_
      refine mj_iload_n 2 md_M_act_189 rfl ?_
      refine mj_iload 3 md_M_act_190 rfl ?_
      obtain ⟨b10, hb11, H⟩ := H
      obtain ⟨ht12, H⟩ := H
      obtain ⟨hi13, H⟩ := H
      refine mj_iast (t := 0) hb11 rfl ht12 hi13 md_M_act_192 ?_
      refine mj_goto (tgt := 654) md_M_act_193 (by decide) ?_
      exact mj_lvs [1, 2, 0] rfl H
  · replace H := H2 hx
    refine mj_iconst (v := 4) md_M_act_154 (by decide) ?_
    refine mj_goto (tgt := 159) md_M_act_155 (by decide) ?_
    refine mj_istore (lv' := [(6, .int 4), (0, va_rf (some h0)), (1, .int v1), (5, .int v5)]) md_M_act_159 (by decide) (by first | rfl | (simp [mj_rfc]; done) | (simp [mj_rfc]; rfl)) ?_
    refine mj_iload 0 md_M_act_161 rfl ?_
    refine mj_if_ne (tgt := 654) md_M_act_163 (by decide) (fun _ => ?_) (fun hx => absurd hx (by decide))
    exact mj_lvs [1, 2, 0] rfl H

set_option maxRecDepth 20000 in
theorem bk_M_act_654 {G : mj_G} {Ex : Option Value → mj_MM → Prop} {N S : Nat} {μ : mj_MM} {h0 : Nat} {v1 : Int32} {v6 : Int32}
    (H : ((v6 ≤ 0 → mj_J G mY_M_act Ex N S 666 [] [] μ) ∧ (¬ v6 ≤ 0 → ((mj_t μ h0 = 11) ∧ (∃ P : mj_MM → Prop, mj_M G my_M_tell mY_M_tell [va_rf (some h0), .int v6, .int v1] (mj_nc μ) (mj_ns μ) μ (mj_XV P) ∧ ∀ (μ' : mj_MM), P μ' → mj_nc μ' = mj_nc μ → mj_ns μ' = mj_ns μ → mj_J G mY_M_act Ex N S 666 [] [] μ'))))) :
    mj_J G mY_M_act Ex N S 654 [(0, va_rf (some h0)), (1, .int v1), (6, .int v6)] [] μ := by
  refine mj_iload 2 md_M_act_654 rfl ?_
  obtain ⟨H1, H2⟩ := H
  refine mj_if_le (tgt := 666) md_M_act_656 (by decide) (fun hx => ?_) (fun hx => ?_)
  · replace H := H1 hx
    exact mj_lvs [] rfl H
  · replace H := H2 hx
    refine mj_aload_n 0 md_M_act_659 rfl ?_
    refine mj_iload 2 md_M_act_660 rfl ?_
    refine mj_iload_n 1 md_M_act_662 rfl ?_
    obtain ⟨ht1, H⟩ := H
    obtain ⟨P, hM, H⟩ := H
    exact mj_callV (n := 2) (As := [.int v6, .int v1]) rfl hM kc_M ht1 ⟨tw_814, tw_8, tw_817, ⟨by decide, by decide, by decide +kernel⟩, by decide, by decide⟩ tw_816 tp_36 rfl md_M_act_663 (by first | decide | (simp only [List.map_cons, List.map_nil, List.sum_cons, List.sum_nil, mj_rfc, mj_ci, mj_cl]; done) | (simp only [List.map_cons, List.map_nil, List.sum_cons, List.sum_nil, mj_rfc, mj_ci, mj_cl]; decide)) id (mj_kV (fun μ' hP e1 e2 => mj_lvs [] rfl (H μ' hP e1 e2)))

set_option maxRecDepth 20000 in
theorem bk_M_act_125 {G : mj_G} {Ex : Option Value → mj_MM → Prop} {N S : Nat} {μ : mj_MM} {h0 : Nat} {v1 : Int32} {v6 : Int32}
    (H : mj_J G mY_M_act Ex N S 654 [(0, va_rf (some h0)), (1, .int v1), (6, .int v6)] [] μ) :
    mj_J G mY_M_act Ex N S 125 [(0, va_rf (some h0)), (1, .int v1), (6, .int v6)] [] μ := by
  refine mj_goto (tgt := 654) md_M_act_125 (by decide) ?_
  exact mj_lvs [0, 1, 2] rfl H

set_option maxRecDepth 20000 in
theorem bk_M_act_246 {G : mj_G} {Ex : Option Value → mj_MM → Prop} {N S : Nat} {μ : mj_MM} {h0 : Nat} {v1 : Int32} {v2 : Int32} {v3 : Int64} {v5 : Int32} {v6 : Int32}
    (H : ((¬ v2 = 5 → mj_J G mY_M_act Ex N S 301 [(0, va_rf (some h0)), (1, .int v1), (2, .int v2), (3, .long v3), (5, .int v5), (6, .int v6)] [] μ) ∧ (v2 = 5 → ((mj_t μ h0 = 11) ∧ ∃ b2 : Nat, (mj_r μ h0 5 = some b2) ∧ (mj_t μ b2 = 1002) ∧ (vp_in v1 (mj_n μ b2)) ∧ (((mj_i μ b2 (Int32.toNatClampNeg v1)) = 0 → (∃ b6 : Nat, (mj_r μ h0 17 = some b6) ∧ (mj_t μ b6 = 1000) ∧ (vp_in v1 (mj_n μ b6)) ∧ (vp_in v1 (mj_n μ b6)) ∧ mj_J G mY_M_act Ex N S 654 [(0, va_rf (some h0)), (1, .int v1), (6, .int 2)] [] (mj_pI μ b6 (Int32.toNatClampNeg v1) (mj_i μ b6 (Int32.toNatClampNeg v1))))) ∧ (¬ (mj_i μ b2 (Int32.toNatClampNeg v1)) = 0 → (∃ b11 : Nat, (mj_r μ h0 17 = some b11) ∧ (mj_t μ b11 = 1000) ∧ (vp_in v1 (mj_n μ b11)) ∧ (vp_in v1 (mj_n μ b11)) ∧ mj_J G mY_M_act Ex N S 654 [(0, va_rf (some h0)), (1, .int v1), (6, .int 0)] [] (mj_pI μ b11 (Int32.toNatClampNeg v1) ((mj_i μ b11 (Int32.toNatClampNeg v1)) &&& (v5 ^^^ (-1))))))))))) :
    mj_J G mY_M_act Ex N S 246 [(0, va_rf (some h0)), (1, .int v1), (2, .int v2), (3, .long v3), (5, .int v5), (6, .int v6)] [] μ := by
  refine mj_iload_n 2 md_M_act_246 rfl ?_
  refine mj_iconst (v := 5) md_M_act_247 (by decide) ?_
  obtain ⟨H1, H2⟩ := H
  refine mj_icmp_ne (tgt := 301) md_M_act_248 (by decide) (fun hx => ?_) (fun hx => ?_)
  · replace H := H1 hx
    exact mj_lvs [0, 1, 2, 3, 4, 5] rfl H
  · replace H := H2 hx
    refine mj_aload_n 0 md_M_act_251 rfl ?_
    obtain ⟨ht1, H⟩ := H
    refine mj_getf (v := va_rf (mj_r μ h0 5)) rfl kc_M 5 (by decide) tw_628 md_M_act_252 ht1 rfl ?_
    refine mj_iload_n 1 md_M_act_255 rfl ?_
    obtain ⟨b2, hb3, H⟩ := H
    obtain ⟨ht4, H⟩ := H
    obtain ⟨hi5, H⟩ := H
    refine mj_zald (t := 2) hb3 rfl ht4 hi5 md_M_act_256 ?_
    obtain ⟨H1, H2⟩ := H
    refine mj_if_eq (tgt := 264) md_M_act_257 (by decide) (fun hx => ?_) (fun hx => ?_)
    · replace H := H1 hx
      refine mj_iconst (v := 2) md_M_act_264 (by decide) ?_
      refine mj_istore (lv' := [(6, .int 2), (0, va_rf (some h0)), (1, .int v1), (2, .int v2), (3, .long v3), (5, .int v5)]) md_M_act_265 (by decide) (by first | rfl | (simp [mj_rfc]; done) | (simp [mj_rfc]; rfl)) ?_
      refine mj_aload_n 1 md_M_act_267 rfl ?_
      refine mj_getf (v := va_rf (mj_r μ h0 17)) rfl kc_M 17 (by decide) tw_640 md_M_act_268 ht1 rfl ?_
      refine mj_iload_n 2 md_M_act_271 rfl ?_
      refine mj_iload 0 md_M_act_272 rfl ?_
      refine mj_if_ne (tgt := 291) md_M_act_274 (by decide) (fun _ => ?_) (fun hx => absurd hx (by decide))
      refine mj_aload_n 1 md_M_act_291 rfl ?_
      refine mj_getf (v := va_rf (mj_r μ h0 17)) rfl kc_M 17 (by decide) tw_640 md_M_act_292 ht1 rfl ?_
      refine mj_iload_n 2 md_M_act_295 rfl ?_
      obtain ⟨b6, hb7, H⟩ := H
      obtain ⟨ht8, H⟩ := H
      obtain ⟨hi9, H⟩ := H
      refine mj_iald (t := 0) hb7 rfl ht8 hi9 md_M_act_296 ?_
      obtain ⟨hi10, H⟩ := H
      refine mj_iast (t := 0) hb7 rfl ht8 hi10 md_M_act_297 ?_
      refine mj_goto (tgt := 654) md_M_act_298 (by decide) ?_
      exact mj_lvs [1, 2, 0] rfl H
    · replace H := H2 hx
      refine mj_iconst (v := 0) md_M_act_260 (by decide) ?_
      refine mj_goto (tgt := 265) md_M_act_261 (by decide) ?_
      refine mj_istore (lv' := [(6, .int 0), (0, va_rf (some h0)), (1, .int v1), (2, .int v2), (3, .long v3), (5, .int v5)]) md_M_act_265 (by decide) (by first | rfl | (simp [mj_rfc]; done) | (simp [mj_rfc]; rfl)) ?_
      refine mj_aload_n 1 md_M_act_267 rfl ?_
      refine mj_getf (v := va_rf (mj_r μ h0 17)) rfl kc_M 17 (by decide) tw_640 md_M_act_268 ht1 rfl ?_
      refine mj_iload_n 2 md_M_act_271 rfl ?_
      refine mj_iload 0 md_M_act_272 rfl ?_
      refine mj_if_ne (tgt := 291) md_M_act_274 (by decide) (fun hx => absurd hx (by decide)) (fun _ => ?_)
      refine mj_aload_n 1 md_M_act_277 rfl ?_
      refine mj_getf (v := va_rf (mj_r μ h0 17)) rfl kc_M 17 (by decide) tw_640 md_M_act_278 ht1 rfl ?_
      refine mj_iload_n 2 md_M_act_281 rfl ?_
      obtain ⟨b11, hb12, H⟩ := H
      obtain ⟨ht13, H⟩ := H
      obtain ⟨hi14, H⟩ := H
      refine mj_iald (t := 0) hb12 rfl ht13 hi14 md_M_act_282 ?_
      refine mj_iload 5 md_M_act_283 rfl ?_
      refine mj_iconst (v := (-1)) md_M_act_285 (by decide) ?_
      refine mj_ixor md_M_act_286 ?_
      refine mj_iand md_M_act_287 ?_
      refine mj_goto (tgt := 297) md_M_act_288 (by decide) ?_
      obtain ⟨hi15, H⟩ := H
      refine mj_iast (t := 0) hb12 rfl ht13 hi15 md_M_act_297 ?_
      refine mj_goto (tgt := 654) md_M_act_298 (by decide) ?_
      exact mj_lvs [1, 2, 0] rfl H

set_option maxRecDepth 20000 in
theorem bk_M_act_214 {G : mj_G} {Ex : Option Value → mj_MM → Prop} {N S : Nat} {μ : mj_MM} {h0 : Nat} {v1 : Int32} {v5 : Int32} {v7 : Int32} {s0 : Int32}
    (H : ((s0 = 0 → ((mj_t μ h0 = 11) ∧ (∃ P : Int32 → mj_MM → Prop, mj_M G my_M_set mY_M_set [va_rf (some h0), .int v7, .int (v5 - v5 / 65536 * 65536)] (mj_nc μ) (mj_ns μ) μ (mj_XI P) ∧ ∀ (x : Int32) (μ' : mj_MM), P x μ' → mj_nc μ' = mj_nc μ → mj_ns μ' = mj_ns μ → mj_J G mY_M_act Ex N S 233 [(0, va_rf (some h0)), (1, .int v1)] [.int x] μ'))) ∧ (¬ s0 = 0 → mj_J G mY_M_act Ex N S 654 [(0, va_rf (some h0)), (1, .int v1), (6, .int 8)] [] μ))) :
    mj_J G mY_M_act Ex N S 214 [(0, va_rf (some h0)), (1, .int v1), (5, .int v5), (7, .int v7)] [.int s0] μ := by
  obtain ⟨H1, H2⟩ := H
  refine mj_if_eq (tgt := 222) md_M_act_214 (by decide) (fun hx => ?_) (fun hx => ?_)
  · replace H := H1 hx
    refine mj_aload_n 0 md_M_act_222 rfl ?_
    refine mj_iload 3 md_M_act_223 rfl ?_
    refine mj_iload 2 md_M_act_225 rfl ?_
    refine mj_ldc (v := 65536) tw_870 md_M_act_227 ?_
    refine mj_irem md_M_act_229 (by decide) ?_
    obtain ⟨ht1, H⟩ := H
    obtain ⟨P, hM, H⟩ := H
    exact mj_callV (n := 2) (As := [.int v7, .int (v5 - v5 / 65536 * 65536)]) rfl hM kc_M ht1 ⟨tw_871, tw_8, tw_874, ⟨by decide, by decide, by decide +kernel⟩, by decide, by decide⟩ tw_873 tp_50 rfl md_M_act_230 (by first | decide | (simp only [List.map_cons, List.map_nil, List.sum_cons, List.sum_nil, mj_rfc, mj_ci, mj_cl]; done) | (simp only [List.map_cons, List.map_nil, List.sum_cons, List.sum_nil, mj_rfc, mj_ci, mj_cl]; decide)) id (mj_kI (fun x μ' hP e1 e2 => mj_lvs [0, 1] rfl (H x μ' hP e1 e2)))
  · replace H := H2 hx
    refine mj_bipush (v := 8) md_M_act_217 (by decide) ?_
    refine mj_goto (tgt := 241) md_M_act_219 (by decide) ?_
    refine mj_istore (lv' := [(6, .int 8), (0, va_rf (some h0)), (1, .int v1), (5, .int v5), (7, .int v7)]) md_M_act_241 (by decide) (by first | rfl | (simp [mj_rfc]; done) | (simp [mj_rfc]; rfl)) ?_
    refine mj_goto (tgt := 654) md_M_act_243 (by decide) ?_
    exact mj_lvs [1, 2, 0] rfl H

set_option maxRecDepth 20000 in
theorem bk_M_act_666 {G : mj_G} {Ex : Option Value → mj_MM → Prop} {N S : Nat} {μ : mj_MM}
    (H : Ex none μ) :
    mj_J G mY_M_act Ex N S 666 [] [] μ := by
  exact mj_return md_M_act_666 rfl H

set_option maxRecDepth 20000 in
theorem bk_M_act_301 {G : mj_G} {Ex : Option Value → mj_MM → Prop} {N S : Nat} {μ : mj_MM} {h0 : Nat} {v1 : Int32} {v2 : Int32} {v3 : Int64} {v5 : Int32} {v6 : Int32}
    (H : ((¬ v2 = 6 → mj_J G mY_M_act Ex N S 361 [(0, va_rf (some h0)), (1, .int v1), (2, .int v2), (3, .long v3), (5, .int v5), (6, .int v6)] [] μ) ∧ (v2 = 6 → ((mj_t μ h0 = 11) ∧ ∃ b2 : Nat, (mj_r μ h0 22 = some b2) ∧ (mj_t μ b2 = 1000) ∧ (vp_in v5 (mj_n μ b2)) ∧ ((¬ (mj_i μ b2 (Int32.toNatClampNeg v5)) = 0 → mj_J G mY_M_act Ex N S 654 [(0, va_rf (some h0)), (1, .int v1), (6, .int 4)] [] μ) ∧ ((mj_i μ b2 (Int32.toNatClampNeg v5)) = 0 → ((vp_in v5 (mj_n μ b2)) ∧ ∃ b7 : Nat, (mj_r μ h0 23 = some b7) ∧ (mj_t μ b7 = 1001) ∧ (vp_in v5 (mj_n μ b7)) ∧ mj_J G mY_M_act Ex N S 654 [(0, va_rf (some h0)), (1, .int v1), (6, .int 0)] [] (mj_pL (mj_pI (mj_pL μ h0 28 ((mj_l μ h0 28) + 1)) b2 (Int32.toNatClampNeg v5) v1) b7 (Int32.toNatClampNeg v5) ((mj_l μ h0 28) + 1))))))))) :
    mj_J G mY_M_act Ex N S 301 [(0, va_rf (some h0)), (1, .int v1), (2, .int v2), (3, .long v3), (5, .int v5), (6, .int v6)] [] μ := by
  refine mj_iload_n 2 md_M_act_301 rfl ?_
  refine mj_bipush (v := 6) md_M_act_302 (by decide) ?_
  obtain ⟨H1, H2⟩ := H
  refine mj_icmp_ne (tgt := 361) md_M_act_304 (by decide) (fun hx => ?_) (fun hx => ?_)
  · replace H := H1 hx
    exact mj_lvs [0, 1, 2, 3, 4, 5] rfl H
  · replace H := H2 hx
    refine mj_aload_n 0 md_M_act_307 rfl ?_
    obtain ⟨ht1, H⟩ := H
    refine mj_getf (v := va_rf (mj_r μ h0 22)) rfl kc_M 22 (by decide) tw_645 md_M_act_308 ht1 rfl ?_
    refine mj_iload 4 md_M_act_311 rfl ?_
    obtain ⟨b2, hb3, H⟩ := H
    obtain ⟨ht4, H⟩ := H
    obtain ⟨hi5, H⟩ := H
    refine mj_iald (t := 0) hb3 rfl ht4 hi5 md_M_act_313 ?_
    obtain ⟨H1, H2⟩ := H
    refine mj_if_ne (tgt := 321) md_M_act_314 (by decide) (fun hx => ?_) (fun hx => ?_)
    · replace H := H1 hx
      refine mj_iconst (v := 4) md_M_act_321 (by decide) ?_
      refine mj_istore (lv' := [(6, .int 4), (0, va_rf (some h0)), (1, .int v1), (2, .int v2), (3, .long v3), (5, .int v5)]) md_M_act_322 (by decide) (by first | rfl | (simp [mj_rfc]; done) | (simp [mj_rfc]; rfl)) ?_
      refine mj_iload 0 md_M_act_324 rfl ?_
      refine mj_if_ne (tgt := 654) md_M_act_326 (by decide) (fun _ => ?_) (fun hx => absurd hx (by decide))
      exact mj_lvs [1, 2, 0] rfl H
    · replace H := H2 hx
      refine mj_iconst (v := 0) md_M_act_317 (by decide) ?_
      refine mj_goto (tgt := 322) md_M_act_318 (by decide) ?_
      refine mj_istore (lv' := [(6, .int 0), (0, va_rf (some h0)), (1, .int v1), (2, .int v2), (3, .long v3), (5, .int v5)]) md_M_act_322 (by decide) (by first | rfl | (simp [mj_rfc]; done) | (simp [mj_rfc]; rfl)) ?_
      refine mj_iload 0 md_M_act_324 rfl ?_
      refine mj_if_ne (tgt := 654) md_M_act_326 (by decide) (fun hx => absurd hx (by decide)) (fun _ => ?_)
      refine mj_aload_n 1 md_M_act_329 rfl ?_
      refine mj_dup md_M_act_330 (mj_rfc _) ?_
      refine mj_getf (v := .long (mj_l μ h0 28)) rfl kc_M 28 (by decide) tw_651 md_M_act_331 ht1 rfl ?_
      refine mj_lconst (v := 1) md_M_act_334 (by decide) ?_
      refine mj_ladd md_M_act_335 ?_
      refine mj_putL rfl kc_M 28 (by decide) rfl tw_651 md_M_act_336 (Or.inl rfl) ht1 ?_
      refine mj_aload_n 1 md_M_act_339 rfl ?_
      refine mj_getf (v := va_rf (mj_r μ h0 22)) rfl kc_M 22 (by decide) tw_645 md_M_act_340 ht1 rfl ?_
      refine mj_iload 5 md_M_act_343 rfl ?_
      refine mj_iload_n 2 md_M_act_345 rfl ?_
      obtain ⟨hi6, H⟩ := H
      refine mj_iast (t := 0) hb3 rfl ht4 hi6 md_M_act_346 ?_
      refine mj_aload_n 1 md_M_act_347 rfl ?_
      refine mj_getf (v := va_rf (mj_r μ h0 23)) rfl kc_M 23 (by decide) tw_646 md_M_act_348 ht1 rfl ?_
      refine mj_iload 5 md_M_act_351 rfl ?_
      refine mj_aload_n 1 md_M_act_353 rfl ?_
      refine mj_getf (v := .long ((mj_l μ h0 28) + 1)) rfl kc_M 28 (by decide) tw_651 md_M_act_354 ht1 (by show Value.long (mj_l (mj_pL μ h0 28 ((mj_l μ h0 28) + 1)) h0 28) = _; rw [mj_sL]) ?_
      obtain ⟨b7, hb8, H⟩ := H
      obtain ⟨ht9, H⟩ := H
      obtain ⟨hi10, H⟩ := H
      refine mj_last (t := 1) hb8 rfl ht9 hi10 md_M_act_357 ?_
      refine mj_goto (tgt := 654) md_M_act_358 (by decide) ?_
      exact mj_lvs [1, 2, 0] rfl H

set_option maxRecDepth 20000 in
theorem bk_M_act_233 {G : mj_G} {Ex : Option Value → mj_MM → Prop} {N S : Nat} {μ : mj_MM} {h0 : Nat} {v1 : Int32} {s0 : Int32}
    (H : ((s0 = 0 → mj_J G mY_M_act Ex N S 654 [(0, va_rf (some h0)), (1, .int v1), (6, .int 5)] [] μ) ∧ (¬ s0 = 0 → mj_J G mY_M_act Ex N S 654 [(0, va_rf (some h0)), (1, .int v1), (6, .int 0)] [] μ))) :
    mj_J G mY_M_act Ex N S 233 [(0, va_rf (some h0)), (1, .int v1)] [.int s0] μ := by
  obtain ⟨H1, H2⟩ := H
  refine mj_if_eq (tgt := 240) md_M_act_233 (by decide) (fun hx => ?_) (fun hx => ?_)
  · replace H := H1 hx
    refine mj_iconst (v := 5) md_M_act_240 (by decide) ?_
    refine mj_istore (lv' := [(6, .int 5), (0, va_rf (some h0)), (1, .int v1)]) md_M_act_241 (by decide) (by first | rfl | (simp [mj_rfc]; done) | (simp [mj_rfc]; rfl)) ?_
    refine mj_goto (tgt := 654) md_M_act_243 (by decide) ?_
    exact mj_lvs [1, 2, 0] rfl H
  · replace H := H2 hx
    refine mj_iconst (v := 0) md_M_act_236 (by decide) ?_
    refine mj_goto (tgt := 241) md_M_act_237 (by decide) ?_
    refine mj_istore (lv' := [(6, .int 0), (0, va_rf (some h0)), (1, .int v1)]) md_M_act_241 (by decide) (by first | rfl | (simp [mj_rfc]; done) | (simp [mj_rfc]; rfl)) ?_
    refine mj_goto (tgt := 654) md_M_act_243 (by decide) ?_
    exact mj_lvs [1, 2, 0] rfl H

set_option maxRecDepth 20000 in
theorem bk_M_act_361 {G : mj_G} {Ex : Option Value → mj_MM → Prop} {N S : Nat} {μ : mj_MM} {h0 : Nat} {v1 : Int32} {v2 : Int32} {v3 : Int64} {v5 : Int32} {v6 : Int32}
    (H : ((¬ v2 = 7 → mj_J G mY_M_act Ex N S 464 [(0, va_rf (some h0)), (1, .int v1), (2, .int v2), (3, .long v3), (5, .int v5), (6, .int v6)] [] μ) ∧ (v2 = 7 → ((mj_t μ h0 = 11) ∧ ∃ b2 : Nat, (mj_r μ h0 22 = some b2) ∧ (mj_t μ b2 = 1000) ∧ (vp_in v5 (mj_n μ b2)) ∧ ((¬ (mj_i μ b2 (Int32.toNatClampNeg v5)) = v1 → mj_J G mY_M_act Ex N S 388 [(0, va_rf (some h0)), (1, .int v1), (5, .int v5), (6, .int 4), (7, .int 1)] [] μ) ∧ ((mj_i μ b2 (Int32.toNatClampNeg v5)) = v1 → mj_J G mY_M_act Ex N S 388 [(0, va_rf (some h0)), (1, .int v1), (5, .int v5), (6, .int 0), (7, .int 1)] [] μ)))))) :
    mj_J G mY_M_act Ex N S 361 [(0, va_rf (some h0)), (1, .int v1), (2, .int v2), (3, .long v3), (5, .int v5), (6, .int v6)] [] μ := by
  refine mj_iload_n 2 md_M_act_361 rfl ?_
  refine mj_bipush (v := 7) md_M_act_362 (by decide) ?_
  obtain ⟨H1, H2⟩ := H
  refine mj_icmp_ne (tgt := 464) md_M_act_364 (by decide) (fun hx => ?_) (fun hx => ?_)
  · replace H := H1 hx
    exact mj_lvs [0, 1, 2, 3, 4, 5] rfl H
  · replace H := H2 hx
    refine mj_aload_n 0 md_M_act_367 rfl ?_
    obtain ⟨ht1, H⟩ := H
    refine mj_getf (v := va_rf (mj_r μ h0 22)) rfl kc_M 22 (by decide) tw_645 md_M_act_368 ht1 rfl ?_
    refine mj_iload 4 md_M_act_371 rfl ?_
    obtain ⟨b2, hb3, H⟩ := H
    obtain ⟨ht4, H⟩ := H
    obtain ⟨hi5, H⟩ := H
    refine mj_iald (t := 0) hb3 rfl ht4 hi5 md_M_act_373 ?_
    refine mj_iload_n 1 md_M_act_374 rfl ?_
    obtain ⟨H1, H2⟩ := H
    refine mj_icmp_ne (tgt := 382) md_M_act_375 (by decide) (fun hx => ?_) (fun hx => ?_)
    · replace H := H1 hx
      refine mj_iconst (v := 4) md_M_act_382 (by decide) ?_
      refine mj_istore (lv' := [(6, .int 4), (0, va_rf (some h0)), (1, .int v1), (2, .int v2), (3, .long v3), (5, .int v5)]) md_M_act_383 (by decide) (by first | rfl | (simp [mj_rfc]; done) | (simp [mj_rfc]; rfl)) ?_
      refine mj_iconst (v := 1) md_M_act_385 (by decide) ?_
      refine mj_istore (lv' := [(7, .int 1), (6, .int 4), (0, va_rf (some h0)), (1, .int v1), (2, .int v2), (3, .long v3), (5, .int v5)]) md_M_act_386 (by decide) (by first | rfl | (simp [mj_rfc]; done) | (simp [mj_rfc]; rfl)) ?_
      exact mj_lvs [2, 3, 6, 1, 0] rfl H
    · replace H := H2 hx
      refine mj_iconst (v := 0) md_M_act_378 (by decide) ?_
      refine mj_goto (tgt := 383) md_M_act_379 (by decide) ?_
      refine mj_istore (lv' := [(6, .int 0), (0, va_rf (some h0)), (1, .int v1), (2, .int v2), (3, .long v3), (5, .int v5)]) md_M_act_383 (by decide) (by first | rfl | (simp [mj_rfc]; done) | (simp [mj_rfc]; rfl)) ?_
      refine mj_iconst (v := 1) md_M_act_385 (by decide) ?_
      refine mj_istore (lv' := [(7, .int 1), (6, .int 0), (0, va_rf (some h0)), (1, .int v1), (2, .int v2), (3, .long v3), (5, .int v5)]) md_M_act_386 (by decide) (by first | rfl | (simp [mj_rfc]; done) | (simp [mj_rfc]; rfl)) ?_
      exact mj_lvs [2, 3, 6, 1, 0] rfl H

set_option maxRecDepth 20000 in
theorem bk_M_act_464 {G : mj_G} {Ex : Option Value → mj_MM → Prop} {N S : Nat} {μ : mj_MM} {h0 : Nat} {v1 : Int32} {v2 : Int32} {v3 : Int64} {v5 : Int32} {v6 : Int32}
    (H : ((¬ v2 = 8 → mj_J G mY_M_act Ex N S 500 [(0, va_rf (some h0)), (1, .int v1), (2, .int v2), (3, .long v3), (5, .int v5), (6, .int v6)] [] μ) ∧ (v2 = 8 → ((mj_t μ h0 = 11) ∧ ∃ b2 : Nat, (mj_r μ h0 25 = some b2) ∧ (mj_t μ b2 = 1000) ∧ (vp_in v5 (mj_n μ b2)) ∧ ((¬ (mj_i μ b2 (Int32.toNatClampNeg v5)) = v1 → ((vp_in v5 (mj_n μ b2)) ∧ mj_J G mY_M_act Ex N S 654 [(0, va_rf (some h0)), (1, .int v1), (6, .int 0)] [] (mj_pI μ b2 (Int32.toNatClampNeg v5) v1))) ∧ ((mj_i μ b2 (Int32.toNatClampNeg v5)) = v1 → ((vp_in v5 (mj_n μ b2)) ∧ mj_J G mY_M_act Ex N S 654 [(0, va_rf (some h0)), (1, .int v1), (6, .int 6)] [] (mj_pI μ b2 (Int32.toNatClampNeg v5) v1)))))))) :
    mj_J G mY_M_act Ex N S 464 [(0, va_rf (some h0)), (1, .int v1), (2, .int v2), (3, .long v3), (5, .int v5), (6, .int v6)] [] μ := by
  refine mj_iload_n 2 md_M_act_464 rfl ?_
  refine mj_bipush (v := 8) md_M_act_465 (by decide) ?_
  obtain ⟨H1, H2⟩ := H
  refine mj_icmp_ne (tgt := 500) md_M_act_467 (by decide) (fun hx => ?_) (fun hx => ?_)
  · replace H := H1 hx
    exact mj_lvs [0, 1, 2, 3, 4, 5] rfl H
  · replace H := H2 hx
    refine mj_aload_n 0 md_M_act_470 rfl ?_
    obtain ⟨ht1, H⟩ := H
    refine mj_getf (v := va_rf (mj_r μ h0 25)) rfl kc_M 25 (by decide) tw_648 md_M_act_471 ht1 rfl ?_
    refine mj_iload 4 md_M_act_474 rfl ?_
    obtain ⟨b2, hb3, H⟩ := H
    obtain ⟨ht4, H⟩ := H
    obtain ⟨hi5, H⟩ := H
    refine mj_iald (t := 0) hb3 rfl ht4 hi5 md_M_act_476 ?_
    refine mj_iload_n 1 md_M_act_477 rfl ?_
    obtain ⟨H1, H2⟩ := H
    refine mj_icmp_ne (tgt := 486) md_M_act_478 (by decide) (fun hx => ?_) (fun hx => ?_)
    · replace H := H1 hx
      refine mj_iconst (v := 0) md_M_act_486 (by decide) ?_
      refine mj_istore (lv' := [(6, .int 0), (0, va_rf (some h0)), (1, .int v1), (2, .int v2), (3, .long v3), (5, .int v5)]) md_M_act_487 (by decide) (by first | rfl | (simp [mj_rfc]; done) | (simp [mj_rfc]; rfl)) ?_
      refine mj_aload_n 1 md_M_act_489 rfl ?_
      refine mj_getf (v := va_rf (mj_r μ h0 25)) rfl kc_M 25 (by decide) tw_648 md_M_act_490 ht1 rfl ?_
      refine mj_iload 5 md_M_act_493 rfl ?_
      refine mj_iload_n 2 md_M_act_495 rfl ?_
      obtain ⟨hi6, H⟩ := H
      refine mj_iast (t := 0) hb3 rfl ht4 hi6 md_M_act_496 ?_
      refine mj_goto (tgt := 654) md_M_act_497 (by decide) ?_
      exact mj_lvs [1, 2, 0] rfl H
    · replace H := H2 hx
      refine mj_bipush (v := 6) md_M_act_481 (by decide) ?_
      refine mj_goto (tgt := 487) md_M_act_483 (by decide) ?_
      refine mj_istore (lv' := [(6, .int 6), (0, va_rf (some h0)), (1, .int v1), (2, .int v2), (3, .long v3), (5, .int v5)]) md_M_act_487 (by decide) (by first | rfl | (simp [mj_rfc]; done) | (simp [mj_rfc]; rfl)) ?_
      refine mj_aload_n 1 md_M_act_489 rfl ?_
      refine mj_getf (v := va_rf (mj_r μ h0 25)) rfl kc_M 25 (by decide) tw_648 md_M_act_490 ht1 rfl ?_
      refine mj_iload 5 md_M_act_493 rfl ?_
      refine mj_iload_n 2 md_M_act_495 rfl ?_
      obtain ⟨hi7, H⟩ := H
      refine mj_iast (t := 0) hb3 rfl ht4 hi7 md_M_act_496 ?_
      refine mj_goto (tgt := 654) md_M_act_497 (by decide) ?_
      exact mj_lvs [1, 2, 0] rfl H

set_option maxRecDepth 20000 in
theorem bk_M_act_388 {G : mj_G} {Ex : Option Value → mj_MM → Prop} {N S : Nat} {μ : mj_MM} {h0 : Nat} {v1 : Int32} {v5 : Int32} {v6 : Int32} {v7 : Int32}
    (H : ((32 < v7 → ((mj_t μ h0 = 11) ∧ ((¬ v6 = 0 → (∃ b2 : Nat, (mj_r μ h0 22 = some b2) ∧ (mj_t μ b2 = 1000) ∧ (vp_in v5 (mj_n μ b2)) ∧ (vp_in v5 (mj_n μ b2)) ∧ mj_J G mY_M_act Ex N S 654 [(0, va_rf (some h0)), (1, .int v1), (6, .int v6)] [] (mj_pI μ b2 (Int32.toNatClampNeg v5) (mj_i μ b2 (Int32.toNatClampNeg v5))))) ∧ (v6 = 0 → (∃ b7 : Nat, (mj_r μ h0 22 = some b7) ∧ (mj_t μ b7 = 1000) ∧ (vp_in v5 (mj_n μ b7)) ∧ mj_J G mY_M_act Ex N S 654 [(0, va_rf (some h0)), (1, .int v1), (6, .int v6)] [] (mj_pI μ b7 (Int32.toNatClampNeg v5) 0)))))) ∧ (¬ 32 < v7 → ((mj_t μ h0 = 11) ∧ ∃ b12 : Nat, (mj_r μ h0 22 = some b12) ∧ (mj_t μ b12 = 1000) ∧ (vp_in v7 (mj_n μ b12)) ∧ ((¬ (mj_i μ b12 (Int32.toNatClampNeg v7)) = v1 → mj_J G mY_M_act Ex N S 428 [(0, va_rf (some h0)), (1, .int v1), (5, .int v5), (6, .int v6), (7, .int v7)] [] μ) ∧ ((mj_i μ b12 (Int32.toNatClampNeg v7)) = v1 → (∃ b16 : Nat, (mj_r μ h0 23 = some b16) ∧ (mj_t μ b16 = 1001) ∧ (vp_in v7 (mj_n μ b16)) ∧ (vp_in v5 (mj_n μ b16)) ∧ (((mj_l μ b16 (Int32.toNatClampNeg v7)) ≤ (mj_l μ b16 (Int32.toNatClampNeg v5)) → mj_J G mY_M_act Ex N S 428 [(0, va_rf (some h0)), (1, .int v1), (5, .int v5), (6, .int v6), (7, .int v7)] [] μ) ∧ (¬ (mj_l μ b16 (Int32.toNatClampNeg v7)) ≤ (mj_l μ b16 (Int32.toNatClampNeg v5)) → mj_J G mY_M_act Ex N S 388 [(0, va_rf (some h0)), (1, .int v1), (5, .int v5), (6, .int 4), (7, .int (v7 + 1))] [] μ))))))))) :
    mj_J G mY_M_act Ex N S 388 [(0, va_rf (some h0)), (1, .int v1), (5, .int v5), (6, .int v6), (7, .int v7)] [] μ := by
  refine mj_iload 4 md_M_act_388 rfl ?_
  refine mj_bipush (v := 32) md_M_act_390 (by decide) ?_
  obtain ⟨H1, H2⟩ := H
  refine mj_icmp_gt (tgt := 438) md_M_act_392 (by decide) (fun hx => ?_) (fun hx => ?_)
  · replace H := H1 hx
    refine mj_aload_n 0 md_M_act_438 rfl ?_
    obtain ⟨ht1, H⟩ := H
    refine mj_getf (v := va_rf (mj_r μ h0 22)) rfl kc_M 22 (by decide) tw_645 md_M_act_439 ht1 rfl ?_
    refine mj_iload 2 md_M_act_442 rfl ?_
    refine mj_iload 3 md_M_act_444 rfl ?_
    obtain ⟨H1, H2⟩ := H
    refine mj_if_ne (tgt := 453) md_M_act_446 (by decide) (fun hx => ?_) (fun hx => ?_)
    · replace H := H1 hx
      refine mj_aload_n 0 md_M_act_453 rfl ?_
      refine mj_getf (v := va_rf (mj_r μ h0 22)) rfl kc_M 22 (by decide) tw_645 md_M_act_454 ht1 rfl ?_
      refine mj_iload 2 md_M_act_457 rfl ?_
      obtain ⟨b2, hb3, H⟩ := H
      obtain ⟨ht4, H⟩ := H
      obtain ⟨hi5, H⟩ := H
      refine mj_iald (t := 0) hb3 rfl ht4 hi5 md_M_act_459 ?_
      obtain ⟨hi6, H⟩ := H
      refine mj_iast (t := 0) hb3 rfl ht4 hi6 md_M_act_460 ?_
      refine mj_goto (tgt := 654) md_M_act_461 (by decide) ?_
      exact mj_lvs [0, 1, 3] rfl H
    · replace H := H2 hx
      refine mj_iconst (v := 0) md_M_act_449 (by decide) ?_
      refine mj_goto (tgt := 460) md_M_act_450 (by decide) ?_
      obtain ⟨b7, hb8, H⟩ := H
      obtain ⟨ht9, H⟩ := H
      obtain ⟨hi10, H⟩ := H
      refine mj_iast (t := 0) hb8 rfl ht9 hi10 md_M_act_460 ?_
      refine mj_goto (tgt := 654) md_M_act_461 (by decide) ?_
      exact mj_lvs [0, 1, 3] rfl H
  · replace H := H2 hx
    refine mj_aload_n 0 md_M_act_395 rfl ?_
    obtain ⟨ht11, H⟩ := H
    refine mj_getf (v := va_rf (mj_r μ h0 22)) rfl kc_M 22 (by decide) tw_645 md_M_act_396 ht11 rfl ?_
    refine mj_iload 4 md_M_act_399 rfl ?_
    obtain ⟨b12, hb13, H⟩ := H
    obtain ⟨ht14, H⟩ := H
    obtain ⟨hi15, H⟩ := H
    refine mj_iald (t := 0) hb13 rfl ht14 hi15 md_M_act_401 ?_
    refine mj_iload_n 1 md_M_act_402 rfl ?_
    obtain ⟨H1, H2⟩ := H
    refine mj_icmp_ne (tgt := 428) md_M_act_403 (by decide) (fun hx => ?_) (fun hx => ?_)
    · replace H := H1 hx
      exact mj_lvs [0, 1, 2, 3, 4] rfl H
    · replace H := H2 hx
      refine mj_aload_n 0 md_M_act_406 rfl ?_
      refine mj_getf (v := va_rf (mj_r μ h0 23)) rfl kc_M 23 (by decide) tw_646 md_M_act_407 ht11 rfl ?_
      refine mj_iload 4 md_M_act_410 rfl ?_
      obtain ⟨b16, hb17, H⟩ := H
      obtain ⟨ht18, H⟩ := H
      obtain ⟨hi19, H⟩ := H
      refine mj_lald (t := 1) hb17 rfl ht18 hi19 md_M_act_412 ?_
      refine mj_aload_n 0 md_M_act_413 rfl ?_
      refine mj_getf (v := va_rf (mj_r μ h0 23)) rfl kc_M 23 (by decide) tw_646 md_M_act_414 ht11 rfl ?_
      refine mj_iload 2 md_M_act_417 rfl ?_
      obtain ⟨hi20, H⟩ := H
      refine mj_lald (t := 1) hb17 rfl ht18 hi20 md_M_act_419 ?_
      refine mj_lcmp md_M_act_420 ?_
      obtain ⟨H1, H2⟩ := H
      refine mj_if_le (tgt := 428) md_M_act_421 (by decide) (fun hx => ?_) (fun hx => ?_)
      · replace H := H1 ((lg_cmp_le (mj_l μ b16 (Int32.toNatClampNeg v7)) (mj_l μ b16 (Int32.toNatClampNeg v5))).mp hx)
        exact mj_lvs [0, 1, 2, 3, 4] rfl H
      · replace H := H2 (fun hy => hx ((lg_cmp_le (mj_l μ b16 (Int32.toNatClampNeg v7)) (mj_l μ b16 (Int32.toNatClampNeg v5))).mpr hy))
        refine mj_iconst (v := 4) md_M_act_424 (by decide) ?_
        refine mj_goto (tgt := 430) md_M_act_425 (by decide) ?_
        refine mj_istore (lv' := [(6, .int 4), (0, va_rf (some h0)), (1, .int v1), (5, .int v5), (7, .int v7)]) md_M_act_430 (by decide) (by first | rfl | (simp [mj_rfc]; done) | (simp [mj_rfc]; rfl)) ?_
        refine mj_iinc (j := 4) (v := v7 + 1) (lv' := [(7, .int (v7 + 1)), (6, .int 4), (0, va_rf (some h0)), (1, .int v1), (5, .int v5)]) md_M_act_432 rfl rfl (by decide) (by first | rfl | (simp [mj_rfc]; done) | (simp [mj_rfc]; rfl)) ?_
        refine mj_goto (tgt := 388) md_M_act_435 (by decide) ?_
        exact mj_lvs [2, 3, 4, 1, 0] rfl H

set_option maxRecDepth 20000 in
theorem bk_M_act_500 {G : mj_G} {Ex : Option Value → mj_MM → Prop} {N S : Nat} {μ : mj_MM} {h0 : Nat} {v1 : Int32} {v2 : Int32} {v3 : Int64} {v5 : Int32} {v6 : Int32}
    (H : ((¬ v2 = 9 → mj_J G mY_M_act Ex N S 539 [(0, va_rf (some h0)), (1, .int v1), (2, .int v2), (3, .long v3), (6, .int v6)] [] μ) ∧ (v2 = 9 → ((mj_t μ h0 = 11) ∧ ∃ b2 : Nat, (mj_r μ h0 25 = some b2) ∧ (mj_t μ b2 = 1000) ∧ (vp_in v5 (mj_n μ b2)) ∧ ((¬ (mj_i μ b2 (Int32.toNatClampNeg v5)) = v1 → mj_J G mY_M_act Ex N S 654 [(0, va_rf (some h0)), (1, .int v1), (6, .int 6)] [] μ) ∧ ((mj_i μ b2 (Int32.toNatClampNeg v5)) = v1 → (∃ P : mj_MM → Prop, mj_M G my_M_unlock mY_M_unlock [va_rf (some h0), .int v5] (mj_nc μ) (mj_ns μ) μ (mj_XV P) ∧ ∀ (μ' : mj_MM), P μ' → mj_nc μ' = mj_nc μ → mj_ns μ' = mj_ns μ → mj_J G mY_M_act Ex N S 536 [(0, va_rf (some h0)), (1, .int v1), (6, .int 0)] [] μ'))))))) :
    mj_J G mY_M_act Ex N S 500 [(0, va_rf (some h0)), (1, .int v1), (2, .int v2), (3, .long v3), (5, .int v5), (6, .int v6)] [] μ := by
  refine mj_iload_n 2 md_M_act_500 rfl ?_
  refine mj_bipush (v := 9) md_M_act_501 (by decide) ?_
  obtain ⟨H1, H2⟩ := H
  refine mj_icmp_ne (tgt := 539) md_M_act_503 (by decide) (fun hx => ?_) (fun hx => ?_)
  · replace H := H1 hx
    exact mj_lvs [0, 1, 2, 3, 5] rfl H
  · replace H := H2 hx
    refine mj_aload_n 0 md_M_act_506 rfl ?_
    obtain ⟨ht1, H⟩ := H
    refine mj_getf (v := va_rf (mj_r μ h0 25)) rfl kc_M 25 (by decide) tw_648 md_M_act_507 ht1 rfl ?_
    refine mj_iload 4 md_M_act_510 rfl ?_
    obtain ⟨b2, hb3, H⟩ := H
    obtain ⟨ht4, H⟩ := H
    obtain ⟨hi5, H⟩ := H
    refine mj_iald (t := 0) hb3 rfl ht4 hi5 md_M_act_512 ?_
    refine mj_iload_n 1 md_M_act_513 rfl ?_
    obtain ⟨H1, H2⟩ := H
    refine mj_icmp_ne (tgt := 521) md_M_act_514 (by decide) (fun hx => ?_) (fun hx => ?_)
    · replace H := H1 hx
      refine mj_bipush (v := 6) md_M_act_521 (by decide) ?_
      refine mj_istore (lv' := [(6, .int 6), (0, va_rf (some h0)), (1, .int v1), (2, .int v2), (3, .long v3), (5, .int v5)]) md_M_act_523 (by decide) (by first | rfl | (simp [mj_rfc]; done) | (simp [mj_rfc]; rfl)) ?_
      refine mj_iload 0 md_M_act_525 rfl ?_
      refine mj_if_ne (tgt := 654) md_M_act_527 (by decide) (fun _ => ?_) (fun hx => absurd hx (by decide))
      exact mj_lvs [1, 2, 0] rfl H
    · replace H := H2 hx
      refine mj_iconst (v := 0) md_M_act_517 (by decide) ?_
      refine mj_goto (tgt := 523) md_M_act_518 (by decide) ?_
      refine mj_istore (lv' := [(6, .int 0), (0, va_rf (some h0)), (1, .int v1), (2, .int v2), (3, .long v3), (5, .int v5)]) md_M_act_523 (by decide) (by first | rfl | (simp [mj_rfc]; done) | (simp [mj_rfc]; rfl)) ?_
      refine mj_iload 0 md_M_act_525 rfl ?_
      refine mj_if_ne (tgt := 654) md_M_act_527 (by decide) (fun hx => absurd hx (by decide)) (fun _ => ?_)
      refine mj_aload_n 1 md_M_act_530 rfl ?_
      refine mj_iload 5 md_M_act_531 rfl ?_
      obtain ⟨P, hM, H⟩ := H
      exact mj_callV (n := 1) (As := [.int v5]) rfl hM kc_M ht1 ⟨tw_858, tw_8, tw_861, ⟨by decide, by decide, by decide +kernel⟩, by decide, by decide⟩ tw_860 tp_47 rfl md_M_act_533 (by first | decide | (simp only [List.map_cons, List.map_nil, List.sum_cons, List.sum_nil, mj_rfc, mj_ci, mj_cl]; done) | (simp only [List.map_cons, List.map_nil, List.sum_cons, List.sum_nil, mj_rfc, mj_ci, mj_cl]; decide)) id (mj_kV (fun μ' hP e1 e2 => mj_lvs [1, 2, 0] rfl (H μ' hP e1 e2)))

set_option maxRecDepth 20000 in
theorem bk_M_act_428 {G : mj_G} {Ex : Option Value → mj_MM → Prop} {N S : Nat} {μ : mj_MM} {h0 : Nat} {v1 : Int32} {v5 : Int32} {v6 : Int32} {v7 : Int32}
    (H : mj_J G mY_M_act Ex N S 388 [(0, va_rf (some h0)), (1, .int v1), (5, .int v5), (6, .int v6), (7, .int (v7 + 1))] [] μ) :
    mj_J G mY_M_act Ex N S 428 [(0, va_rf (some h0)), (1, .int v1), (5, .int v5), (6, .int v6), (7, .int v7)] [] μ := by
  refine mj_iload 3 md_M_act_428 rfl ?_
  refine mj_istore (lv' := [(6, .int v6), (0, va_rf (some h0)), (1, .int v1), (5, .int v5), (7, .int v7)]) md_M_act_430 (by decide) (by first | rfl | (simp [mj_rfc]; done) | (simp [mj_rfc]; rfl)) ?_
  refine mj_iinc (j := 4) (v := v7 + 1) (lv' := [(7, .int (v7 + 1)), (6, .int v6), (0, va_rf (some h0)), (1, .int v1), (5, .int v5)]) md_M_act_432 rfl rfl (by decide) (by first | rfl | (simp [mj_rfc]; done) | (simp [mj_rfc]; rfl)) ?_
  refine mj_goto (tgt := 388) md_M_act_435 (by decide) ?_
  exact mj_lvs [2, 3, 4, 1, 0] rfl H

set_option maxRecDepth 20000 in
theorem bk_M_act_539 {G : mj_G} {Ex : Option Value → mj_MM → Prop} {N S : Nat} {μ : mj_MM} {h0 : Nat} {v1 : Int32} {v2 : Int32} {v3 : Int64} {v6 : Int32}
    (H : ((¬ v2 = 10 → mj_J G mY_M_act Ex N S 555 [(0, va_rf (some h0)), (1, .int v1), (2, .int v2), (3, .long v3)] [] μ) ∧ (v2 = 10 → ((mj_t μ h0 = 11) ∧ ∃ b2 : Nat, (mj_r μ h0 19 = some b2) ∧ (mj_t μ b2 = 1002) ∧ (vp_in v1 (mj_n μ b2)) ∧ mj_J G mY_M_act Ex N S 654 [(0, va_rf (some h0)), (1, .int v1), (6, .int v6)] [] (mj_pI μ b2 (Int32.toNatClampNeg v1) 1))))) :
    mj_J G mY_M_act Ex N S 539 [(0, va_rf (some h0)), (1, .int v1), (2, .int v2), (3, .long v3), (6, .int v6)] [] μ := by
  refine mj_iload_n 2 md_M_act_539 rfl ?_
  refine mj_bipush (v := 10) md_M_act_540 (by decide) ?_
  obtain ⟨H1, H2⟩ := H
  refine mj_icmp_ne (tgt := 555) md_M_act_542 (by decide) (fun hx => ?_) (fun hx => ?_)
  · replace H := H1 hx
    exact mj_lvs [0, 1, 2, 3] rfl H
  · replace H := H2 hx
    refine mj_aload_n 0 md_M_act_545 rfl ?_
    obtain ⟨ht1, H⟩ := H
    refine mj_getf (v := va_rf (mj_r μ h0 19)) rfl kc_M 19 (by decide) tw_642 md_M_act_546 ht1 rfl ?_
    refine mj_iload_n 1 md_M_act_549 rfl ?_
    refine mj_iconst (v := 1) md_M_act_550 (by decide) ?_
    obtain ⟨b2, hb3, H⟩ := H
    obtain ⟨ht4, H⟩ := H
    obtain ⟨hi5, H⟩ := H
    refine mj_zast (t := 2) hb3 rfl ht4 hi5 (by decide) md_M_act_551 ?_
    refine mj_goto (tgt := 654) md_M_act_552 (by decide) ?_
    exact mj_lvs [0, 1, 4] rfl H

set_option maxRecDepth 20000 in
theorem bk_M_act_536 {G : mj_G} {Ex : Option Value → mj_MM → Prop} {N S : Nat} {μ : mj_MM} {h0 : Nat} {v1 : Int32} {v6 : Int32}
    (H : mj_J G mY_M_act Ex N S 654 [(0, va_rf (some h0)), (1, .int v1), (6, .int v6)] [] μ) :
    mj_J G mY_M_act Ex N S 536 [(0, va_rf (some h0)), (1, .int v1), (6, .int v6)] [] μ := by
  refine mj_goto (tgt := 654) md_M_act_536 (by decide) ?_
  exact mj_lvs [0, 1, 2] rfl H

set_option maxRecDepth 20000 in
theorem bk_M_act_555 {G : mj_G} {Ex : Option Value → mj_MM → Prop} {N S : Nat} {μ : mj_MM} {h0 : Nat} {v1 : Int32} {v2 : Int32} {v3 : Int64}
    (H : ((¬ v2 = 12 → ((mj_t μ h0 = 11) ∧ ∃ b2 : Nat, (mj_r μ h0 3 = some b2) ∧ (mj_t μ b2 = 1000) ∧ (vp_in v1 (mj_n μ b2)) ∧ ((¬ (mj_i μ b2 (Int32.toNatClampNeg v1)) = 0 → mj_J G mY_M_act Ex N S 629 [(0, va_rf (some h0)), (1, .int v1)] [] μ) ∧ ((mj_i μ b2 (Int32.toNatClampNeg v1)) = 0 → ((¬ (mj_i μ h0 29) = 0 → mj_J G mY_M_act Ex N S 654 [(0, va_rf (some h0)), (1, .int v1), (6, .int 0)] [] (mj_pI μ h0 29 0)) ∧ ((mj_i μ h0 29) = 0 → mj_J G mY_M_act Ex N S 629 [(0, va_rf (some h0)), (1, .int v1)] [] μ)))))) ∧ (v2 = 12 → ((mj_t μ h0 = 11) ∧ ∃ b7 : Nat, (mj_r μ h0 3 = some b7) ∧ (mj_t μ b7 = 1000) ∧ (vp_in v1 (mj_n μ b7)) ∧ ((¬ (mj_i μ b7 (Int32.toNatClampNeg v1)) = 0 → mj_J G mY_M_act Ex N S 577 [(0, va_rf (some h0)), (1, .int v1), (3, .long v3)] [] μ) ∧ ((mj_i μ b7 (Int32.toNatClampNeg v1)) = 0 → (((mj_i μ h0 29) ≤ 0 → mj_J G mY_M_act Ex N S 654 [(0, va_rf (some h0)), (1, .int v1), (6, .int 0)] [] (mj_pI (mj_pL (mj_pI μ h0 29 v1) h0 30 ((mj_l μ h0 43) + v3)) h0 31 0)) ∧ (¬ (mj_i μ h0 29) ≤ 0 → mj_J G mY_M_act Ex N S 577 [(0, va_rf (some h0)), (1, .int v1), (3, .long v3)] [] μ)))))))) :
    mj_J G mY_M_act Ex N S 555 [(0, va_rf (some h0)), (1, .int v1), (2, .int v2), (3, .long v3)] [] μ := by
  refine mj_iload_n 2 md_M_act_555 rfl ?_
  refine mj_bipush (v := 12) md_M_act_556 (by decide) ?_
  obtain ⟨H1, H2⟩ := H
  refine mj_icmp_ne (tgt := 613) md_M_act_558 (by decide) (fun hx => ?_) (fun hx => ?_)
  · replace H := H1 hx
    refine mj_aload_n 0 md_M_act_613 rfl ?_
    obtain ⟨ht1, H⟩ := H
    refine mj_getf (v := va_rf (mj_r μ h0 3)) rfl kc_M 3 (by decide) tw_626 md_M_act_614 ht1 rfl ?_
    refine mj_iload_n 1 md_M_act_617 rfl ?_
    obtain ⟨b2, hb3, H⟩ := H
    obtain ⟨ht4, H⟩ := H
    obtain ⟨hi5, H⟩ := H
    refine mj_iald (t := 0) hb3 rfl ht4 hi5 md_M_act_618 ?_
    obtain ⟨H1, H2⟩ := H
    refine mj_if_ne (tgt := 629) md_M_act_619 (by decide) (fun hx => ?_) (fun hx => ?_)
    · replace H := H1 hx
      exact mj_lvs [0, 1] rfl H
    · replace H := H2 hx
      refine mj_aload_n 0 md_M_act_622 rfl ?_
      refine mj_getf (v := .int (mj_i μ h0 29)) rfl kc_M 29 (by decide) tw_652 md_M_act_623 ht1 rfl ?_
      obtain ⟨H1, H2⟩ := H
      refine mj_if_ne (tgt := 634) md_M_act_626 (by decide) (fun hx => ?_) (fun hx => ?_)
      · replace H := H1 hx
        refine mj_iconst (v := 0) md_M_act_634 (by decide) ?_
        refine mj_istore (lv' := [(6, .int 0), (0, va_rf (some h0)), (1, .int v1), (2, .int v2), (3, .long v3)]) md_M_act_635 (by decide) (by first | rfl | (simp [mj_rfc]; done) | (simp [mj_rfc]; rfl)) ?_
        refine mj_aload_n 1 md_M_act_637 rfl ?_
        refine mj_iload 0 md_M_act_638 rfl ?_
        refine mj_if_ne (tgt := 647) md_M_act_640 (by decide) (fun hx => absurd hx (by decide)) (fun _ => ?_)
        refine mj_iconst (v := 0) md_M_act_643 (by decide) ?_
        refine mj_goto (tgt := 651) md_M_act_644 (by decide) ?_
        refine mj_putI rfl kc_M 29 (by decide) rfl tw_652 md_M_act_651 (Or.inl rfl) ht1 rfl rfl ?_
        exact mj_lvs [1, 2, 0] rfl H
      · replace H := H2 hx
        exact mj_lvs [0, 1] rfl H
  · replace H := H2 hx
    refine mj_aload_n 0 md_M_act_561 rfl ?_
    obtain ⟨ht6, H⟩ := H
    refine mj_getf (v := va_rf (mj_r μ h0 3)) rfl kc_M 3 (by decide) tw_626 md_M_act_562 ht6 rfl ?_
    refine mj_iload_n 1 md_M_act_565 rfl ?_
    obtain ⟨b7, hb8, H⟩ := H
    obtain ⟨ht9, H⟩ := H
    obtain ⟨hi10, H⟩ := H
    refine mj_iald (t := 0) hb8 rfl ht9 hi10 md_M_act_566 ?_
    obtain ⟨H1, H2⟩ := H
    refine mj_if_ne (tgt := 577) md_M_act_567 (by decide) (fun hx => ?_) (fun hx => ?_)
    · replace H := H1 hx
      exact mj_lvs [0, 1, 3] rfl H
    · replace H := H2 hx
      refine mj_aload_n 0 md_M_act_570 rfl ?_
      refine mj_getf (v := .int (mj_i μ h0 29)) rfl kc_M 29 (by decide) tw_652 md_M_act_571 ht6 rfl ?_
      obtain ⟨H1, H2⟩ := H
      refine mj_if_le (tgt := 582) md_M_act_574 (by decide) (fun hx => ?_) (fun hx => ?_)
      · replace H := H1 hx
        refine mj_iconst (v := 0) md_M_act_582 (by decide) ?_
        refine mj_istore (lv' := [(6, .int 0), (0, va_rf (some h0)), (1, .int v1), (2, .int v2), (3, .long v3)]) md_M_act_583 (by decide) (by first | rfl | (simp [mj_rfc]; done) | (simp [mj_rfc]; rfl)) ?_
        refine mj_iload 0 md_M_act_585 rfl ?_
        refine mj_if_ne (tgt := 654) md_M_act_587 (by decide) (fun hx => absurd hx (by decide)) (fun _ => ?_)
        refine mj_aload_n 1 md_M_act_590 rfl ?_
        refine mj_iload_n 2 md_M_act_591 rfl ?_
        refine mj_putI rfl kc_M 29 (by decide) rfl tw_652 md_M_act_592 (Or.inl rfl) ht6 rfl rfl ?_
        refine mj_aload_n 1 md_M_act_595 rfl ?_
        refine mj_aload_n 1 md_M_act_596 rfl ?_
        refine mj_getf (v := .long (mj_l μ h0 43)) rfl kc_M 43 (by decide) tw_666 md_M_act_597 ht6 rfl ?_
        refine mj_lload_n 4 md_M_act_600 rfl ?_
        refine mj_ladd md_M_act_601 ?_
        refine mj_putL rfl kc_M 30 (by decide) rfl tw_653 md_M_act_602 (Or.inl rfl) ht6 ?_
        refine mj_aload_n 1 md_M_act_605 rfl ?_
        refine mj_iconst (v := 0) md_M_act_606 (by decide) ?_
        refine mj_putI rfl kc_M 31 (by decide) rfl tw_654 md_M_act_607 (Or.inl rfl) ht6 (by decide) (by decide) ?_
        refine mj_goto (tgt := 654) md_M_act_610 (by decide) ?_
        exact mj_lvs [1, 2, 0] rfl H
      · replace H := H2 hx
        exact mj_lvs [0, 1, 3] rfl H

set_option maxRecDepth 20000 in
theorem bk_M_act_629 {G : mj_G} {Ex : Option Value → mj_MM → Prop} {N S : Nat} {μ : mj_MM} {h0 : Nat} {v1 : Int32}
    (H : ((mj_t μ h0 = 11) ∧ mj_J G mY_M_act Ex N S 654 [(0, va_rf (some h0)), (1, .int v1), (6, .int 7)] [] (mj_pI μ h0 29 (mj_i μ h0 29)))) :
    mj_J G mY_M_act Ex N S 629 [(0, va_rf (some h0)), (1, .int v1)] [] μ := by
  refine mj_bipush (v := 7) md_M_act_629 (by decide) ?_
  refine mj_goto (tgt := 635) md_M_act_631 (by decide) ?_
  refine mj_istore (lv' := [(6, .int 7), (0, va_rf (some h0)), (1, .int v1)]) md_M_act_635 (by decide) (by first | rfl | (simp [mj_rfc]; done) | (simp [mj_rfc]; rfl)) ?_
  refine mj_aload_n 1 md_M_act_637 rfl ?_
  refine mj_iload 0 md_M_act_638 rfl ?_
  refine mj_if_ne (tgt := 647) md_M_act_640 (by decide) (fun _ => ?_) (fun hx => absurd hx (by decide))
  refine mj_aload_n 1 md_M_act_647 rfl ?_
  obtain ⟨ht1, H⟩ := H
  refine mj_getf (v := .int (mj_i μ h0 29)) rfl kc_M 29 (by decide) tw_652 md_M_act_648 ht1 rfl ?_
  refine mj_putI rfl kc_M 29 (by decide) rfl tw_652 md_M_act_651 (Or.inl rfl) ht1 rfl rfl ?_
  exact mj_lvs [1, 2, 0] rfl H

set_option maxRecDepth 20000 in
theorem bk_M_act_577 {G : mj_G} {Ex : Option Value → mj_MM → Prop} {N S : Nat} {μ : mj_MM} {h0 : Nat} {v1 : Int32} {v3 : Int64}
    (H : mj_J G mY_M_act Ex N S 654 [(0, va_rf (some h0)), (1, .int v1), (6, .int 7)] [] μ) :
    mj_J G mY_M_act Ex N S 577 [(0, va_rf (some h0)), (1, .int v1), (3, .long v3)] [] μ := by
  refine mj_bipush (v := 7) md_M_act_577 (by decide) ?_
  refine mj_goto (tgt := 583) md_M_act_579 (by decide) ?_
  refine mj_istore (lv' := [(6, .int 7), (0, va_rf (some h0)), (1, .int v1), (3, .long v3)]) md_M_act_583 (by decide) (by first | rfl | (simp [mj_rfc]; done) | (simp [mj_rfc]; rfl)) ?_
  refine mj_iload 0 md_M_act_585 rfl ?_
  refine mj_if_ne (tgt := 654) md_M_act_587 (by decide) (fun _ => ?_) (fun hx => absurd hx (by decide))
  exact mj_lvs [1, 2, 0] rfl H

set_option maxRecDepth 20000 in
theorem bk_M_chain_0 {G : mj_G} {Ex : Option Value → mj_MM → Prop} {N S : Nat} {μ : mj_MM} {h0 : Nat} {v1 : Int32} {v2 : Int32}
    (H : ((mj_t μ h0 = 11) ∧ (∃ P : Int32 → mj_MM → Prop, mj_M G my_M_no mY_M_no [va_rf (some h0), .int v2] (mj_nc μ) (mj_ns μ) μ (mj_XI P) ∧ ∀ (x : Int32) (μ' : mj_MM), P x μ' → mj_nc μ' = mj_nc μ → mj_ns μ' = mj_ns μ → mj_J G mY_M_chain Ex N S 5 [(0, va_rf (some h0)), (1, .int v1), (2, .int v2)] [.int x] μ'))) :
    mj_J G mY_M_chain Ex N S 0 [(0, va_rf (some h0)), (1, .int v1), (2, .int v2)] [] μ := by
  refine mj_aload_n 0 md_M_chain_0 rfl ?_
  refine mj_iload_n 2 md_M_chain_1 rfl ?_
  obtain ⟨ht1, H⟩ := H
  obtain ⟨P, hM, H⟩ := H
  exact mj_callV (n := 1) (As := [.int v2]) rfl hM kc_M ht1 ⟨tw_770, tw_8, tw_773, ⟨by decide, by decide, by decide +kernel⟩, by decide, by decide⟩ tw_772 tp_32 rfl md_M_chain_2 (by first | decide | (simp only [List.map_cons, List.map_nil, List.sum_cons, List.sum_nil, mj_rfc, mj_ci, mj_cl]; done) | (simp only [List.map_cons, List.map_nil, List.sum_cons, List.sum_nil, mj_rfc, mj_ci, mj_cl]; decide)) id (mj_kI (fun x μ' hP e1 e2 => mj_lvs [0, 1, 2] rfl (H x μ' hP e1 e2)))

set_option maxRecDepth 20000 in
theorem bk_M_chain_5 {G : mj_G} {Ex : Option Value → mj_MM → Prop} {N S : Nat} {μ : mj_MM} {h0 : Nat} {v1 : Int32} {v2 : Int32} {s0 : Int32}
    (H : ((s0 = 0 → mj_J G mY_M_chain Ex N S 15 [(0, va_rf (some h0)), (1, .int v1), (2, .int v2)] [] μ) ∧ (¬ s0 = 0 → ((mj_t μ h0 = 11) ∧ (∃ P : mj_MM → Prop, mj_M G my_M_tell mY_M_tell [va_rf (some h0), .int 8, .int v1] (mj_nc μ) (mj_ns μ) μ (mj_XV P) ∧ ∀ (μ' : mj_MM), P μ' → mj_nc μ' = mj_nc μ → mj_ns μ' = mj_ns μ → mj_J G mY_M_chain Ex N S 15 [(0, va_rf (some h0)), (1, .int v1), (2, .int v2)] [] μ'))))) :
    mj_J G mY_M_chain Ex N S 5 [(0, va_rf (some h0)), (1, .int v1), (2, .int v2)] [.int s0] μ := by
  obtain ⟨H1, H2⟩ := H
  refine mj_if_eq (tgt := 15) md_M_chain_5 (by decide) (fun hx => ?_) (fun hx => ?_)
  · replace H := H1 hx
    exact mj_lvs [0, 1, 2] rfl H
  · replace H := H2 hx
    refine mj_aload_n 0 md_M_chain_8 rfl ?_
    refine mj_bipush (v := 8) md_M_chain_9 (by decide) ?_
    refine mj_iload_n 1 md_M_chain_11 rfl ?_
    obtain ⟨ht1, H⟩ := H
    obtain ⟨P, hM, H⟩ := H
    exact mj_callV (n := 2) (As := [.int 8, .int v1]) rfl hM kc_M ht1 ⟨tw_814, tw_8, tw_817, ⟨by decide, by decide, by decide +kernel⟩, by decide, by decide⟩ tw_816 tp_36 rfl md_M_chain_12 (by first | decide | (simp only [List.map_cons, List.map_nil, List.sum_cons, List.sum_nil, mj_rfc, mj_ci, mj_cl]; done) | (simp only [List.map_cons, List.map_nil, List.sum_cons, List.sum_nil, mj_rfc, mj_ci, mj_cl]; decide)) id (mj_kV (fun μ' hP e1 e2 => mj_lvs [0, 1, 2] rfl (H μ' hP e1 e2)))

set_option maxRecDepth 20000 in
theorem bk_M_chain_15 {G : mj_G} {Ex : Option Value → mj_MM → Prop} {N S : Nat} {μ : mj_MM} {h0 : Nat} {v1 : Int32} {v2 : Int32}
    (H : ((¬ v2 = v1 → ((mj_t μ h0 = 11) ∧ (∃ P : mj_MM → Prop, mj_M G my_M_ends mY_M_ends [va_rf (some h0), .int v1] (mj_nc μ) (mj_ns μ) μ (mj_XV P) ∧ ∀ (μ' : mj_MM), P μ' → mj_nc μ' = mj_nc μ → mj_ns μ' = mj_ns μ → mj_J G mY_M_chain Ex N S 33 [(0, va_rf (some h0)), (2, .int v2)] [] μ'))) ∧ (v2 = v1 → ((mj_t μ h0 = 11) ∧ (∃ P : mj_MM → Prop, mj_M G my_M_free mY_M_free [va_rf (some h0), .int v1] (mj_nc μ) (mj_ns μ) μ (mj_XV P) ∧ ∀ (μ' : mj_MM), P μ' → mj_nc μ' = mj_nc μ → mj_ns μ' = mj_ns μ → mj_J G mY_M_chain Ex N S 25 [(0, va_rf (some h0)), (2, .int v2)] [] μ'))))) :
    mj_J G mY_M_chain Ex N S 15 [(0, va_rf (some h0)), (1, .int v1), (2, .int v2)] [] μ := by
  refine mj_iload_n 2 md_M_chain_15 rfl ?_
  refine mj_iload_n 1 md_M_chain_16 rfl ?_
  obtain ⟨H1, H2⟩ := H
  refine mj_icmp_ne (tgt := 28) md_M_chain_17 (by decide) (fun hx => ?_) (fun hx => ?_)
  · replace H := H1 hx
    refine mj_aload_n 0 md_M_chain_28 rfl ?_
    refine mj_iload_n 1 md_M_chain_29 rfl ?_
    obtain ⟨ht1, H⟩ := H
    obtain ⟨P, hM, H⟩ := H
    exact mj_callV (n := 1) (As := [.int v1]) rfl hM kc_M ht1 ⟨tw_846, tw_8, tw_849, ⟨by decide, by decide, by decide +kernel⟩, by decide, by decide⟩ tw_848 tp_44 rfl md_M_chain_30 (by first | decide | (simp only [List.map_cons, List.map_nil, List.sum_cons, List.sum_nil, mj_rfc, mj_ci, mj_cl]; done) | (simp only [List.map_cons, List.map_nil, List.sum_cons, List.sum_nil, mj_rfc, mj_ci, mj_cl]; decide)) id (mj_kV (fun μ' hP e1 e2 => mj_lvs [0, 2] rfl (H μ' hP e1 e2)))
  · replace H := H2 hx
    refine mj_aload_n 0 md_M_chain_20 rfl ?_
    refine mj_iload_n 1 md_M_chain_21 rfl ?_
    obtain ⟨ht2, H⟩ := H
    obtain ⟨P, hM, H⟩ := H
    exact mj_callV (n := 1) (As := [.int v1]) rfl hM kc_M ht2 ⟨tw_850, tw_8, tw_853, ⟨by decide, by decide, by decide +kernel⟩, by decide, by decide⟩ tw_852 tp_45 rfl md_M_chain_22 (by first | decide | (simp only [List.map_cons, List.map_nil, List.sum_cons, List.sum_nil, mj_rfc, mj_ci, mj_cl]; done) | (simp only [List.map_cons, List.map_nil, List.sum_cons, List.sum_nil, mj_rfc, mj_ci, mj_cl]; decide)) id (mj_kV (fun μ' hP e1 e2 => mj_lvs [0, 2] rfl (H μ' hP e1 e2)))

set_option maxRecDepth 20000 in
theorem bk_M_chain_33 {G : mj_G} {Ex : Option Value → mj_MM → Prop} {N S : Nat} {μ : mj_MM} {h0 : Nat} {v2 : Int32}
    (H : ((mj_t μ h0 = 11) ∧ (∃ P : Int32 → mj_MM → Prop, mj_M G my_M_no mY_M_no [va_rf (some h0), .int v2] (mj_nc μ) (mj_ns μ) μ (mj_XI P) ∧ ∀ (x : Int32) (μ' : mj_MM), P x μ' → mj_nc μ' = mj_nc μ → mj_ns μ' = mj_ns μ → mj_J G mY_M_chain Ex N S 38 [(0, va_rf (some h0)), (2, .int v2)] [.int x] μ'))) :
    mj_J G mY_M_chain Ex N S 33 [(0, va_rf (some h0)), (2, .int v2)] [] μ := by
  refine mj_aload_n 0 md_M_chain_33 rfl ?_
  refine mj_iload_n 1 md_M_chain_34 rfl ?_
  obtain ⟨ht1, H⟩ := H
  obtain ⟨P, hM, H⟩ := H
  exact mj_callV (n := 1) (As := [.int v2]) rfl hM kc_M ht1 ⟨tw_770, tw_8, tw_773, ⟨by decide, by decide, by decide +kernel⟩, by decide, by decide⟩ tw_772 tp_32 rfl md_M_chain_35 (by first | decide | (simp only [List.map_cons, List.map_nil, List.sum_cons, List.sum_nil, mj_rfc, mj_ci, mj_cl]; done) | (simp only [List.map_cons, List.map_nil, List.sum_cons, List.sum_nil, mj_rfc, mj_ci, mj_cl]; decide)) id (mj_kI (fun x μ' hP e1 e2 => mj_lvs [0, 1] rfl (H x μ' hP e1 e2)))

set_option maxRecDepth 20000 in
theorem bk_M_chain_25 {G : mj_G} {Ex : Option Value → mj_MM → Prop} {N S : Nat} {μ : mj_MM} {h0 : Nat} {v2 : Int32}
    (H : mj_J G mY_M_chain Ex N S 33 [(0, va_rf (some h0)), (2, .int v2)] [] μ) :
    mj_J G mY_M_chain Ex N S 25 [(0, va_rf (some h0)), (2, .int v2)] [] μ := by
  refine mj_goto (tgt := 33) md_M_chain_25 (by decide) ?_
  exact mj_lvs [0, 1] rfl H

set_option maxRecDepth 20000 in
theorem bk_M_chain_38 {G : mj_G} {Ex : Option Value → mj_MM → Prop} {N S : Nat} {μ : mj_MM} {h0 : Nat} {v2 : Int32} {s0 : Int32}
    (H : ((¬ s0 = 0 → mj_J G mY_M_chain Ex N S 46 [] [] μ) ∧ (s0 = 0 → ((mj_t μ h0 = 11) ∧ (∃ P : mj_MM → Prop, mj_M G my_M_begin mY_M_begin [va_rf (some h0), .int v2] (mj_nc μ) (mj_ns μ) μ (mj_XV P) ∧ ∀ (μ' : mj_MM), P μ' → mj_nc μ' = mj_nc μ → mj_ns μ' = mj_ns μ → mj_J G mY_M_chain Ex N S 46 [] [] μ'))))) :
    mj_J G mY_M_chain Ex N S 38 [(0, va_rf (some h0)), (2, .int v2)] [.int s0] μ := by
  obtain ⟨H1, H2⟩ := H
  refine mj_if_ne (tgt := 46) md_M_chain_38 (by decide) (fun hx => ?_) (fun hx => ?_)
  · replace H := H1 hx
    exact mj_lvs [] rfl H
  · replace H := H2 hx
    refine mj_aload_n 0 md_M_chain_41 rfl ?_
    refine mj_iload_n 1 md_M_chain_42 rfl ?_
    obtain ⟨ht1, H⟩ := H
    obtain ⟨P, hM, H⟩ := H
    exact mj_callV (n := 1) (As := [.int v2]) rfl hM kc_M ht1 ⟨tw_810, tw_8, tw_813, ⟨by decide, by decide, by decide +kernel⟩, by decide, by decide⟩ tw_812 tp_35 rfl md_M_chain_43 (by first | decide | (simp only [List.map_cons, List.map_nil, List.sum_cons, List.sum_nil, mj_rfc, mj_ci, mj_cl]; done) | (simp only [List.map_cons, List.map_nil, List.sum_cons, List.sum_nil, mj_rfc, mj_ci, mj_cl]; decide)) id (mj_kV (fun μ' hP e1 e2 => mj_lvs [] rfl (H μ' hP e1 e2)))

set_option maxRecDepth 20000 in
theorem bk_M_chain_46 {G : mj_G} {Ex : Option Value → mj_MM → Prop} {N S : Nat} {μ : mj_MM}
    (H : Ex none μ) :
    mj_J G mY_M_chain Ex N S 46 [] [] μ := by
  exact mj_return md_M_chain_46 rfl H

set_option maxRecDepth 20000 in
theorem bk_M_height_0 {G : mj_G} {Ex : Option Value → mj_MM → Prop} {N S : Nat} {μ : mj_MM} {h0 : Nat} {v1 : Int32}
    (H : ((mj_t μ h0 = 11) ∧ ∃ b2 : Nat, (mj_r μ h0 2 = some b2) ∧ (mj_t μ b2 = 1000) ∧ (vp_in v1 (mj_n μ b2)) ∧ mj_J G mY_M_height Ex N S 9 [(0, va_rf (some h0)), (1, .int v1), (2, .int (mj_i μ b2 (Int32.toNatClampNeg v1))), (3, .int 1)] [] μ)) :
    mj_J G mY_M_height Ex N S 0 [(0, va_rf (some h0)), (1, .int v1)] [] μ := by
  refine mj_aload_n 0 md_M_height_0 rfl ?_
  obtain ⟨ht1, H⟩ := H
  refine mj_getf (v := va_rf (mj_r μ h0 2)) rfl kc_M 2 (by decide) tw_625 md_M_height_1 ht1 rfl ?_
  refine mj_iload_n 1 md_M_height_4 rfl ?_
  obtain ⟨b2, hb3, H⟩ := H
  obtain ⟨ht4, H⟩ := H
  obtain ⟨hi5, H⟩ := H
  refine mj_iald (t := 0) hb3 rfl ht4 hi5 md_M_height_5 ?_
  refine mj_istn (i := 2) (lv' := [(2, .int (mj_i μ b2 (Int32.toNatClampNeg v1))), (0, va_rf (some h0)), (1, .int v1)]) md_M_height_6 rfl (by decide) (by first | rfl | (simp [mj_rfc]; done) | (simp [mj_rfc]; rfl)) ?_
  refine mj_iconst (v := 1) md_M_height_7 (by decide) ?_
  refine mj_istn (i := 3) (lv' := [(3, .int 1), (2, .int (mj_i μ b2 (Int32.toNatClampNeg v1))), (0, va_rf (some h0)), (1, .int v1)]) md_M_height_8 rfl (by decide) (by first | rfl | (simp [mj_rfc]; done) | (simp [mj_rfc]; rfl)) ?_
  exact mj_lvs [2, 3, 1, 0] rfl H

set_option maxRecDepth 20000 in
theorem bk_M_height_9 {G : mj_G} {Ex : Option Value → mj_MM → Prop} {N S : Nat} {μ : mj_MM} {h0 : Nat} {v1 : Int32} {v2 : Int32} {v3 : Int32}
    (H : ((32 < v3 → Ex (some (.int v2)) μ) ∧ (¬ 32 < v3 → ((mj_t μ h0 = 11) ∧ ∃ b2 : Nat, (mj_r μ h0 22 = some b2) ∧ (mj_t μ b2 = 1000) ∧ (vp_in v3 (mj_n μ b2)) ∧ ((¬ (mj_i μ b2 (Int32.toNatClampNeg v3)) = v1 → mj_J G mY_M_height Ex N S 9 [(0, va_rf (some h0)), (1, .int v1), (2, .int v2), (3, .int (v3 + 1))] [] μ) ∧ ((mj_i μ b2 (Int32.toNatClampNeg v3)) = v1 → (∃ b6 : Nat, (mj_r μ h0 24 = some b6) ∧ (mj_t μ b6 = 1000) ∧ (vp_in v3 (mj_n μ b6)) ∧ (((mj_i μ b6 (Int32.toNatClampNeg v3)) ≤ v2 → mj_J G mY_M_height Ex N S 9 [(0, va_rf (some h0)), (1, .int v1), (2, .int v2), (3, .int (v3 + 1))] [] μ) ∧ (¬ (mj_i μ b6 (Int32.toNatClampNeg v3)) ≤ v2 → ((vp_in v3 (mj_n μ b6)) ∧ mj_J G mY_M_height Ex N S 9 [(0, va_rf (some h0)), (1, .int v1), (2, .int (mj_i μ b6 (Int32.toNatClampNeg v3))), (3, .int (v3 + 1))] [] μ)))))))))) :
    mj_J G mY_M_height Ex N S 9 [(0, va_rf (some h0)), (1, .int v1), (2, .int v2), (3, .int v3)] [] μ := by
  refine mj_iload_n 3 md_M_height_9 rfl ?_
  refine mj_bipush (v := 32) md_M_height_10 (by decide) ?_
  obtain ⟨H1, H2⟩ := H
  refine mj_icmp_gt (tgt := 52) md_M_height_12 (by decide) (fun hx => ?_) (fun hx => ?_)
  · replace H := H1 hx
    refine mj_iload_n 2 md_M_height_52 rfl ?_
    exact mj_ireturn md_M_height_53 rfl rfl H
  · replace H := H2 hx
    refine mj_aload_n 0 md_M_height_15 rfl ?_
    obtain ⟨ht1, H⟩ := H
    refine mj_getf (v := va_rf (mj_r μ h0 22)) rfl kc_M 22 (by decide) tw_645 md_M_height_16 ht1 rfl ?_
    refine mj_iload_n 3 md_M_height_19 rfl ?_
    obtain ⟨b2, hb3, H⟩ := H
    obtain ⟨ht4, H⟩ := H
    obtain ⟨hi5, H⟩ := H
    refine mj_iald (t := 0) hb3 rfl ht4 hi5 md_M_height_20 ?_
    refine mj_iload_n 1 md_M_height_21 rfl ?_
    obtain ⟨H1, H2⟩ := H
    refine mj_icmp_ne (tgt := 44) md_M_height_22 (by decide) (fun hx => ?_) (fun hx => ?_)
    · replace H := H1 hx
      refine mj_iload_n 2 md_M_height_44 rfl ?_
      refine mj_istn (i := 2) (lv' := [(2, .int v2), (0, va_rf (some h0)), (1, .int v1), (3, .int v3)]) md_M_height_45 rfl (by decide) (by first | rfl | (simp [mj_rfc]; done) | (simp [mj_rfc]; rfl)) ?_
      refine mj_iinc (j := 3) (v := v3 + 1) (lv' := [(3, .int (v3 + 1)), (2, .int v2), (0, va_rf (some h0)), (1, .int v1)]) md_M_height_46 rfl rfl (by decide) (by first | rfl | (simp [mj_rfc]; done) | (simp [mj_rfc]; rfl)) ?_
      refine mj_goto (tgt := 9) md_M_height_49 (by decide) ?_
      exact mj_lvs [2, 3, 1, 0] rfl H
    · replace H := H2 hx
      refine mj_aload_n 0 md_M_height_25 rfl ?_
      refine mj_getf (v := va_rf (mj_r μ h0 24)) rfl kc_M 24 (by decide) tw_647 md_M_height_26 ht1 rfl ?_
      refine mj_iload_n 3 md_M_height_29 rfl ?_
      obtain ⟨b6, hb7, H⟩ := H
      obtain ⟨ht8, H⟩ := H
      obtain ⟨hi9, H⟩ := H
      refine mj_iald (t := 0) hb7 rfl ht8 hi9 md_M_height_30 ?_
      refine mj_iload_n 2 md_M_height_31 rfl ?_
      obtain ⟨H1, H2⟩ := H
      refine mj_icmp_le (tgt := 44) md_M_height_32 (by decide) (fun hx => ?_) (fun hx => ?_)
      · replace H := H1 hx
        refine mj_iload_n 2 md_M_height_44 rfl ?_
        refine mj_istn (i := 2) (lv' := [(2, .int v2), (0, va_rf (some h0)), (1, .int v1), (3, .int v3)]) md_M_height_45 rfl (by decide) (by first | rfl | (simp [mj_rfc]; done) | (simp [mj_rfc]; rfl)) ?_
        refine mj_iinc (j := 3) (v := v3 + 1) (lv' := [(3, .int (v3 + 1)), (2, .int v2), (0, va_rf (some h0)), (1, .int v1)]) md_M_height_46 rfl rfl (by decide) (by first | rfl | (simp [mj_rfc]; done) | (simp [mj_rfc]; rfl)) ?_
        refine mj_goto (tgt := 9) md_M_height_49 (by decide) ?_
        exact mj_lvs [2, 3, 1, 0] rfl H
      · replace H := H2 hx
        refine mj_aload_n 0 md_M_height_35 rfl ?_
        refine mj_getf (v := va_rf (mj_r μ h0 24)) rfl kc_M 24 (by decide) tw_647 md_M_height_36 ht1 rfl ?_
        refine mj_iload_n 3 md_M_height_39 rfl ?_
        obtain ⟨hi10, H⟩ := H
        refine mj_iald (t := 0) hb7 rfl ht8 hi10 md_M_height_40 ?_
        refine mj_goto (tgt := 45) md_M_height_41 (by decide) ?_
        refine mj_istn (i := 2) (lv' := [(2, .int (mj_i μ b6 (Int32.toNatClampNeg v3))), (0, va_rf (some h0)), (1, .int v1), (3, .int v3)]) md_M_height_45 rfl (by decide) (by first | rfl | (simp [mj_rfc]; done) | (simp [mj_rfc]; rfl)) ?_
        refine mj_iinc (j := 3) (v := v3 + 1) (lv' := [(3, .int (v3 + 1)), (2, .int (mj_i μ b6 (Int32.toNatClampNeg v3))), (0, va_rf (some h0)), (1, .int v1)]) md_M_height_46 rfl rfl (by decide) (by first | rfl | (simp [mj_rfc]; done) | (simp [mj_rfc]; rfl)) ?_
        refine mj_goto (tgt := 9) md_M_height_49 (by decide) ?_
        exact mj_lvs [2, 3, 1, 0] rfl H

set_option maxRecDepth 20000 in
theorem bk_M_findCeilings_0 {G : mj_G} {Ex : Option Value → mj_MM → Prop} {N S : Nat} {μ : mj_MM} {h0 : Nat}
    (H : mj_J G mY_M_findCeilings Ex N S 2 [(0, va_rf (some h0)), (1, .int 1)] [] μ) :
    mj_J G mY_M_findCeilings Ex N S 0 [(0, va_rf (some h0))] [] μ := by
  refine mj_iconst (v := 1) md_M_findCeilings_0 (by decide) ?_
  refine mj_istn (i := 1) (lv' := [(1, .int 1), (0, va_rf (some h0))]) md_M_findCeilings_1 rfl (by decide) (by first | rfl | (simp [mj_rfc]; done) | (simp [mj_rfc]; rfl)) ?_
  exact mj_lvs [1, 0] rfl H

set_option maxRecDepth 20000 in
theorem bk_M_findCeilings_2 {G : mj_G} {Ex : Option Value → mj_MM → Prop} {N S : Nat} {μ : mj_MM} {h0 : Nat} {v1 : Int32}
    (H : ((32 < v1 → mj_J G mY_M_findCeilings Ex N S 23 [(0, va_rf (some h0)), (1, .int 0)] [] μ) ∧ (¬ 32 < v1 → ((mj_t μ h0 = 11) ∧ ∃ b2 : Nat, (mj_r μ h0 24 = some b2) ∧ (mj_t μ b2 = 1000) ∧ (vp_in v1 (mj_n μ b2)) ∧ mj_J G mY_M_findCeilings Ex N S 2 [(0, va_rf (some h0)), (1, .int (v1 + 1))] [] (mj_pI μ b2 (Int32.toNatClampNeg v1) 0))))) :
    mj_J G mY_M_findCeilings Ex N S 2 [(0, va_rf (some h0)), (1, .int v1)] [] μ := by
  refine mj_iload_n 1 md_M_findCeilings_2 rfl ?_
  refine mj_bipush (v := 32) md_M_findCeilings_3 (by decide) ?_
  obtain ⟨H1, H2⟩ := H
  refine mj_icmp_gt (tgt := 21) md_M_findCeilings_5 (by decide) (fun hx => ?_) (fun hx => ?_)
  · replace H := H1 hx
    refine mj_iconst (v := 0) md_M_findCeilings_21 (by decide) ?_
    refine mj_istn (i := 1) (lv' := [(1, .int 0), (0, va_rf (some h0))]) md_M_findCeilings_22 rfl (by decide) (by first | rfl | (simp [mj_rfc]; done) | (simp [mj_rfc]; rfl)) ?_
    exact mj_lvs [1, 0] rfl H
  · replace H := H2 hx
    refine mj_aload_n 0 md_M_findCeilings_8 rfl ?_
    obtain ⟨ht1, H⟩ := H
    refine mj_getf (v := va_rf (mj_r μ h0 24)) rfl kc_M 24 (by decide) tw_647 md_M_findCeilings_9 ht1 rfl ?_
    refine mj_iload_n 1 md_M_findCeilings_12 rfl ?_
    refine mj_iconst (v := 0) md_M_findCeilings_13 (by decide) ?_
    obtain ⟨b2, hb3, H⟩ := H
    obtain ⟨ht4, H⟩ := H
    obtain ⟨hi5, H⟩ := H
    refine mj_iast (t := 0) hb3 rfl ht4 hi5 md_M_findCeilings_14 ?_
    refine mj_iinc (j := 1) (v := v1 + 1) (lv' := [(1, .int (v1 + 1)), (0, va_rf (some h0))]) md_M_findCeilings_15 rfl rfl (by decide) (by first | rfl | (simp [mj_rfc]; done) | (simp [mj_rfc]; rfl)) ?_
    refine mj_goto (tgt := 2) md_M_findCeilings_18 (by decide) ?_
    exact mj_lvs [1, 0] rfl H

set_option maxRecDepth 20000 in
theorem bk_M_findCeilings_23 {G : mj_G} {Ex : Option Value → mj_MM → Prop} {N S : Nat} {μ : mj_MM} {h0 : Nat} {v1 : Int32}
    (H : ((mj_t μ h0 = 11) ∧ (((mj_i μ h0 7) ≤ v1 → Ex none μ) ∧ (¬ (mj_i μ h0 7) ≤ v1 → (∃ b2 : Nat, (mj_r μ h0 10 = some b2) ∧ (mj_t μ b2 = 1001) ∧ (vp_in v1 (mj_n μ b2)) ∧ ∃ b6 : Nat, (mj_r μ h0 9 = some b6) ∧ (mj_t μ b6 = 1000) ∧ (vp_in v1 (mj_n μ b6)) ∧ ((¬ (mj_i μ b6 (Int32.toNatClampNeg v1)) = 6 → mj_J G mY_M_findCeilings Ex N S 23 [(0, va_rf (some h0)), (1, .int (v1 + 1))] [] μ) ∧ ((mj_i μ b6 (Int32.toNatClampNeg v1)) = 6 → (∃ b10 : Nat, (mj_r μ h0 8 = some b10) ∧ (mj_t μ b10 = 1000) ∧ (vp_in v1 (mj_n μ b10)) ∧ ∃ b14 : Nat, (mj_r μ h0 2 = some b14) ∧ (mj_t μ b14 = 1000) ∧ (vp_in (mj_i μ b10 (Int32.toNatClampNeg v1)) (mj_n μ b14)) ∧ ∃ b18 : Nat, (mj_r μ h0 24 = some b18) ∧ (mj_t μ b18 = 1000) ∧ (vp_in (Int64.toInt32 (mj_l μ b2 (Int32.toNatClampNeg v1))) (mj_n μ b18)) ∧ (((mj_i μ b14 (Int32.toNatClampNeg (mj_i μ b10 (Int32.toNatClampNeg v1)))) ≤ (mj_i μ b18 (Int32.toNatClampNeg (Int64.toInt32 (mj_l μ b2 (Int32.toNatClampNeg v1))))) → mj_J G mY_M_findCeilings Ex N S 23 [(0, va_rf (some h0)), (1, .int (v1 + 1))] [] μ) ∧ (¬ (mj_i μ b14 (Int32.toNatClampNeg (mj_i μ b10 (Int32.toNatClampNeg v1)))) ≤ (mj_i μ b18 (Int32.toNatClampNeg (Int64.toInt32 (mj_l μ b2 (Int32.toNatClampNeg v1))))) → ((vp_in v1 (mj_n μ b10)) ∧ (vp_in (mj_i μ b10 (Int32.toNatClampNeg v1)) (mj_n μ b14)) ∧ (vp_in (Int64.toInt32 (mj_l μ b2 (Int32.toNatClampNeg v1))) (mj_n μ b18)) ∧ mj_J G mY_M_findCeilings Ex N S 23 [(0, va_rf (some h0)), (1, .int (v1 + 1))] [] (mj_pI μ b18 (Int32.toNatClampNeg (Int64.toInt32 (mj_l μ b2 (Int32.toNatClampNeg v1)))) (mj_i μ b14 (Int32.toNatClampNeg (mj_i μ b10 (Int32.toNatClampNeg v1)))))))))))))))) :
    mj_J G mY_M_findCeilings Ex N S 23 [(0, va_rf (some h0)), (1, .int v1)] [] μ := by
  refine mj_iload_n 1 md_M_findCeilings_23 rfl ?_
  refine mj_aload_n 0 md_M_findCeilings_24 rfl ?_
  obtain ⟨ht1, H⟩ := H
  refine mj_getf (v := .int (mj_i μ h0 7)) rfl kc_M 7 (by decide) tw_630 md_M_findCeilings_25 ht1 rfl ?_
  obtain ⟨H1, H2⟩ := H
  refine mj_icmp_ge (tgt := 93) md_M_findCeilings_28 (by decide) (fun hx => ?_) (fun hx => ?_)
  · replace H := H1 hx
    exact mj_return md_M_findCeilings_93 rfl H
  · replace H := H2 hx
    refine mj_aload_n 0 md_M_findCeilings_31 rfl ?_
    refine mj_getf (v := va_rf (mj_r μ h0 10)) rfl kc_M 10 (by decide) tw_633 md_M_findCeilings_32 ht1 rfl ?_
    refine mj_iload_n 1 md_M_findCeilings_35 rfl ?_
    obtain ⟨b2, hb3, H⟩ := H
    obtain ⟨ht4, H⟩ := H
    obtain ⟨hi5, H⟩ := H
    refine mj_lald (t := 1) hb3 rfl ht4 hi5 md_M_findCeilings_36 ?_
    refine mj_l2i md_M_findCeilings_37 ?_
    refine mj_istn (i := 2) (lv' := [(2, .int (Int64.toInt32 (mj_l μ b2 (Int32.toNatClampNeg v1)))), (0, va_rf (some h0)), (1, .int v1)]) md_M_findCeilings_38 rfl (by decide) (by first | rfl | (simp [mj_rfc]; done) | (simp [mj_rfc]; rfl)) ?_
    refine mj_aload_n 1 md_M_findCeilings_39 rfl ?_
    refine mj_getf (v := va_rf (mj_r μ h0 9)) rfl kc_M 9 (by decide) tw_632 md_M_findCeilings_40 ht1 rfl ?_
    refine mj_iload_n 2 md_M_findCeilings_43 rfl ?_
    obtain ⟨b6, hb7, H⟩ := H
    obtain ⟨ht8, H⟩ := H
    obtain ⟨hi9, H⟩ := H
    refine mj_iald (t := 0) hb7 rfl ht8 hi9 md_M_findCeilings_44 ?_
    refine mj_bipush (v := 6) md_M_findCeilings_45 (by decide) ?_
    obtain ⟨H1, H2⟩ := H
    refine mj_icmp_ne (tgt := 87) md_M_findCeilings_47 (by decide) (fun hx => ?_) (fun hx => ?_)
    · replace H := H1 hx
      refine mj_iinc (j := 2) (v := v1 + 1) (lv' := [(1, .int (v1 + 1)), (2, .int (Int64.toInt32 (mj_l μ b2 (Int32.toNatClampNeg v1)))), (0, va_rf (some h0))]) md_M_findCeilings_87 rfl rfl (by decide) (by first | rfl | (simp [mj_rfc]; done) | (simp [mj_rfc]; rfl)) ?_
      refine mj_goto (tgt := 23) md_M_findCeilings_90 (by decide) ?_
      exact mj_lvs [2, 0] rfl H
    · replace H := H2 hx
      refine mj_aload_n 1 md_M_findCeilings_50 rfl ?_
      refine mj_getf (v := va_rf (mj_r μ h0 2)) rfl kc_M 2 (by decide) tw_625 md_M_findCeilings_51 ht1 rfl ?_
      refine mj_aload_n 1 md_M_findCeilings_54 rfl ?_
      refine mj_getf (v := va_rf (mj_r μ h0 8)) rfl kc_M 8 (by decide) tw_631 md_M_findCeilings_55 ht1 rfl ?_
      refine mj_iload_n 2 md_M_findCeilings_58 rfl ?_
      obtain ⟨b10, hb11, H⟩ := H
      obtain ⟨ht12, H⟩ := H
      obtain ⟨hi13, H⟩ := H
      refine mj_iald (t := 0) hb11 rfl ht12 hi13 md_M_findCeilings_59 ?_
      obtain ⟨b14, hb15, H⟩ := H
      obtain ⟨ht16, H⟩ := H
      obtain ⟨hi17, H⟩ := H
      refine mj_iald (t := 0) hb15 rfl ht16 hi17 md_M_findCeilings_60 ?_
      refine mj_aload_n 1 md_M_findCeilings_61 rfl ?_
      refine mj_getf (v := va_rf (mj_r μ h0 24)) rfl kc_M 24 (by decide) tw_647 md_M_findCeilings_62 ht1 rfl ?_
      refine mj_iload_n 0 md_M_findCeilings_65 rfl ?_
      obtain ⟨b18, hb19, H⟩ := H
      obtain ⟨ht20, H⟩ := H
      obtain ⟨hi21, H⟩ := H
      refine mj_iald (t := 0) hb19 rfl ht20 hi21 md_M_findCeilings_66 ?_
      obtain ⟨H1, H2⟩ := H
      refine mj_icmp_le (tgt := 87) md_M_findCeilings_67 (by decide) (fun hx => ?_) (fun hx => ?_)
      · replace H := H1 hx
        refine mj_iinc (j := 2) (v := v1 + 1) (lv' := [(1, .int (v1 + 1)), (2, .int (Int64.toInt32 (mj_l μ b2 (Int32.toNatClampNeg v1)))), (0, va_rf (some h0))]) md_M_findCeilings_87 rfl rfl (by decide) (by first | rfl | (simp [mj_rfc]; done) | (simp [mj_rfc]; rfl)) ?_
        refine mj_goto (tgt := 23) md_M_findCeilings_90 (by decide) ?_
        exact mj_lvs [2, 0] rfl H
      · replace H := H2 hx
        refine mj_aload_n 1 md_M_findCeilings_70 rfl ?_
        refine mj_getf (v := va_rf (mj_r μ h0 24)) rfl kc_M 24 (by decide) tw_647 md_M_findCeilings_71 ht1 rfl ?_
        refine mj_iload_n 0 md_M_findCeilings_74 rfl ?_
        refine mj_aload_n 1 md_M_findCeilings_75 rfl ?_
        refine mj_getf (v := va_rf (mj_r μ h0 2)) rfl kc_M 2 (by decide) tw_625 md_M_findCeilings_76 ht1 rfl ?_
        refine mj_aload_n 1 md_M_findCeilings_79 rfl ?_
        refine mj_getf (v := va_rf (mj_r μ h0 8)) rfl kc_M 8 (by decide) tw_631 md_M_findCeilings_80 ht1 rfl ?_
        refine mj_iload_n 2 md_M_findCeilings_83 rfl ?_
        obtain ⟨hi22, H⟩ := H
        refine mj_iald (t := 0) hb11 rfl ht12 hi22 md_M_findCeilings_84 ?_
        obtain ⟨hi23, H⟩ := H
        refine mj_iald (t := 0) hb15 rfl ht16 hi23 md_M_findCeilings_85 ?_
        obtain ⟨hi24, H⟩ := H
        refine mj_iast (t := 0) hb19 rfl ht20 hi24 md_M_findCeilings_86 ?_
        refine mj_iinc (j := 2) (v := v1 + 1) (lv' := [(1, .int (v1 + 1)), (2, .int (Int64.toInt32 (mj_l μ b2 (Int32.toNatClampNeg v1)))), (0, va_rf (some h0))]) md_M_findCeilings_87 rfl rfl (by decide) (by first | rfl | (simp [mj_rfc]; done) | (simp [mj_rfc]; rfl)) ?_
        refine mj_goto (tgt := 23) md_M_findCeilings_90 (by decide) ?_
        exact mj_lvs [2, 0] rfl H

set_option maxRecDepth 20000 in
theorem bk_M_runningOf_0 {G : mj_G} {Ex : Option Value → mj_MM → Prop} {N S : Nat} {μ : mj_MM} {h0 : Nat} {v1 : Int32}
    (H : mj_J G mY_M_runningOf Ex N S 4 [(0, va_rf (some h0)), (1, .int v1), (2, .int 0), (3, .int 1)] [] μ) :
    mj_J G mY_M_runningOf Ex N S 0 [(0, va_rf (some h0)), (1, .int v1)] [] μ := by
  refine mj_iconst (v := 0) md_M_runningOf_0 (by decide) ?_
  refine mj_istn (i := 2) (lv' := [(2, .int 0), (0, va_rf (some h0)), (1, .int v1)]) md_M_runningOf_1 rfl (by decide) (by first | rfl | (simp [mj_rfc]; done) | (simp [mj_rfc]; rfl)) ?_
  refine mj_iconst (v := 1) md_M_runningOf_2 (by decide) ?_
  refine mj_istn (i := 3) (lv' := [(3, .int 1), (2, .int 0), (0, va_rf (some h0)), (1, .int v1)]) md_M_runningOf_3 rfl (by decide) (by first | rfl | (simp [mj_rfc]; done) | (simp [mj_rfc]; rfl)) ?_
  exact mj_lvs [2, 3, 1, 0] rfl H

set_option maxRecDepth 20000 in
theorem bk_M_runningOf_4 {G : mj_G} {Ex : Option Value → mj_MM → Prop} {N S : Nat} {μ : mj_MM} {h0 : Nat} {v1 : Int32} {v2 : Int32} {v3 : Int32}
    (H : ((mj_t μ h0 = 11) ∧ (((mj_i μ h0 1) < v3 → Ex (some (.int v2)) μ) ∧ (¬ (mj_i μ h0 1) < v3 → (∃ b2 : Nat, (mj_r μ h0 3 = some b2) ∧ (mj_t μ b2 = 1000) ∧ (vp_in v3 (mj_n μ b2)) ∧ ((¬ (mj_i μ b2 (Int32.toNatClampNeg v3)) = v1 → mj_J G mY_M_runningOf Ex N S 4 [(0, va_rf (some h0)), (1, .int v1), (2, .int v2), (3, .int (v3 + 1))] [] μ) ∧ ((mj_i μ b2 (Int32.toNatClampNeg v3)) = v1 → (∃ b6 : Nat, (mj_r μ h0 11 = some b6) ∧ (mj_t μ b6 = 1000) ∧ (vp_in v3 (mj_n μ b6)) ∧ ((¬ (mj_i μ b6 (Int32.toNatClampNeg v3)) = 2 → mj_J G mY_M_runningOf Ex N S 4 [(0, va_rf (some h0)), (1, .int v1), (2, .int v2), (3, .int (v3 + 1))] [] μ) ∧ ((mj_i μ b6 (Int32.toNatClampNeg v3)) = 2 → mj_J G mY_M_runningOf Ex N S 4 [(0, va_rf (some h0)), (1, .int v1), (2, .int v3), (3, .int (v3 + 1))] [] μ)))))))))) :
    mj_J G mY_M_runningOf Ex N S 4 [(0, va_rf (some h0)), (1, .int v1), (2, .int v2), (3, .int v3)] [] μ := by
  refine mj_iload_n 3 md_M_runningOf_4 rfl ?_
  refine mj_aload_n 0 md_M_runningOf_5 rfl ?_
  obtain ⟨ht1, H⟩ := H
  refine mj_getf (v := .int (mj_i μ h0 1)) rfl kc_M 1 (by decide) tw_624 md_M_runningOf_6 ht1 rfl ?_
  obtain ⟨H1, H2⟩ := H
  refine mj_icmp_gt (tgt := 44) md_M_runningOf_9 (by decide) (fun hx => ?_) (fun hx => ?_)
  · replace H := H1 hx
    refine mj_iload_n 2 md_M_runningOf_44 rfl ?_
    exact mj_ireturn md_M_runningOf_45 rfl rfl H
  · replace H := H2 hx
    refine mj_aload_n 0 md_M_runningOf_12 rfl ?_
    refine mj_getf (v := va_rf (mj_r μ h0 3)) rfl kc_M 3 (by decide) tw_626 md_M_runningOf_13 ht1 rfl ?_
    refine mj_iload_n 3 md_M_runningOf_16 rfl ?_
    obtain ⟨b2, hb3, H⟩ := H
    obtain ⟨ht4, H⟩ := H
    obtain ⟨hi5, H⟩ := H
    refine mj_iald (t := 0) hb3 rfl ht4 hi5 md_M_runningOf_17 ?_
    refine mj_iload_n 1 md_M_runningOf_18 rfl ?_
    obtain ⟨H1, H2⟩ := H
    refine mj_icmp_ne (tgt := 36) md_M_runningOf_19 (by decide) (fun hx => ?_) (fun hx => ?_)
    · replace H := H1 hx
      refine mj_iload_n 2 md_M_runningOf_36 rfl ?_
      refine mj_istn (i := 2) (lv' := [(2, .int v2), (0, va_rf (some h0)), (1, .int v1), (3, .int v3)]) md_M_runningOf_37 rfl (by decide) (by first | rfl | (simp [mj_rfc]; done) | (simp [mj_rfc]; rfl)) ?_
      refine mj_iinc (j := 3) (v := v3 + 1) (lv' := [(3, .int (v3 + 1)), (2, .int v2), (0, va_rf (some h0)), (1, .int v1)]) md_M_runningOf_38 rfl rfl (by decide) (by first | rfl | (simp [mj_rfc]; done) | (simp [mj_rfc]; rfl)) ?_
      refine mj_goto (tgt := 4) md_M_runningOf_41 (by decide) ?_
      exact mj_lvs [2, 3, 1, 0] rfl H
    · replace H := H2 hx
      refine mj_aload_n 0 md_M_runningOf_22 rfl ?_
      refine mj_getf (v := va_rf (mj_r μ h0 11)) rfl kc_M 11 (by decide) tw_634 md_M_runningOf_23 ht1 rfl ?_
      refine mj_iload_n 3 md_M_runningOf_26 rfl ?_
      obtain ⟨b6, hb7, H⟩ := H
      obtain ⟨ht8, H⟩ := H
      obtain ⟨hi9, H⟩ := H
      refine mj_iald (t := 0) hb7 rfl ht8 hi9 md_M_runningOf_27 ?_
      refine mj_iconst (v := 2) md_M_runningOf_28 (by decide) ?_
      obtain ⟨H1, H2⟩ := H
      refine mj_icmp_ne (tgt := 36) md_M_runningOf_29 (by decide) (fun hx => ?_) (fun hx => ?_)
      · replace H := H1 hx
        refine mj_iload_n 2 md_M_runningOf_36 rfl ?_
        refine mj_istn (i := 2) (lv' := [(2, .int v2), (0, va_rf (some h0)), (1, .int v1), (3, .int v3)]) md_M_runningOf_37 rfl (by decide) (by first | rfl | (simp [mj_rfc]; done) | (simp [mj_rfc]; rfl)) ?_
        refine mj_iinc (j := 3) (v := v3 + 1) (lv' := [(3, .int (v3 + 1)), (2, .int v2), (0, va_rf (some h0)), (1, .int v1)]) md_M_runningOf_38 rfl rfl (by decide) (by first | rfl | (simp [mj_rfc]; done) | (simp [mj_rfc]; rfl)) ?_
        refine mj_goto (tgt := 4) md_M_runningOf_41 (by decide) ?_
        exact mj_lvs [2, 3, 1, 0] rfl H
      · replace H := H2 hx
        refine mj_iload_n 3 md_M_runningOf_32 rfl ?_
        refine mj_goto (tgt := 37) md_M_runningOf_33 (by decide) ?_
        refine mj_istn (i := 2) (lv' := [(2, .int v3), (0, va_rf (some h0)), (1, .int v1), (3, .int v3)]) md_M_runningOf_37 rfl (by decide) (by first | rfl | (simp [mj_rfc]; done) | (simp [mj_rfc]; rfl)) ?_
        refine mj_iinc (j := 3) (v := v3 + 1) (lv' := [(3, .int (v3 + 1)), (2, .int v3), (0, va_rf (some h0)), (1, .int v1)]) md_M_runningOf_38 rfl rfl (by decide) (by first | rfl | (simp [mj_rfc]; done) | (simp [mj_rfc]; rfl)) ?_
        refine mj_goto (tgt := 4) md_M_runningOf_41 (by decide) ?_
        exact mj_lvs [2, 3, 1, 0] rfl H

set_option maxRecDepth 20000 in
theorem bk_M_choose_0 {G : mj_G} {Ex : Option Value → mj_MM → Prop} {N S : Nat} {μ : mj_MM} {h0 : Nat} {v1 : Int32}
    (H : ((mj_t μ h0 = 11) ∧ (∃ P : Int32 → mj_MM → Prop, mj_M G my_M_runningOf mY_M_runningOf [va_rf (some h0), .int v1] (mj_nc μ) (mj_ns μ) μ (mj_XI P) ∧ ∀ (x : Int32) (μ' : mj_MM), P x μ' → mj_nc μ' = mj_nc μ → mj_ns μ' = mj_ns μ → mj_J G mY_M_choose Ex N S 5 [(0, va_rf (some h0)), (1, .int v1)] [.int x] μ'))) :
    mj_J G mY_M_choose Ex N S 0 [(0, va_rf (some h0)), (1, .int v1)] [] μ := by
  refine mj_aload_n 0 md_M_choose_0 rfl ?_
  refine mj_iload_n 1 md_M_choose_1 rfl ?_
  obtain ⟨ht1, H⟩ := H
  obtain ⟨P, hM, H⟩ := H
  exact mj_callV (n := 1) (As := [.int v1]) rfl hM kc_M ht1 ⟨tw_834, tw_8, tw_837, ⟨by decide, by decide, by decide +kernel⟩, by decide, by decide⟩ tw_836 tp_41 rfl md_M_choose_2 (by first | decide | (simp only [List.map_cons, List.map_nil, List.sum_cons, List.sum_nil, mj_rfc, mj_ci, mj_cl]; done) | (simp only [List.map_cons, List.map_nil, List.sum_cons, List.sum_nil, mj_rfc, mj_ci, mj_cl]; decide)) id (mj_kI (fun x μ' hP e1 e2 => mj_lvs [0, 1] rfl (H x μ' hP e1 e2)))

set_option maxRecDepth 20000 in
theorem bk_M_choose_5 {G : mj_G} {Ex : Option Value → mj_MM → Prop} {N S : Nat} {μ : mj_MM} {h0 : Nat} {v1 : Int32} {s0 : Int32}
    (H : ((s0 ≤ 0 → ((s0 ≤ 0 → mj_J G mY_M_choose Ex N S 50 [(0, va_rf (some h0)), (1, .int v1), (2, .int s0), (3, .int s0), (4, .int (-1)), (5, .int 1)] [] μ) ∧ (¬ s0 ≤ 0 → ((mj_t μ h0 = 11) ∧ (∃ P : Int32 → mj_MM → Prop, mj_M G my_M_height mY_M_height [va_rf (some h0), .int s0] (mj_nc μ) (mj_ns μ) μ (mj_XI P) ∧ ∀ (x : Int32) (μ' : mj_MM), P x μ' → mj_nc μ' = mj_nc μ → mj_ns μ' = mj_ns μ → mj_J G mY_M_choose Ex N S 41 [(0, va_rf (some h0)), (1, .int v1), (2, .int s0), (3, .int s0)] [.int x] μ'))))) ∧ (¬ s0 ≤ 0 → ((mj_t μ h0 = 11) ∧ ∃ b3 : Nat, (mj_r μ h0 6 = some b3) ∧ (mj_t μ b3 = 1002) ∧ (vp_in s0 (mj_n μ b3)) ∧ ((¬ (mj_i μ b3 (Int32.toNatClampNeg s0)) = 0 → ((s0 ≤ 0 → mj_J G mY_M_choose Ex N S 50 [(0, va_rf (some h0)), (1, .int v1), (2, .int s0), (3, .int s0), (4, .int (-1)), (5, .int 1)] [] μ) ∧ (¬ s0 ≤ 0 → (∃ P : Int32 → mj_MM → Prop, mj_M G my_M_height mY_M_height [va_rf (some h0), .int s0] (mj_nc μ) (mj_ns μ) μ (mj_XI P) ∧ ∀ (x : Int32) (μ' : mj_MM), P x μ' → mj_nc μ' = mj_nc μ → mj_ns μ' = mj_ns μ → mj_J G mY_M_choose Ex N S 41 [(0, va_rf (some h0)), (1, .int v1), (2, .int s0), (3, .int s0)] [.int x] μ')))) ∧ ((mj_i μ b3 (Int32.toNatClampNeg s0)) = 0 → (∃ b7 : Nat, (mj_r μ h0 19 = some b7) ∧ (mj_t μ b7 = 1002) ∧ (vp_in s0 (mj_n μ b7)) ∧ ((¬ (mj_i μ b7 (Int32.toNatClampNeg s0)) = 0 → ((s0 ≤ 0 → mj_J G mY_M_choose Ex N S 50 [(0, va_rf (some h0)), (1, .int v1), (2, .int s0), (3, .int s0), (4, .int (-1)), (5, .int 1)] [] μ) ∧ (¬ s0 ≤ 0 → (∃ P : Int32 → mj_MM → Prop, mj_M G my_M_height mY_M_height [va_rf (some h0), .int s0] (mj_nc μ) (mj_ns μ) μ (mj_XI P) ∧ ∀ (x : Int32) (μ' : mj_MM), P x μ' → mj_nc μ' = mj_nc μ → mj_ns μ' = mj_ns μ → mj_J G mY_M_choose Ex N S 41 [(0, va_rf (some h0)), (1, .int v1), (2, .int s0), (3, .int s0)] [.int x] μ')))) ∧ ((mj_i μ b7 (Int32.toNatClampNeg s0)) = 0 → Ex (some (.int s0)) μ))))))))) :
    mj_J G mY_M_choose Ex N S 5 [(0, va_rf (some h0)), (1, .int v1)] [.int s0] μ := by
  refine mj_istn (i := 2) (lv' := [(2, .int s0), (0, va_rf (some h0)), (1, .int v1)]) md_M_choose_5 rfl (by decide) (by first | rfl | (simp [mj_rfc]; done) | (simp [mj_rfc]; rfl)) ?_
  refine mj_iload_n 0 md_M_choose_6 rfl ?_
  obtain ⟨H1, H2⟩ := H
  refine mj_if_le (tgt := 30) md_M_choose_7 (by decide) (fun hx => ?_) (fun hx => ?_)
  · replace H := H1 hx
    refine mj_iload_n 0 md_M_choose_30 rfl ?_
    refine mj_istn (i := 3) (lv' := [(3, .int s0), (2, .int s0), (0, va_rf (some h0)), (1, .int v1)]) md_M_choose_31 rfl (by decide) (by first | rfl | (simp [mj_rfc]; done) | (simp [mj_rfc]; rfl)) ?_
    refine mj_iload_n 1 md_M_choose_32 rfl ?_
    obtain ⟨H1, H2⟩ := H
    refine mj_if_le (tgt := 44) md_M_choose_33 (by decide) (fun hx => ?_) (fun hx => ?_)
    · replace H := H1 hx
      refine mj_iconst (v := (-1)) md_M_choose_44 (by decide) ?_
      refine mj_istore (lv' := [(4, .int (-1)), (3, .int s0), (2, .int s0), (0, va_rf (some h0)), (1, .int v1)]) md_M_choose_45 (by decide) (by first | rfl | (simp [mj_rfc]; done) | (simp [mj_rfc]; rfl)) ?_
      refine mj_iconst (v := 1) md_M_choose_47 (by decide) ?_
      refine mj_istore (lv' := [(5, .int 1), (4, .int (-1)), (3, .int s0), (2, .int s0), (0, va_rf (some h0)), (1, .int v1)]) md_M_choose_48 (by decide) (by first | rfl | (simp [mj_rfc]; done) | (simp [mj_rfc]; rfl)) ?_
      exact mj_lvs [4, 5, 3, 2, 1, 0] rfl H
    · replace H := H2 hx
      refine mj_aload_n 2 md_M_choose_36 rfl ?_
      refine mj_iload_n 1 md_M_choose_37 rfl ?_
      obtain ⟨ht1, H⟩ := H
      obtain ⟨P, hM, H⟩ := H
      exact mj_callV (n := 1) (As := [.int s0]) rfl hM kc_M ht1 ⟨tw_838, tw_8, tw_841, ⟨by decide, by decide, by decide +kernel⟩, by decide, by decide⟩ tw_840 tp_42 rfl md_M_choose_38 (by first | decide | (simp only [List.map_cons, List.map_nil, List.sum_cons, List.sum_nil, mj_rfc, mj_ci, mj_cl]; done) | (simp only [List.map_cons, List.map_nil, List.sum_cons, List.sum_nil, mj_rfc, mj_ci, mj_cl]; decide)) id (mj_kI (fun x μ' hP e1 e2 => mj_lvs [2, 3, 1, 0] rfl (H x μ' hP e1 e2)))
  · replace H := H2 hx
    refine mj_aload_n 1 md_M_choose_10 rfl ?_
    obtain ⟨ht2, H⟩ := H
    refine mj_getf (v := va_rf (mj_r μ h0 6)) rfl kc_M 6 (by decide) tw_629 md_M_choose_11 ht2 rfl ?_
    refine mj_iload_n 0 md_M_choose_14 rfl ?_
    obtain ⟨b3, hb4, H⟩ := H
    obtain ⟨ht5, H⟩ := H
    obtain ⟨hi6, H⟩ := H
    refine mj_zald (t := 2) hb4 rfl ht5 hi6 md_M_choose_15 ?_
    obtain ⟨H1, H2⟩ := H
    refine mj_if_ne (tgt := 30) md_M_choose_16 (by decide) (fun hx => ?_) (fun hx => ?_)
    · replace H := H1 hx
      refine mj_iload_n 0 md_M_choose_30 rfl ?_
      refine mj_istn (i := 3) (lv' := [(3, .int s0), (2, .int s0), (0, va_rf (some h0)), (1, .int v1)]) md_M_choose_31 rfl (by decide) (by first | rfl | (simp [mj_rfc]; done) | (simp [mj_rfc]; rfl)) ?_
      refine mj_iload_n 1 md_M_choose_32 rfl ?_
      obtain ⟨H1, H2⟩ := H
      refine mj_if_le (tgt := 44) md_M_choose_33 (by decide) (fun hx => ?_) (fun hx => ?_)
      · replace H := H1 hx
        refine mj_iconst (v := (-1)) md_M_choose_44 (by decide) ?_
        refine mj_istore (lv' := [(4, .int (-1)), (3, .int s0), (2, .int s0), (0, va_rf (some h0)), (1, .int v1)]) md_M_choose_45 (by decide) (by first | rfl | (simp [mj_rfc]; done) | (simp [mj_rfc]; rfl)) ?_
        refine mj_iconst (v := 1) md_M_choose_47 (by decide) ?_
        refine mj_istore (lv' := [(5, .int 1), (4, .int (-1)), (3, .int s0), (2, .int s0), (0, va_rf (some h0)), (1, .int v1)]) md_M_choose_48 (by decide) (by first | rfl | (simp [mj_rfc]; done) | (simp [mj_rfc]; rfl)) ?_
        exact mj_lvs [4, 5, 3, 2, 1, 0] rfl H
      · replace H := H2 hx
        refine mj_aload_n 2 md_M_choose_36 rfl ?_
        refine mj_iload_n 1 md_M_choose_37 rfl ?_
        obtain ⟨P, hM, H⟩ := H
        exact mj_callV (n := 1) (As := [.int s0]) rfl hM kc_M ht2 ⟨tw_838, tw_8, tw_841, ⟨by decide, by decide, by decide +kernel⟩, by decide, by decide⟩ tw_840 tp_42 rfl md_M_choose_38 (by first | decide | (simp only [List.map_cons, List.map_nil, List.sum_cons, List.sum_nil, mj_rfc, mj_ci, mj_cl]; done) | (simp only [List.map_cons, List.map_nil, List.sum_cons, List.sum_nil, mj_rfc, mj_ci, mj_cl]; decide)) id (mj_kI (fun x μ' hP e1 e2 => mj_lvs [2, 3, 1, 0] rfl (H x μ' hP e1 e2)))
    · replace H := H2 hx
      refine mj_aload_n 1 md_M_choose_19 rfl ?_
      refine mj_getf (v := va_rf (mj_r μ h0 19)) rfl kc_M 19 (by decide) tw_642 md_M_choose_20 ht2 rfl ?_
      refine mj_iload_n 0 md_M_choose_23 rfl ?_
      obtain ⟨b7, hb8, H⟩ := H
      obtain ⟨ht9, H⟩ := H
      obtain ⟨hi10, H⟩ := H
      refine mj_zald (t := 2) hb8 rfl ht9 hi10 md_M_choose_24 ?_
      obtain ⟨H1, H2⟩ := H
      refine mj_if_ne (tgt := 30) md_M_choose_25 (by decide) (fun hx => ?_) (fun hx => ?_)
      · replace H := H1 hx
        refine mj_iload_n 0 md_M_choose_30 rfl ?_
        refine mj_istn (i := 3) (lv' := [(3, .int s0), (2, .int s0), (0, va_rf (some h0)), (1, .int v1)]) md_M_choose_31 rfl (by decide) (by first | rfl | (simp [mj_rfc]; done) | (simp [mj_rfc]; rfl)) ?_
        refine mj_iload_n 1 md_M_choose_32 rfl ?_
        obtain ⟨H1, H2⟩ := H
        refine mj_if_le (tgt := 44) md_M_choose_33 (by decide) (fun hx => ?_) (fun hx => ?_)
        · replace H := H1 hx
          refine mj_iconst (v := (-1)) md_M_choose_44 (by decide) ?_
          refine mj_istore (lv' := [(4, .int (-1)), (3, .int s0), (2, .int s0), (0, va_rf (some h0)), (1, .int v1)]) md_M_choose_45 (by decide) (by first | rfl | (simp [mj_rfc]; done) | (simp [mj_rfc]; rfl)) ?_
          refine mj_iconst (v := 1) md_M_choose_47 (by decide) ?_
          refine mj_istore (lv' := [(5, .int 1), (4, .int (-1)), (3, .int s0), (2, .int s0), (0, va_rf (some h0)), (1, .int v1)]) md_M_choose_48 (by decide) (by first | rfl | (simp [mj_rfc]; done) | (simp [mj_rfc]; rfl)) ?_
          exact mj_lvs [4, 5, 3, 2, 1, 0] rfl H
        · replace H := H2 hx
          refine mj_aload_n 2 md_M_choose_36 rfl ?_
          refine mj_iload_n 1 md_M_choose_37 rfl ?_
          obtain ⟨P, hM, H⟩ := H
          exact mj_callV (n := 1) (As := [.int s0]) rfl hM kc_M ht2 ⟨tw_838, tw_8, tw_841, ⟨by decide, by decide, by decide +kernel⟩, by decide, by decide⟩ tw_840 tp_42 rfl md_M_choose_38 (by first | decide | (simp only [List.map_cons, List.map_nil, List.sum_cons, List.sum_nil, mj_rfc, mj_ci, mj_cl]; done) | (simp only [List.map_cons, List.map_nil, List.sum_cons, List.sum_nil, mj_rfc, mj_ci, mj_cl]; decide)) id (mj_kI (fun x μ' hP e1 e2 => mj_lvs [2, 3, 1, 0] rfl (H x μ' hP e1 e2)))
      · replace H := H2 hx
        refine mj_iload_n 0 md_M_choose_28 rfl ?_
        exact mj_ireturn md_M_choose_29 rfl rfl H

set_option maxRecDepth 20000 in
theorem bk_M_choose_50 {G : mj_G} {Ex : Option Value → mj_MM → Prop} {N S : Nat} {μ : mj_MM} {h0 : Nat} {v1 : Int32} {v2 : Int32} {v3 : Int32} {v4 : Int32} {v5 : Int32}
    (H : ((mj_t μ h0 = 11) ∧ (((mj_i μ h0 1) < v5 → ((v2 ≤ 0 → ((v3 ≤ 0 → Ex (some (.int v3)) μ) ∧ (¬ v3 ≤ 0 → (∃ b2 : Nat, (mj_r μ h0 11 = some b2) ∧ (mj_t μ b2 = 1000) ∧ (vp_in v3 (mj_n μ b2)) ∧ Ex (some (.int v3)) (mj_pI μ b2 (Int32.toNatClampNeg v3) 2))))) ∧ (¬ v2 ≤ 0 → (∃ b6 : Nat, (mj_r μ h0 19 = some b6) ∧ (mj_t μ b6 = 1002) ∧ (vp_in v2 (mj_n μ b6)) ∧ ∃ b10 : Nat, (mj_r μ h0 11 = some b10) ∧ (mj_t μ b10 = 1000) ∧ (vp_in v2 (mj_n μ b10)) ∧ ((v3 ≤ 0 → Ex (some (.int v3)) (mj_pI (mj_pI μ b6 (Int32.toNatClampNeg v2) 0) b10 (Int32.toNatClampNeg v2) 1)) ∧ (¬ v3 ≤ 0 → ((vp_in v3 (mj_n μ b10)) ∧ Ex (some (.int v3)) (mj_pI (mj_pI (mj_pI μ b6 (Int32.toNatClampNeg v2) 0) b10 (Int32.toNatClampNeg v2) 1) b10 (Int32.toNatClampNeg v3) 2)))))))) ∧ (¬ (mj_i μ h0 1) < v5 → (∃ b15 : Nat, (mj_r μ h0 3 = some b15) ∧ (mj_t μ b15 = 1000) ∧ (vp_in v5 (mj_n μ b15)) ∧ ((¬ (mj_i μ b15 (Int32.toNatClampNeg v5)) = v1 → mj_J G mY_M_choose Ex N S 50 [(0, va_rf (some h0)), (1, .int v1), (2, .int v2), (3, .int v3), (4, .int v4), (5, .int (v5 + 1))] [] μ) ∧ ((mj_i μ b15 (Int32.toNatClampNeg v5)) = v1 → (∃ b19 : Nat, (mj_r μ h0 11 = some b19) ∧ (mj_t μ b19 = 1000) ∧ (vp_in v5 (mj_n μ b19)) ∧ (((mj_i μ b19 (Int32.toNatClampNeg v5)) = 1 → (∃ P : Int32 → mj_MM → Prop, mj_M G my_M_height mY_M_height [va_rf (some h0), .int v5] (mj_nc μ) (mj_ns μ) μ (mj_XI P) ∧ ∀ (x : Int32) (μ' : mj_MM), P x μ' → mj_nc μ' = mj_nc μ → mj_ns μ' = mj_ns μ → mj_J G mY_M_choose Ex N S 90 [(0, va_rf (some h0)), (1, .int v1), (2, .int v2), (3, .int v3), (4, .int v4), (5, .int v5)] [.int x] μ')) ∧ (¬ (mj_i μ b19 (Int32.toNatClampNeg v5)) = 1 → mj_J G mY_M_choose Ex N S 50 [(0, va_rf (some h0)), (1, .int v1), (2, .int v2), (3, .int v3), (4, .int v4), (5, .int (v5 + 1))] [] μ)))))))))) :
    mj_J G mY_M_choose Ex N S 50 [(0, va_rf (some h0)), (1, .int v1), (2, .int v2), (3, .int v3), (4, .int v4), (5, .int v5)] [] μ := by
  refine mj_iload 5 md_M_choose_50 rfl ?_
  refine mj_aload_n 0 md_M_choose_52 rfl ?_
  obtain ⟨ht1, H⟩ := H
  refine mj_getf (v := .int (mj_i μ h0 1)) rfl kc_M 1 (by decide) tw_624 md_M_choose_53 ht1 rfl ?_
  obtain ⟨H1, H2⟩ := H
  refine mj_icmp_gt (tgt := 141) md_M_choose_56 (by decide) (fun hx => ?_) (fun hx => ?_)
  · replace H := H1 hx
    refine mj_iload_n 2 md_M_choose_141 rfl ?_
    obtain ⟨H1, H2⟩ := H
    refine mj_if_le (tgt := 159) md_M_choose_142 (by decide) (fun hx => ?_) (fun hx => ?_)
    · replace H := H1 hx
      refine mj_iload_n 3 md_M_choose_159 rfl ?_
      obtain ⟨H1, H2⟩ := H
      refine mj_if_le (tgt := 170) md_M_choose_160 (by decide) (fun hx => ?_) (fun hx => ?_)
      · replace H := H1 hx
        refine mj_iload_n 3 md_M_choose_170 rfl ?_
        exact mj_ireturn md_M_choose_171 rfl rfl H
      · replace H := H2 hx
        refine mj_aload_n 0 md_M_choose_163 rfl ?_
        refine mj_getf (v := va_rf (mj_r μ h0 11)) rfl kc_M 11 (by decide) tw_634 md_M_choose_164 ht1 rfl ?_
        refine mj_iload_n 3 md_M_choose_167 rfl ?_
        refine mj_iconst (v := 2) md_M_choose_168 (by decide) ?_
        obtain ⟨b2, hb3, H⟩ := H
        obtain ⟨ht4, H⟩ := H
        obtain ⟨hi5, H⟩ := H
        refine mj_iast (t := 0) hb3 rfl ht4 hi5 md_M_choose_169 ?_
        refine mj_iload_n 3 md_M_choose_170 rfl ?_
        exact mj_ireturn md_M_choose_171 rfl rfl H
    · replace H := H2 hx
      refine mj_aload_n 0 md_M_choose_145 rfl ?_
      refine mj_getf (v := va_rf (mj_r μ h0 19)) rfl kc_M 19 (by decide) tw_642 md_M_choose_146 ht1 rfl ?_
      refine mj_iload_n 2 md_M_choose_149 rfl ?_
      refine mj_iconst (v := 0) md_M_choose_150 (by decide) ?_
      obtain ⟨b6, hb7, H⟩ := H
      obtain ⟨ht8, H⟩ := H
      obtain ⟨hi9, H⟩ := H
      refine mj_zast (t := 2) hb7 rfl ht8 hi9 (by decide) md_M_choose_151 ?_
      refine mj_aload_n 0 md_M_choose_152 rfl ?_
      refine mj_getf (v := va_rf (mj_r μ h0 11)) rfl kc_M 11 (by decide) tw_634 md_M_choose_153 ht1 rfl ?_
      refine mj_iload_n 2 md_M_choose_156 rfl ?_
      refine mj_iconst (v := 1) md_M_choose_157 (by decide) ?_
      obtain ⟨b10, hb11, H⟩ := H
      obtain ⟨ht12, H⟩ := H
      obtain ⟨hi13, H⟩ := H
      refine mj_iast (t := 0) hb11 rfl ht12 hi13 md_M_choose_158 ?_
      refine mj_iload_n 3 md_M_choose_159 rfl ?_
      obtain ⟨H1, H2⟩ := H
      refine mj_if_le (tgt := 170) md_M_choose_160 (by decide) (fun hx => ?_) (fun hx => ?_)
      · replace H := H1 hx
        refine mj_iload_n 3 md_M_choose_170 rfl ?_
        exact mj_ireturn md_M_choose_171 rfl rfl H
      · replace H := H2 hx
        refine mj_aload_n 0 md_M_choose_163 rfl ?_
        refine mj_getf (v := va_rf (mj_r μ h0 11)) rfl kc_M 11 (by decide) tw_634 md_M_choose_164 ht1 rfl ?_
        refine mj_iload_n 3 md_M_choose_167 rfl ?_
        refine mj_iconst (v := 2) md_M_choose_168 (by decide) ?_
        obtain ⟨hi14, H⟩ := H
        refine mj_iast (t := 0) hb11 rfl ht12 hi14 md_M_choose_169 ?_
        refine mj_iload_n 3 md_M_choose_170 rfl ?_
        exact mj_ireturn md_M_choose_171 rfl rfl H
  · replace H := H2 hx
    refine mj_aload_n 0 md_M_choose_59 rfl ?_
    refine mj_getf (v := va_rf (mj_r μ h0 3)) rfl kc_M 3 (by decide) tw_626 md_M_choose_60 ht1 rfl ?_
    refine mj_iload 5 md_M_choose_63 rfl ?_
    obtain ⟨b15, hb16, H⟩ := H
    obtain ⟨ht17, H⟩ := H
    obtain ⟨hi18, H⟩ := H
    refine mj_iald (t := 0) hb16 rfl ht17 hi18 md_M_choose_65 ?_
    refine mj_iload_n 1 md_M_choose_66 rfl ?_
    obtain ⟨H1, H2⟩ := H
    refine mj_icmp_ne (tgt := 135) md_M_choose_67 (by decide) (fun hx => ?_) (fun hx => ?_)
    · replace H := H1 hx
      refine mj_iinc (j := 5) (v := v5 + 1) (lv' := [(5, .int (v5 + 1)), (0, va_rf (some h0)), (1, .int v1), (2, .int v2), (3, .int v3), (4, .int v4)]) md_M_choose_135 rfl rfl (by decide) (by first | rfl | (simp [mj_rfc]; done) | (simp [mj_rfc]; rfl)) ?_
      refine mj_goto (tgt := 50) md_M_choose_138 (by decide) ?_
      exact mj_lvs [1, 2, 3, 4, 5, 0] rfl H
    · replace H := H2 hx
      refine mj_aload_n 0 md_M_choose_70 rfl ?_
      refine mj_getf (v := va_rf (mj_r μ h0 11)) rfl kc_M 11 (by decide) tw_634 md_M_choose_71 ht1 rfl ?_
      refine mj_iload 5 md_M_choose_74 rfl ?_
      obtain ⟨b19, hb20, H⟩ := H
      obtain ⟨ht21, H⟩ := H
      obtain ⟨hi22, H⟩ := H
      refine mj_iald (t := 0) hb20 rfl ht21 hi22 md_M_choose_76 ?_
      refine mj_iconst (v := 1) md_M_choose_77 (by decide) ?_
      obtain ⟨H1, H2⟩ := H
      refine mj_icmp_eq (tgt := 84) md_M_choose_78 (by decide) (fun hx => ?_) (fun hx => ?_)
      · replace H := H1 hx
        refine mj_aload_n 0 md_M_choose_84 rfl ?_
        refine mj_iload 5 md_M_choose_85 rfl ?_
        obtain ⟨P, hM, H⟩ := H
        exact mj_callV (n := 1) (As := [.int v5]) rfl hM kc_M ht1 ⟨tw_838, tw_8, tw_841, ⟨by decide, by decide, by decide +kernel⟩, by decide, by decide⟩ tw_840 tp_42 rfl md_M_choose_87 (by first | decide | (simp only [List.map_cons, List.map_nil, List.sum_cons, List.sum_nil, mj_rfc, mj_ci, mj_cl]; done) | (simp only [List.map_cons, List.map_nil, List.sum_cons, List.sum_nil, mj_rfc, mj_ci, mj_cl]; decide)) id (mj_kI (fun x μ' hP e1 e2 => mj_lvs [0, 1, 2, 3, 4, 5] rfl (H x μ' hP e1 e2)))
      · replace H := H2 hx
        refine mj_goto (tgt := 135) md_M_choose_81 (by decide) ?_
        refine mj_iinc (j := 5) (v := v5 + 1) (lv' := [(5, .int (v5 + 1)), (0, va_rf (some h0)), (1, .int v1), (2, .int v2), (3, .int v3), (4, .int v4)]) md_M_choose_135 rfl rfl (by decide) (by first | rfl | (simp [mj_rfc]; done) | (simp [mj_rfc]; rfl)) ?_
        refine mj_goto (tgt := 50) md_M_choose_138 (by decide) ?_
        exact mj_lvs [1, 2, 3, 4, 5, 0] rfl H

set_option maxRecDepth 20000 in
theorem bk_M_choose_41 {G : mj_G} {Ex : Option Value → mj_MM → Prop} {N S : Nat} {μ : mj_MM} {h0 : Nat} {v1 : Int32} {v2 : Int32} {v3 : Int32} {s0 : Int32}
    (H : mj_J G mY_M_choose Ex N S 50 [(0, va_rf (some h0)), (1, .int v1), (2, .int v2), (3, .int v3), (4, .int s0), (5, .int 1)] [] μ) :
    mj_J G mY_M_choose Ex N S 41 [(0, va_rf (some h0)), (1, .int v1), (2, .int v2), (3, .int v3)] [.int s0] μ := by
  refine mj_goto (tgt := 45) md_M_choose_41 (by decide) ?_
  refine mj_istore (lv' := [(4, .int s0), (0, va_rf (some h0)), (1, .int v1), (2, .int v2), (3, .int v3)]) md_M_choose_45 (by decide) (by first | rfl | (simp [mj_rfc]; done) | (simp [mj_rfc]; rfl)) ?_
  refine mj_iconst (v := 1) md_M_choose_47 (by decide) ?_
  refine mj_istore (lv' := [(5, .int 1), (4, .int s0), (0, va_rf (some h0)), (1, .int v1), (2, .int v2), (3, .int v3)]) md_M_choose_48 (by decide) (by first | rfl | (simp [mj_rfc]; done) | (simp [mj_rfc]; rfl)) ?_
  exact mj_lvs [2, 3, 4, 5, 1, 0] rfl H

set_option maxRecDepth 20000 in
theorem bk_M_choose_90 {G : mj_G} {Ex : Option Value → mj_MM → Prop} {N S : Nat} {μ : mj_MM} {h0 : Nat} {v1 : Int32} {v2 : Int32} {v3 : Int32} {v4 : Int32} {v5 : Int32} {s0 : Int32}
    (H : ((v4 < s0 → mj_J G mY_M_choose Ex N S 50 [(0, va_rf (some h0)), (1, .int v1), (2, .int v2), (3, .int v5), (4, .int s0), (5, .int (v5 + 1))] [] μ) ∧ (¬ v4 < s0 → ((¬ s0 = v4 → mj_J G mY_M_choose Ex N S 50 [(0, va_rf (some h0)), (1, .int v1), (2, .int v2), (3, .int v3), (4, .int v4), (5, .int (v5 + 1))] [] μ) ∧ (s0 = v4 → ((v3 = v2 → mj_J G mY_M_choose Ex N S 50 [(0, va_rf (some h0)), (1, .int v1), (2, .int v2), (3, .int v3), (4, .int v4), (5, .int (v5 + 1))] [] μ) ∧ (¬ v3 = v2 → ((mj_t μ h0 = 11) ∧ ∃ b2 : Nat, (mj_r μ h0 12 = some b2) ∧ (mj_t μ b2 = 1001) ∧ (vp_in v5 (mj_n μ b2)) ∧ (vp_in v3 (mj_n μ b2)) ∧ (((mj_l μ b2 (Int32.toNatClampNeg v3)) ≤ (mj_l μ b2 (Int32.toNatClampNeg v5)) → mj_J G mY_M_choose Ex N S 50 [(0, va_rf (some h0)), (1, .int v1), (2, .int v2), (3, .int v3), (4, .int v4), (5, .int (v5 + 1))] [] μ) ∧ (¬ (mj_l μ b2 (Int32.toNatClampNeg v3)) ≤ (mj_l μ b2 (Int32.toNatClampNeg v5)) → mj_J G mY_M_choose Ex N S 50 [(0, va_rf (some h0)), (1, .int v1), (2, .int v2), (3, .int v5), (4, .int s0), (5, .int (v5 + 1))] [] μ)))))))))) :
    mj_J G mY_M_choose Ex N S 90 [(0, va_rf (some h0)), (1, .int v1), (2, .int v2), (3, .int v3), (4, .int v4), (5, .int v5)] [.int s0] μ := by
  refine mj_istore (lv' := [(6, .int s0), (0, va_rf (some h0)), (1, .int v1), (2, .int v2), (3, .int v3), (4, .int v4), (5, .int v5)]) md_M_choose_90 (by decide) (by first | rfl | (simp [mj_rfc]; done) | (simp [mj_rfc]; rfl)) ?_
  refine mj_iload 0 md_M_choose_92 rfl ?_
  refine mj_iload 5 md_M_choose_94 rfl ?_
  obtain ⟨H1, H2⟩ := H
  refine mj_icmp_gt (tgt := 128) md_M_choose_96 (by decide) (fun hx => ?_) (fun hx => ?_)
  · replace H := H1 hx
    refine mj_iload 6 md_M_choose_128 rfl ?_
    refine mj_istn (i := 3) (lv' := [(3, .int v5), (6, .int s0), (0, va_rf (some h0)), (1, .int v1), (2, .int v2), (4, .int v4), (5, .int v5)]) md_M_choose_130 rfl (by decide) (by first | rfl | (simp [mj_rfc]; done) | (simp [mj_rfc]; rfl)) ?_
    refine mj_iload 1 md_M_choose_131 rfl ?_
    refine mj_istore (lv' := [(4, .int s0), (3, .int v5), (6, .int s0), (0, va_rf (some h0)), (1, .int v1), (2, .int v2), (5, .int v5)]) md_M_choose_133 (by decide) (by first | rfl | (simp [mj_rfc]; done) | (simp [mj_rfc]; rfl)) ?_
    refine mj_iinc (j := 6) (v := v5 + 1) (lv' := [(5, .int (v5 + 1)), (4, .int s0), (3, .int v5), (6, .int s0), (0, va_rf (some h0)), (1, .int v1), (2, .int v2)]) md_M_choose_135 rfl rfl (by decide) (by first | rfl | (simp [mj_rfc]; done) | (simp [mj_rfc]; rfl)) ?_
    refine mj_goto (tgt := 50) md_M_choose_138 (by decide) ?_
    exact mj_lvs [4, 5, 6, 2, 1, 0] rfl H
  · replace H := H2 hx
    refine mj_iload 0 md_M_choose_99 rfl ?_
    refine mj_iload 5 md_M_choose_101 rfl ?_
    obtain ⟨H1, H2⟩ := H
    refine mj_icmp_ne (tgt := 135) md_M_choose_103 (by decide) (fun hx => ?_) (fun hx => ?_)
    · replace H := H1 hx
      refine mj_iinc (j := 6) (v := v5 + 1) (lv' := [(5, .int (v5 + 1)), (6, .int s0), (0, va_rf (some h0)), (1, .int v1), (2, .int v2), (3, .int v3), (4, .int v4)]) md_M_choose_135 rfl rfl (by decide) (by first | rfl | (simp [mj_rfc]; done) | (simp [mj_rfc]; rfl)) ?_
      refine mj_goto (tgt := 50) md_M_choose_138 (by decide) ?_
      exact mj_lvs [2, 3, 4, 5, 6, 0] rfl H
    · replace H := H2 hx
      refine mj_iload_n 4 md_M_choose_106 rfl ?_
      refine mj_iload_n 3 md_M_choose_107 rfl ?_
      obtain ⟨H1, H2⟩ := H
      refine mj_icmp_eq (tgt := 135) md_M_choose_108 (by decide) (fun hx => ?_) (fun hx => ?_)
      · replace H := H1 hx
        refine mj_iinc (j := 6) (v := v5 + 1) (lv' := [(5, .int (v5 + 1)), (6, .int s0), (0, va_rf (some h0)), (1, .int v1), (2, .int v2), (3, .int v3), (4, .int v4)]) md_M_choose_135 rfl rfl (by decide) (by first | rfl | (simp [mj_rfc]; done) | (simp [mj_rfc]; rfl)) ?_
        refine mj_goto (tgt := 50) md_M_choose_138 (by decide) ?_
        exact mj_lvs [2, 3, 4, 5, 6, 0] rfl H
      · replace H := H2 hx
        refine mj_aload_n 1 md_M_choose_111 rfl ?_
        obtain ⟨ht1, H⟩ := H
        refine mj_getf (v := va_rf (mj_r μ h0 12)) rfl kc_M 12 (by decide) tw_635 md_M_choose_112 ht1 rfl ?_
        refine mj_iload 6 md_M_choose_115 rfl ?_
        obtain ⟨b2, hb3, H⟩ := H
        obtain ⟨ht4, H⟩ := H
        obtain ⟨hi5, H⟩ := H
        refine mj_lald (t := 1) hb3 rfl ht4 hi5 md_M_choose_117 ?_
        refine mj_aload_n 1 md_M_choose_118 rfl ?_
        refine mj_getf (v := va_rf (mj_r μ h0 12)) rfl kc_M 12 (by decide) tw_635 md_M_choose_119 ht1 rfl ?_
        refine mj_iload_n 4 md_M_choose_122 rfl ?_
        obtain ⟨hi6, H⟩ := H
        refine mj_lald (t := 1) hb3 rfl ht4 hi6 md_M_choose_123 ?_
        refine mj_lcmp md_M_choose_124 ?_
        obtain ⟨H1, H2⟩ := H
        refine mj_if_ge (tgt := 135) md_M_choose_125 (by decide) (fun hx => ?_) (fun hx => ?_)
        · replace H := H1 ((lg_cmp_ge (mj_l μ b2 (Int32.toNatClampNeg v5)) (mj_l μ b2 (Int32.toNatClampNeg v3))).mp hx)
          refine mj_iinc (j := 6) (v := v5 + 1) (lv' := [(5, .int (v5 + 1)), (6, .int s0), (0, va_rf (some h0)), (1, .int v1), (2, .int v2), (3, .int v3), (4, .int v4)]) md_M_choose_135 rfl rfl (by decide) (by first | rfl | (simp [mj_rfc]; done) | (simp [mj_rfc]; rfl)) ?_
          refine mj_goto (tgt := 50) md_M_choose_138 (by decide) ?_
          exact mj_lvs [2, 3, 4, 5, 6, 0] rfl H
        · replace H := H2 (fun hy => hx ((lg_cmp_ge (mj_l μ b2 (Int32.toNatClampNeg v5)) (mj_l μ b2 (Int32.toNatClampNeg v3))).mpr hy))
          refine mj_iload 6 md_M_choose_128 rfl ?_
          refine mj_istn (i := 3) (lv' := [(3, .int v5), (6, .int s0), (0, va_rf (some h0)), (1, .int v1), (2, .int v2), (4, .int v4), (5, .int v5)]) md_M_choose_130 rfl (by decide) (by first | rfl | (simp [mj_rfc]; done) | (simp [mj_rfc]; rfl)) ?_
          refine mj_iload 1 md_M_choose_131 rfl ?_
          refine mj_istore (lv' := [(4, .int s0), (3, .int v5), (6, .int s0), (0, va_rf (some h0)), (1, .int v1), (2, .int v2), (5, .int v5)]) md_M_choose_133 (by decide) (by first | rfl | (simp [mj_rfc]; done) | (simp [mj_rfc]; rfl)) ?_
          refine mj_iinc (j := 6) (v := v5 + 1) (lv' := [(5, .int (v5 + 1)), (4, .int s0), (3, .int v5), (6, .int s0), (0, va_rf (some h0)), (1, .int v1), (2, .int v2)]) md_M_choose_135 rfl rfl (by decide) (by first | rfl | (simp [mj_rfc]; done) | (simp [mj_rfc]; rfl)) ?_
          refine mj_goto (tgt := 50) md_M_choose_138 (by decide) ?_
          exact mj_lvs [4, 5, 6, 2, 1, 0] rfl H

set_option maxRecDepth 20000 in
theorem bk_M_atHand_0 {G : mj_G} {Ex : Option Value → mj_MM → Prop} {N S : Nat} {μ : mj_MM} {h0 : Nat}
    (H : mj_J G mY_M_atHand Ex N S 4 [(0, va_rf (some h0)), (1, .int (-1)), (2, .int 0)] [] μ) :
    mj_J G mY_M_atHand Ex N S 0 [(0, va_rf (some h0))] [] μ := by
  refine mj_iconst (v := (-1)) md_M_atHand_0 (by decide) ?_
  refine mj_istn (i := 1) (lv' := [(1, .int (-1)), (0, va_rf (some h0))]) md_M_atHand_1 rfl (by decide) (by first | rfl | (simp [mj_rfc]; done) | (simp [mj_rfc]; rfl)) ?_
  refine mj_iconst (v := 0) md_M_atHand_2 (by decide) ?_
  refine mj_istn (i := 2) (lv' := [(2, .int 0), (1, .int (-1)), (0, va_rf (some h0))]) md_M_atHand_3 rfl (by decide) (by first | rfl | (simp [mj_rfc]; done) | (simp [mj_rfc]; rfl)) ?_
  exact mj_lvs [2, 1, 0] rfl H

set_option maxRecDepth 20000 in
theorem bk_M_atHand_4 {G : mj_G} {Ex : Option Value → mj_MM → Prop} {N S : Nat} {μ : mj_MM} {h0 : Nat} {v1 : Int32} {v2 : Int32}
    (H : ((mj_t μ h0 = 11) ∧ (((mj_i μ h0 35) ≤ v2 → Ex (some (.int v1)) μ) ∧ (¬ (mj_i μ h0 35) ≤ v2 → (∃ b2 : Nat, (mj_r μ h0 37 = some b2) ∧ (mj_t μ b2 = 1001) ∧ (vp_in v2 (mj_n μ b2)) ∧ (((mj_l μ h0 43) < (mj_l μ b2 (Int32.toNatClampNeg v2)) → mj_J G mY_M_atHand Ex N S 4 [(0, va_rf (some h0)), (1, .int v1), (2, .int (v2 + 1))] [] μ) ∧ (¬ (mj_l μ h0 43) < (mj_l μ b2 (Int32.toNatClampNeg v2)) → (∃ b6 : Nat, (mj_r μ h0 38 = some b6) ∧ (mj_t μ b6 = 1001) ∧ (vp_in v2 (mj_n μ b6)) ∧ (((mj_l μ b6 (Int32.toNatClampNeg v2)) ≤ 0 → mj_J G mY_M_atHand Ex N S 4 [(0, va_rf (some h0)), (1, .int v1), (2, .int (v2 + 1))] [] μ) ∧ (¬ (mj_l μ b6 (Int32.toNatClampNeg v2)) ≤ 0 → (∃ b10 : Nat, (mj_r μ h0 36 = some b10) ∧ (mj_t μ b10 = 1000) ∧ (vp_in v2 (mj_n μ b10)) ∧ ((7 < (mj_i μ b10 (Int32.toNatClampNeg v2)) → ((v1 < 0 → mj_J G mY_M_atHand Ex N S 4 [(0, va_rf (some h0)), (1, .int v2), (2, .int (v2 + 1))] [] μ) ∧ (¬ v1 < 0 → ((vp_in v2 (mj_n μ b10)) ∧ (vp_in v1 (mj_n μ b10)) ∧ (((mj_i μ b10 (Int32.toNatClampNeg v2)) ≤ (mj_i μ b10 (Int32.toNatClampNeg v1)) → mj_J G mY_M_atHand Ex N S 4 [(0, va_rf (some h0)), (1, .int v1), (2, .int (v2 + 1))] [] μ) ∧ (¬ (mj_i μ b10 (Int32.toNatClampNeg v2)) ≤ (mj_i μ b10 (Int32.toNatClampNeg v1)) → mj_J G mY_M_atHand Ex N S 4 [(0, va_rf (some h0)), (1, .int v2), (2, .int (v2 + 1))] [] μ)))))) ∧ (¬ 7 < (mj_i μ b10 (Int32.toNatClampNeg v2)) → ((¬ (mj_i μ h0 29) = 0 → mj_J G mY_M_atHand Ex N S 4 [(0, va_rf (some h0)), (1, .int v1), (2, .int (v2 + 1))] [] μ) ∧ ((mj_i μ h0 29) = 0 → ((v1 < 0 → mj_J G mY_M_atHand Ex N S 4 [(0, va_rf (some h0)), (1, .int v2), (2, .int (v2 + 1))] [] μ) ∧ (¬ v1 < 0 → ((vp_in v2 (mj_n μ b10)) ∧ (vp_in v1 (mj_n μ b10)) ∧ (((mj_i μ b10 (Int32.toNatClampNeg v2)) ≤ (mj_i μ b10 (Int32.toNatClampNeg v1)) → mj_J G mY_M_atHand Ex N S 4 [(0, va_rf (some h0)), (1, .int v1), (2, .int (v2 + 1))] [] μ) ∧ (¬ (mj_i μ b10 (Int32.toNatClampNeg v2)) ≤ (mj_i μ b10 (Int32.toNatClampNeg v1)) → mj_J G mY_M_atHand Ex N S 4 [(0, va_rf (some h0)), (1, .int v2), (2, .int (v2 + 1))] [] μ)))))))))))))))))))) :
    mj_J G mY_M_atHand Ex N S 4 [(0, va_rf (some h0)), (1, .int v1), (2, .int v2)] [] μ := by
  refine mj_iload_n 2 md_M_atHand_4 rfl ?_
  refine mj_aload_n 0 md_M_atHand_5 rfl ?_
  obtain ⟨ht1, H⟩ := H
  refine mj_getf (v := .int (mj_i μ h0 35)) rfl kc_M 35 (by decide) tw_658 md_M_atHand_6 ht1 rfl ?_
  obtain ⟨H1, H2⟩ := H
  refine mj_icmp_ge (tgt := 92) md_M_atHand_9 (by decide) (fun hx => ?_) (fun hx => ?_)
  · replace H := H1 hx
    refine mj_iload_n 1 md_M_atHand_92 rfl ?_
    exact mj_ireturn md_M_atHand_93 rfl rfl H
  · replace H := H2 hx
    refine mj_aload_n 0 md_M_atHand_12 rfl ?_
    refine mj_getf (v := va_rf (mj_r μ h0 37)) rfl kc_M 37 (by decide) tw_660 md_M_atHand_13 ht1 rfl ?_
    refine mj_iload_n 2 md_M_atHand_16 rfl ?_
    obtain ⟨b2, hb3, H⟩ := H
    obtain ⟨ht4, H⟩ := H
    obtain ⟨hi5, H⟩ := H
    refine mj_lald (t := 1) hb3 rfl ht4 hi5 md_M_atHand_17 ?_
    refine mj_aload_n 0 md_M_atHand_18 rfl ?_
    refine mj_getf (v := .long (mj_l μ h0 43)) rfl kc_M 43 (by decide) tw_666 md_M_atHand_19 ht1 rfl ?_
    refine mj_lcmp md_M_atHand_22 ?_
    obtain ⟨H1, H2⟩ := H
    refine mj_if_gt (tgt := 59) md_M_atHand_23 (by decide) (fun hx => ?_) (fun hx => ?_)
    · replace H := H1 ((lg_cmp_gt (mj_l μ b2 (Int32.toNatClampNeg v2)) (mj_l μ h0 43)).mp hx)
      refine mj_iconst (v := 0) md_M_atHand_59 (by decide) ?_
      refine mj_istn (i := 3) (lv' := [(3, .int 0), (0, va_rf (some h0)), (1, .int v1), (2, .int v2)]) md_M_atHand_60 rfl (by decide) (by first | rfl | (simp [mj_rfc]; done) | (simp [mj_rfc]; rfl)) ?_
      refine mj_iload_n 0 md_M_atHand_61 rfl ?_
      refine mj_if_eq (tgt := 86) md_M_atHand_62 (by decide) (fun _ => ?_) (fun hx => absurd hx (by decide))
      refine mj_iinc (j := 3) (v := v2 + 1) (lv' := [(2, .int (v2 + 1)), (3, .int 0), (0, va_rf (some h0)), (1, .int v1)]) md_M_atHand_86 rfl rfl (by decide) (by first | rfl | (simp [mj_rfc]; done) | (simp [mj_rfc]; rfl)) ?_
      refine mj_goto (tgt := 4) md_M_atHand_89 (by decide) ?_
      exact mj_lvs [2, 3, 0] rfl H
    · replace H := H2 (fun hy => hx ((lg_cmp_gt (mj_l μ b2 (Int32.toNatClampNeg v2)) (mj_l μ h0 43)).mpr hy))
      refine mj_aload_n 0 md_M_atHand_26 rfl ?_
      refine mj_getf (v := va_rf (mj_r μ h0 38)) rfl kc_M 38 (by decide) tw_661 md_M_atHand_27 ht1 rfl ?_
      refine mj_iload_n 2 md_M_atHand_30 rfl ?_
      obtain ⟨b6, hb7, H⟩ := H
      obtain ⟨ht8, H⟩ := H
      obtain ⟨hi9, H⟩ := H
      refine mj_lald (t := 1) hb7 rfl ht8 hi9 md_M_atHand_31 ?_
      refine mj_lconst (v := 0) md_M_atHand_32 (by decide) ?_
      refine mj_lcmp md_M_atHand_33 ?_
      obtain ⟨H1, H2⟩ := H
      refine mj_if_le (tgt := 59) md_M_atHand_34 (by decide) (fun hx => ?_) (fun hx => ?_)
      · replace H := H1 ((lg_cmp_le (mj_l μ b6 (Int32.toNatClampNeg v2)) 0).mp hx)
        refine mj_iconst (v := 0) md_M_atHand_59 (by decide) ?_
        refine mj_istn (i := 3) (lv' := [(3, .int 0), (0, va_rf (some h0)), (1, .int v1), (2, .int v2)]) md_M_atHand_60 rfl (by decide) (by first | rfl | (simp [mj_rfc]; done) | (simp [mj_rfc]; rfl)) ?_
        refine mj_iload_n 0 md_M_atHand_61 rfl ?_
        refine mj_if_eq (tgt := 86) md_M_atHand_62 (by decide) (fun _ => ?_) (fun hx => absurd hx (by decide))
        refine mj_iinc (j := 3) (v := v2 + 1) (lv' := [(2, .int (v2 + 1)), (3, .int 0), (0, va_rf (some h0)), (1, .int v1)]) md_M_atHand_86 rfl rfl (by decide) (by first | rfl | (simp [mj_rfc]; done) | (simp [mj_rfc]; rfl)) ?_
        refine mj_goto (tgt := 4) md_M_atHand_89 (by decide) ?_
        exact mj_lvs [2, 3, 0] rfl H
      · replace H := H2 (fun hy => hx ((lg_cmp_le (mj_l μ b6 (Int32.toNatClampNeg v2)) 0).mpr hy))
        refine mj_aload_n 0 md_M_atHand_37 rfl ?_
        refine mj_getf (v := va_rf (mj_r μ h0 36)) rfl kc_M 36 (by decide) tw_659 md_M_atHand_38 ht1 rfl ?_
        refine mj_iload_n 2 md_M_atHand_41 rfl ?_
        obtain ⟨b10, hb11, H⟩ := H
        obtain ⟨ht12, H⟩ := H
        obtain ⟨hi13, H⟩ := H
        refine mj_iald (t := 0) hb11 rfl ht12 hi13 md_M_atHand_42 ?_
        refine mj_bipush (v := 7) md_M_atHand_43 (by decide) ?_
        obtain ⟨H1, H2⟩ := H
        refine mj_icmp_gt (tgt := 55) md_M_atHand_45 (by decide) (fun hx => ?_) (fun hx => ?_)
        · replace H := H1 hx
          refine mj_iconst (v := 1) md_M_atHand_55 (by decide) ?_
          refine mj_goto (tgt := 60) md_M_atHand_56 (by decide) ?_
          refine mj_istn (i := 3) (lv' := [(3, .int 1), (0, va_rf (some h0)), (1, .int v1), (2, .int v2)]) md_M_atHand_60 rfl (by decide) (by first | rfl | (simp [mj_rfc]; done) | (simp [mj_rfc]; rfl)) ?_
          refine mj_iload_n 0 md_M_atHand_61 rfl ?_
          refine mj_if_eq (tgt := 86) md_M_atHand_62 (by decide) (fun hx => absurd hx (by decide)) (fun _ => ?_)
          refine mj_iload_n 2 md_M_atHand_65 rfl ?_
          obtain ⟨H1, H2⟩ := H
          refine mj_if_lt (tgt := 84) md_M_atHand_66 (by decide) (fun hx => ?_) (fun hx => ?_)
          · replace H := H1 hx
            refine mj_iload_n 3 md_M_atHand_84 rfl ?_
            refine mj_istn (i := 1) (lv' := [(1, .int v2), (3, .int 1), (0, va_rf (some h0)), (2, .int v2)]) md_M_atHand_85 rfl (by decide) (by first | rfl | (simp [mj_rfc]; done) | (simp [mj_rfc]; rfl)) ?_
            refine mj_iinc (j := 3) (v := v2 + 1) (lv' := [(2, .int (v2 + 1)), (1, .int v2), (3, .int 1), (0, va_rf (some h0))]) md_M_atHand_86 rfl rfl (by decide) (by first | rfl | (simp [mj_rfc]; done) | (simp [mj_rfc]; rfl)) ?_
            refine mj_goto (tgt := 4) md_M_atHand_89 (by decide) ?_
            exact mj_lvs [3, 1, 0] rfl H
          · replace H := H2 hx
            refine mj_aload_n 1 md_M_atHand_69 rfl ?_
            refine mj_getf (v := va_rf (mj_r μ h0 36)) rfl kc_M 36 (by decide) tw_659 md_M_atHand_70 ht1 rfl ?_
            refine mj_iload_n 3 md_M_atHand_73 rfl ?_
            obtain ⟨hi14, H⟩ := H
            refine mj_iald (t := 0) hb11 rfl ht12 hi14 md_M_atHand_74 ?_
            refine mj_aload_n 1 md_M_atHand_75 rfl ?_
            refine mj_getf (v := va_rf (mj_r μ h0 36)) rfl kc_M 36 (by decide) tw_659 md_M_atHand_76 ht1 rfl ?_
            refine mj_iload_n 2 md_M_atHand_79 rfl ?_
            obtain ⟨hi15, H⟩ := H
            refine mj_iald (t := 0) hb11 rfl ht12 hi15 md_M_atHand_80 ?_
            obtain ⟨H1, H2⟩ := H
            refine mj_icmp_le (tgt := 86) md_M_atHand_81 (by decide) (fun hx => ?_) (fun hx => ?_)
            · replace H := H1 hx
              refine mj_iinc (j := 3) (v := v2 + 1) (lv' := [(2, .int (v2 + 1)), (3, .int 1), (0, va_rf (some h0)), (1, .int v1)]) md_M_atHand_86 rfl rfl (by decide) (by first | rfl | (simp [mj_rfc]; done) | (simp [mj_rfc]; rfl)) ?_
              refine mj_goto (tgt := 4) md_M_atHand_89 (by decide) ?_
              exact mj_lvs [2, 3, 0] rfl H
            · replace H := H2 hx
              refine mj_iload_n 3 md_M_atHand_84 rfl ?_
              refine mj_istn (i := 1) (lv' := [(1, .int v2), (3, .int 1), (0, va_rf (some h0)), (2, .int v2)]) md_M_atHand_85 rfl (by decide) (by first | rfl | (simp [mj_rfc]; done) | (simp [mj_rfc]; rfl)) ?_
              refine mj_iinc (j := 3) (v := v2 + 1) (lv' := [(2, .int (v2 + 1)), (1, .int v2), (3, .int 1), (0, va_rf (some h0))]) md_M_atHand_86 rfl rfl (by decide) (by first | rfl | (simp [mj_rfc]; done) | (simp [mj_rfc]; rfl)) ?_
              refine mj_goto (tgt := 4) md_M_atHand_89 (by decide) ?_
              exact mj_lvs [3, 1, 0] rfl H
        · replace H := H2 hx
          refine mj_aload_n 0 md_M_atHand_48 rfl ?_
          refine mj_getf (v := .int (mj_i μ h0 29)) rfl kc_M 29 (by decide) tw_652 md_M_atHand_49 ht1 rfl ?_
          obtain ⟨H1, H2⟩ := H
          refine mj_if_ne (tgt := 59) md_M_atHand_52 (by decide) (fun hx => ?_) (fun hx => ?_)
          · replace H := H1 hx
            refine mj_iconst (v := 0) md_M_atHand_59 (by decide) ?_
            refine mj_istn (i := 3) (lv' := [(3, .int 0), (0, va_rf (some h0)), (1, .int v1), (2, .int v2)]) md_M_atHand_60 rfl (by decide) (by first | rfl | (simp [mj_rfc]; done) | (simp [mj_rfc]; rfl)) ?_
            refine mj_iload_n 0 md_M_atHand_61 rfl ?_
            refine mj_if_eq (tgt := 86) md_M_atHand_62 (by decide) (fun _ => ?_) (fun hx => absurd hx (by decide))
            refine mj_iinc (j := 3) (v := v2 + 1) (lv' := [(2, .int (v2 + 1)), (3, .int 0), (0, va_rf (some h0)), (1, .int v1)]) md_M_atHand_86 rfl rfl (by decide) (by first | rfl | (simp [mj_rfc]; done) | (simp [mj_rfc]; rfl)) ?_
            refine mj_goto (tgt := 4) md_M_atHand_89 (by decide) ?_
            exact mj_lvs [2, 3, 0] rfl H
          · replace H := H2 hx
            refine mj_iconst (v := 1) md_M_atHand_55 (by decide) ?_
            refine mj_goto (tgt := 60) md_M_atHand_56 (by decide) ?_
            refine mj_istn (i := 3) (lv' := [(3, .int 1), (0, va_rf (some h0)), (1, .int v1), (2, .int v2)]) md_M_atHand_60 rfl (by decide) (by first | rfl | (simp [mj_rfc]; done) | (simp [mj_rfc]; rfl)) ?_
            refine mj_iload_n 0 md_M_atHand_61 rfl ?_
            refine mj_if_eq (tgt := 86) md_M_atHand_62 (by decide) (fun hx => absurd hx (by decide)) (fun _ => ?_)
            refine mj_iload_n 2 md_M_atHand_65 rfl ?_
            obtain ⟨H1, H2⟩ := H
            refine mj_if_lt (tgt := 84) md_M_atHand_66 (by decide) (fun hx => ?_) (fun hx => ?_)
            · replace H := H1 hx
              refine mj_iload_n 3 md_M_atHand_84 rfl ?_
              refine mj_istn (i := 1) (lv' := [(1, .int v2), (3, .int 1), (0, va_rf (some h0)), (2, .int v2)]) md_M_atHand_85 rfl (by decide) (by first | rfl | (simp [mj_rfc]; done) | (simp [mj_rfc]; rfl)) ?_
              refine mj_iinc (j := 3) (v := v2 + 1) (lv' := [(2, .int (v2 + 1)), (1, .int v2), (3, .int 1), (0, va_rf (some h0))]) md_M_atHand_86 rfl rfl (by decide) (by first | rfl | (simp [mj_rfc]; done) | (simp [mj_rfc]; rfl)) ?_
              refine mj_goto (tgt := 4) md_M_atHand_89 (by decide) ?_
              exact mj_lvs [3, 1, 0] rfl H
            · replace H := H2 hx
              refine mj_aload_n 1 md_M_atHand_69 rfl ?_
              refine mj_getf (v := va_rf (mj_r μ h0 36)) rfl kc_M 36 (by decide) tw_659 md_M_atHand_70 ht1 rfl ?_
              refine mj_iload_n 3 md_M_atHand_73 rfl ?_
              obtain ⟨hi16, H⟩ := H
              refine mj_iald (t := 0) hb11 rfl ht12 hi16 md_M_atHand_74 ?_
              refine mj_aload_n 1 md_M_atHand_75 rfl ?_
              refine mj_getf (v := va_rf (mj_r μ h0 36)) rfl kc_M 36 (by decide) tw_659 md_M_atHand_76 ht1 rfl ?_
              refine mj_iload_n 2 md_M_atHand_79 rfl ?_
              obtain ⟨hi17, H⟩ := H
              refine mj_iald (t := 0) hb11 rfl ht12 hi17 md_M_atHand_80 ?_
              obtain ⟨H1, H2⟩ := H
              refine mj_icmp_le (tgt := 86) md_M_atHand_81 (by decide) (fun hx => ?_) (fun hx => ?_)
              · replace H := H1 hx
                refine mj_iinc (j := 3) (v := v2 + 1) (lv' := [(2, .int (v2 + 1)), (3, .int 1), (0, va_rf (some h0)), (1, .int v1)]) md_M_atHand_86 rfl rfl (by decide) (by first | rfl | (simp [mj_rfc]; done) | (simp [mj_rfc]; rfl)) ?_
                refine mj_goto (tgt := 4) md_M_atHand_89 (by decide) ?_
                exact mj_lvs [2, 3, 0] rfl H
              · replace H := H2 hx
                refine mj_iload_n 3 md_M_atHand_84 rfl ?_
                refine mj_istn (i := 1) (lv' := [(1, .int v2), (3, .int 1), (0, va_rf (some h0)), (2, .int v2)]) md_M_atHand_85 rfl (by decide) (by first | rfl | (simp [mj_rfc]; done) | (simp [mj_rfc]; rfl)) ?_
                refine mj_iinc (j := 3) (v := v2 + 1) (lv' := [(2, .int (v2 + 1)), (1, .int v2), (3, .int 1), (0, va_rf (some h0))]) md_M_atHand_86 rfl rfl (by decide) (by first | rfl | (simp [mj_rfc]; done) | (simp [mj_rfc]; rfl)) ?_
                refine mj_goto (tgt := 4) md_M_atHand_89 (by decide) ?_
                exact mj_lvs [3, 1, 0] rfl H

set_option maxRecDepth 20000 in
theorem bk_M_step_0 {G : mj_G} {Ex : Option Value → mj_MM → Prop} {N S : Nat} {μ : mj_MM} {h0 : Nat} {v1 : Int32}
    (H : ((¬ v1 = 0 → ((mj_t μ h0 = 11) ∧ (∃ P : Int32 → mj_MM → Prop, mj_M G my_M_choose mY_M_choose [va_rf (some h0), .int v1] (mj_nc μ) (mj_ns μ) μ (mj_XI P) ∧ ∀ (x : Int32) (μ' : mj_MM), P x μ' → mj_nc μ' = mj_nc μ → mj_ns μ' = mj_ns μ → mj_J G mY_M_step Ex N S 18 [(0, va_rf (some h0))] [.int x] μ'))) ∧ (v1 = 0 → ((mj_t μ h0 = 11) ∧ (∃ P : Int32 → mj_MM → Prop, mj_M G my_M_atHand mY_M_atHand [va_rf (some h0)] (mj_nc μ) (mj_ns μ) μ (mj_XI P) ∧ ∀ (x : Int32) (μ' : mj_MM), P x μ' → mj_nc μ' = mj_nc μ → mj_ns μ' = mj_ns μ → mj_J G mY_M_step Ex N S 8 [(0, va_rf (some h0)), (1, .int v1)] [.int x] μ'))))) :
    mj_J G mY_M_step Ex N S 0 [(0, va_rf (some h0)), (1, .int v1)] [] μ := by
  refine mj_iload_n 1 md_M_step_0 rfl ?_
  obtain ⟨H1, H2⟩ := H
  refine mj_if_ne (tgt := 13) md_M_step_1 (by decide) (fun hx => ?_) (fun hx => ?_)
  · replace H := H1 hx
    refine mj_aload_n 0 md_M_step_13 rfl ?_
    refine mj_iload_n 1 md_M_step_14 rfl ?_
    obtain ⟨ht1, H⟩ := H
    obtain ⟨P, hM, H⟩ := H
    exact mj_callV (n := 1) (As := [.int v1]) rfl hM kc_M ht1 ⟨tw_830, tw_8, tw_833, ⟨by decide, by decide, by decide +kernel⟩, by decide, by decide⟩ tw_832 tp_40 rfl md_M_step_15 (by first | decide | (simp only [List.map_cons, List.map_nil, List.sum_cons, List.sum_nil, mj_rfc, mj_ci, mj_cl]; done) | (simp only [List.map_cons, List.map_nil, List.sum_cons, List.sum_nil, mj_rfc, mj_ci, mj_cl]; decide)) id (mj_kI (fun x μ' hP e1 e2 => mj_lvs [0] rfl (H x μ' hP e1 e2)))
  · replace H := H2 hx
    refine mj_aload_n 0 md_M_step_4 rfl ?_
    obtain ⟨ht2, H⟩ := H
    obtain ⟨P, hM, H⟩ := H
    exact mj_callV (n := 0) (As := []) rfl hM kc_M ht2 ⟨tw_826, tw_8, tw_829, ⟨by decide, by decide, by decide +kernel⟩, by decide, by decide⟩ tw_828 tp_39 rfl md_M_step_5 (by first | decide | (simp only [List.map_cons, List.map_nil, List.sum_cons, List.sum_nil, mj_rfc, mj_ci, mj_cl]; done) | (simp only [List.map_cons, List.map_nil, List.sum_cons, List.sum_nil, mj_rfc, mj_ci, mj_cl]; decide)) id (mj_kI (fun x μ' hP e1 e2 => mj_lvs [0, 1] rfl (H x μ' hP e1 e2)))

set_option maxRecDepth 20000 in
theorem bk_M_step_18 {G : mj_G} {Ex : Option Value → mj_MM → Prop} {N S : Nat} {μ : mj_MM} {h0 : Nat} {s0 : Int32}
    (H : ((s0 = 0 → Ex (some (.int 0)) μ) ∧ (¬ s0 = 0 → ((mj_t μ h0 = 11) ∧ ∃ b2 : Nat, (mj_r μ h0 16 = some b2) ∧ (mj_t μ b2 = 1002) ∧ (vp_in s0 (mj_n μ b2)) ∧ ((¬ (mj_i μ b2 (Int32.toNatClampNeg s0)) = 0 → Ex (some (.int 0)) μ) ∧ ((mj_i μ b2 (Int32.toNatClampNeg s0)) = 0 → (∃ b6 : Nat, (mj_r μ h0 26 = some b6) ∧ (mj_t μ b6 = 1000) ∧ (vp_in s0 (mj_n μ b6)) ∧ (((mj_i μ b6 (Int32.toNatClampNeg s0)) ≤ 0 → (∃ P : Int32 → mj_MM → Prop, mj_M G my_M_nextPart mY_M_nextPart [va_rf (some h0), .int s0] (mj_nc μ) (mj_ns μ) μ (mj_XI P) ∧ ∀ (x : Int32) (μ' : mj_MM), P x μ' → mj_nc μ' = mj_nc μ → mj_ns μ' = mj_ns μ → mj_J G mY_M_step Ex N S 48 [(0, va_rf (some h0)), (2, .int s0)] [.int x] μ')) ∧ (¬ (mj_i μ b6 (Int32.toNatClampNeg s0)) ≤ 0 → Ex (some (.int 0)) μ))))))))) :
    mj_J G mY_M_step Ex N S 18 [(0, va_rf (some h0))] [.int s0] μ := by
  refine mj_istn (i := 2) (lv' := [(2, .int s0), (0, va_rf (some h0))]) md_M_step_18 rfl (by decide) (by first | rfl | (simp [mj_rfc]; done) | (simp [mj_rfc]; rfl)) ?_
  refine mj_iload_n 0 md_M_step_19 rfl ?_
  obtain ⟨H1, H2⟩ := H
  refine mj_if_eq (tgt := 41) md_M_step_20 (by decide) (fun hx => ?_) (fun hx => ?_)
  · replace H := H1 hx
    refine mj_iconst (v := 0) md_M_step_41 (by decide) ?_
    exact mj_ireturn md_M_step_42 rfl (by decide) H
  · replace H := H2 hx
    refine mj_aload_n 1 md_M_step_23 rfl ?_
    obtain ⟨ht1, H⟩ := H
    refine mj_getf (v := va_rf (mj_r μ h0 16)) rfl kc_M 16 (by decide) tw_639 md_M_step_24 ht1 rfl ?_
    refine mj_iload_n 0 md_M_step_27 rfl ?_
    obtain ⟨b2, hb3, H⟩ := H
    obtain ⟨ht4, H⟩ := H
    obtain ⟨hi5, H⟩ := H
    refine mj_zald (t := 2) hb3 rfl ht4 hi5 md_M_step_28 ?_
    obtain ⟨H1, H2⟩ := H
    refine mj_if_ne (tgt := 41) md_M_step_29 (by decide) (fun hx => ?_) (fun hx => ?_)
    · replace H := H1 hx
      refine mj_iconst (v := 0) md_M_step_41 (by decide) ?_
      exact mj_ireturn md_M_step_42 rfl (by decide) H
    · replace H := H2 hx
      refine mj_aload_n 1 md_M_step_32 rfl ?_
      refine mj_getf (v := va_rf (mj_r μ h0 26)) rfl kc_M 26 (by decide) tw_649 md_M_step_33 ht1 rfl ?_
      refine mj_iload_n 0 md_M_step_36 rfl ?_
      obtain ⟨b6, hb7, H⟩ := H
      obtain ⟨ht8, H⟩ := H
      obtain ⟨hi9, H⟩ := H
      refine mj_iald (t := 0) hb7 rfl ht8 hi9 md_M_step_37 ?_
      obtain ⟨H1, H2⟩ := H
      refine mj_if_le (tgt := 43) md_M_step_38 (by decide) (fun hx => ?_) (fun hx => ?_)
      · replace H := H1 hx
        refine mj_aload_n 1 md_M_step_43 rfl ?_
        refine mj_iload_n 0 md_M_step_44 rfl ?_
        obtain ⟨P, hM, H⟩ := H
        exact mj_callV (n := 1) (As := [.int s0]) rfl hM kc_M ht1 ⟨tw_842, tw_8, tw_845, ⟨by decide, by decide, by decide +kernel⟩, by decide, by decide⟩ tw_844 tp_43 rfl md_M_step_45 (by first | decide | (simp only [List.map_cons, List.map_nil, List.sum_cons, List.sum_nil, mj_rfc, mj_ci, mj_cl]; done) | (simp only [List.map_cons, List.map_nil, List.sum_cons, List.sum_nil, mj_rfc, mj_ci, mj_cl]; decide)) id (mj_kI (fun x μ' hP e1 e2 => mj_lvs [1, 0] rfl (H x μ' hP e1 e2)))
      · replace H := H2 hx
        refine mj_iconst (v := 0) md_M_step_41 (by decide) ?_
        exact mj_ireturn md_M_step_42 rfl (by decide) H

set_option maxRecDepth 20000 in
theorem bk_M_step_8 {G : mj_G} {Ex : Option Value → mj_MM → Prop} {N S : Nat} {μ : mj_MM} {h0 : Nat} {v1 : Int32} {s0 : Int32}
    (H : ((s0 < 0 → ((mj_t μ h0 = 11) ∧ (∃ P : Int32 → mj_MM → Prop, mj_M G my_M_choose mY_M_choose [va_rf (some h0), .int v1] (mj_nc μ) (mj_ns μ) μ (mj_XI P) ∧ ∀ (x : Int32) (μ' : mj_MM), P x μ' → mj_nc μ' = mj_nc μ → mj_ns μ' = mj_ns μ → mj_J G mY_M_step Ex N S 18 [(0, va_rf (some h0))] [.int x] μ'))) ∧ (¬ s0 < 0 → Ex (some (.int 0)) μ))) :
    mj_J G mY_M_step Ex N S 8 [(0, va_rf (some h0)), (1, .int v1)] [.int s0] μ := by
  obtain ⟨H1, H2⟩ := H
  refine mj_if_lt (tgt := 13) md_M_step_8 (by decide) (fun hx => ?_) (fun hx => ?_)
  · replace H := H1 hx
    refine mj_aload_n 0 md_M_step_13 rfl ?_
    refine mj_iload_n 1 md_M_step_14 rfl ?_
    obtain ⟨ht1, H⟩ := H
    obtain ⟨P, hM, H⟩ := H
    exact mj_callV (n := 1) (As := [.int v1]) rfl hM kc_M ht1 ⟨tw_830, tw_8, tw_833, ⟨by decide, by decide, by decide +kernel⟩, by decide, by decide⟩ tw_832 tp_40 rfl md_M_step_15 (by first | decide | (simp only [List.map_cons, List.map_nil, List.sum_cons, List.sum_nil, mj_rfc, mj_ci, mj_cl]; done) | (simp only [List.map_cons, List.map_nil, List.sum_cons, List.sum_nil, mj_rfc, mj_ci, mj_cl]; decide)) id (mj_kI (fun x μ' hP e1 e2 => mj_lvs [0] rfl (H x μ' hP e1 e2)))
  · replace H := H2 hx
    refine mj_iconst (v := 0) md_M_step_11 (by decide) ?_
    exact mj_ireturn md_M_step_12 rfl (by decide) H

set_option maxRecDepth 20000 in
theorem bk_M_step_48 {G : mj_G} {Ex : Option Value → mj_MM → Prop} {N S : Nat} {μ : mj_MM} {h0 : Nat} {v2 : Int32} {s0 : Int32}
    (H : ((s0 < 0 → ((0 ≤ s0 → ((mj_t μ h0 = 11) ∧ ∃ b2 : Nat, (mj_r μ h0 9 = some b2) ∧ (mj_t μ b2 = 1000) ∧ (vp_in s0 (mj_n μ b2)) ∧ ∃ b6 : Nat, (mj_r μ h0 10 = some b6) ∧ (mj_t μ b6 = 1001) ∧ (vp_in s0 (mj_n μ b6)) ∧ (∃ P : mj_MM → Prop, mj_M G my_M_act mY_M_act [va_rf (some h0), .int v2, .int (mj_i μ b2 (Int32.toNatClampNeg s0)), .long (mj_l μ b6 (Int32.toNatClampNeg s0))] (mj_nc μ) (mj_ns μ) μ (mj_XV P) ∧ ∀ (μ' : mj_MM), P μ' → mj_nc μ' = mj_nc μ → mj_ns μ' = mj_ns μ → mj_J G mY_M_step Ex N S 93 [] [] μ'))) ∧ (¬ 0 ≤ s0 → ((mj_t μ h0 = 11) ∧ (∃ P : mj_MM → Prop, mj_M G my_M_ends mY_M_ends [va_rf (some h0), .int v2] (mj_nc μ) (mj_ns μ) μ (mj_XV P) ∧ ∀ (μ' : mj_MM), P μ' → mj_nc μ' = mj_nc μ → mj_ns μ' = mj_ns μ → mj_J G mY_M_step Ex N S 73 [] [] μ'))))) ∧ (¬ s0 < 0 → ((mj_t μ h0 = 11) ∧ ∃ b12 : Nat, (mj_r μ h0 9 = some b12) ∧ (mj_t μ b12 = 1000) ∧ (vp_in s0 (mj_n μ b12)) ∧ ((¬ (mj_i μ b12 (Int32.toNatClampNeg s0)) = 0 → ((0 ≤ s0 → ((vp_in s0 (mj_n μ b12)) ∧ ∃ b17 : Nat, (mj_r μ h0 10 = some b17) ∧ (mj_t μ b17 = 1001) ∧ (vp_in s0 (mj_n μ b17)) ∧ (∃ P : mj_MM → Prop, mj_M G my_M_act mY_M_act [va_rf (some h0), .int v2, .int (mj_i μ b12 (Int32.toNatClampNeg s0)), .long (mj_l μ b17 (Int32.toNatClampNeg s0))] (mj_nc μ) (mj_ns μ) μ (mj_XV P) ∧ ∀ (μ' : mj_MM), P μ' → mj_nc μ' = mj_nc μ → mj_ns μ' = mj_ns μ → mj_J G mY_M_step Ex N S 93 [] [] μ'))) ∧ (¬ 0 ≤ s0 → (∃ P : mj_MM → Prop, mj_M G my_M_ends mY_M_ends [va_rf (some h0), .int v2] (mj_nc μ) (mj_ns μ) μ (mj_XV P) ∧ ∀ (μ' : mj_MM), P μ' → mj_nc μ' = mj_nc μ → mj_ns μ' = mj_ns μ → mj_J G mY_M_step Ex N S 73 [] [] μ')))) ∧ ((mj_i μ b12 (Int32.toNatClampNeg s0)) = 0 → Ex (some (.int 0)) μ)))))) :
    mj_J G mY_M_step Ex N S 48 [(0, va_rf (some h0)), (2, .int v2)] [.int s0] μ := by
  refine mj_istn (i := 3) (lv' := [(3, .int s0), (0, va_rf (some h0)), (2, .int v2)]) md_M_step_48 rfl (by decide) (by first | rfl | (simp [mj_rfc]; done) | (simp [mj_rfc]; rfl)) ?_
  refine mj_iload_n 0 md_M_step_49 rfl ?_
  obtain ⟨H1, H2⟩ := H
  refine mj_if_lt (tgt := 64) md_M_step_50 (by decide) (fun hx => ?_) (fun hx => ?_)
  · replace H := H1 hx
    refine mj_iload_n 0 md_M_step_64 rfl ?_
    obtain ⟨H1, H2⟩ := H
    refine mj_if_ge (tgt := 76) md_M_step_65 (by decide) (fun hx => ?_) (fun hx => ?_)
    · replace H := H1 hx
      refine mj_aload_n 1 md_M_step_76 rfl ?_
      refine mj_iload_n 2 md_M_step_77 rfl ?_
      refine mj_aload_n 1 md_M_step_78 rfl ?_
      obtain ⟨ht1, H⟩ := H
      refine mj_getf (v := va_rf (mj_r μ h0 9)) rfl kc_M 9 (by decide) tw_632 md_M_step_79 ht1 rfl ?_
      refine mj_iload_n 0 md_M_step_82 rfl ?_
      obtain ⟨b2, hb3, H⟩ := H
      obtain ⟨ht4, H⟩ := H
      obtain ⟨hi5, H⟩ := H
      refine mj_iald (t := 0) hb3 rfl ht4 hi5 md_M_step_83 ?_
      refine mj_aload_n 1 md_M_step_84 rfl ?_
      refine mj_getf (v := va_rf (mj_r μ h0 10)) rfl kc_M 10 (by decide) tw_633 md_M_step_85 ht1 rfl ?_
      refine mj_iload_n 0 md_M_step_88 rfl ?_
      obtain ⟨b6, hb7, H⟩ := H
      obtain ⟨ht8, H⟩ := H
      obtain ⟨hi9, H⟩ := H
      refine mj_lald (t := 1) hb7 rfl ht8 hi9 md_M_step_89 ?_
      obtain ⟨P, hM, H⟩ := H
      exact mj_callV (n := 3) (As := [.int v2, .int (mj_i μ b2 (Int32.toNatClampNeg s0)), .long (mj_l μ b6 (Int32.toNatClampNeg s0))]) rfl hM kc_M ht1 ⟨tw_862, tw_8, tw_865, ⟨by decide, by decide, by decide +kernel⟩, by decide, by decide⟩ tw_864 tp_48 rfl md_M_step_90 (by first | decide | (simp only [List.map_cons, List.map_nil, List.sum_cons, List.sum_nil, mj_rfc, mj_ci, mj_cl]; done) | (simp only [List.map_cons, List.map_nil, List.sum_cons, List.sum_nil, mj_rfc, mj_ci, mj_cl]; decide)) id (mj_kV (fun μ' hP e1 e2 => mj_lvs [] rfl (H μ' hP e1 e2)))
    · replace H := H2 hx
      refine mj_aload_n 1 md_M_step_68 rfl ?_
      refine mj_iload_n 2 md_M_step_69 rfl ?_
      obtain ⟨ht10, H⟩ := H
      obtain ⟨P, hM, H⟩ := H
      exact mj_callV (n := 1) (As := [.int v2]) rfl hM kc_M ht10 ⟨tw_846, tw_8, tw_849, ⟨by decide, by decide, by decide +kernel⟩, by decide, by decide⟩ tw_848 tp_44 rfl md_M_step_70 (by first | decide | (simp only [List.map_cons, List.map_nil, List.sum_cons, List.sum_nil, mj_rfc, mj_ci, mj_cl]; done) | (simp only [List.map_cons, List.map_nil, List.sum_cons, List.sum_nil, mj_rfc, mj_ci, mj_cl]; decide)) id (mj_kV (fun μ' hP e1 e2 => mj_lvs [] rfl (H μ' hP e1 e2)))
  · replace H := H2 hx
    refine mj_aload_n 1 md_M_step_53 rfl ?_
    obtain ⟨ht11, H⟩ := H
    refine mj_getf (v := va_rf (mj_r μ h0 9)) rfl kc_M 9 (by decide) tw_632 md_M_step_54 ht11 rfl ?_
    refine mj_iload_n 0 md_M_step_57 rfl ?_
    obtain ⟨b12, hb13, H⟩ := H
    obtain ⟨ht14, H⟩ := H
    obtain ⟨hi15, H⟩ := H
    refine mj_iald (t := 0) hb13 rfl ht14 hi15 md_M_step_58 ?_
    obtain ⟨H1, H2⟩ := H
    refine mj_if_ne (tgt := 64) md_M_step_59 (by decide) (fun hx => ?_) (fun hx => ?_)
    · replace H := H1 hx
      refine mj_iload_n 0 md_M_step_64 rfl ?_
      obtain ⟨H1, H2⟩ := H
      refine mj_if_ge (tgt := 76) md_M_step_65 (by decide) (fun hx => ?_) (fun hx => ?_)
      · replace H := H1 hx
        refine mj_aload_n 1 md_M_step_76 rfl ?_
        refine mj_iload_n 2 md_M_step_77 rfl ?_
        refine mj_aload_n 1 md_M_step_78 rfl ?_
        refine mj_getf (v := va_rf (mj_r μ h0 9)) rfl kc_M 9 (by decide) tw_632 md_M_step_79 ht11 rfl ?_
        refine mj_iload_n 0 md_M_step_82 rfl ?_
        obtain ⟨hi16, H⟩ := H
        refine mj_iald (t := 0) hb13 rfl ht14 hi16 md_M_step_83 ?_
        refine mj_aload_n 1 md_M_step_84 rfl ?_
        refine mj_getf (v := va_rf (mj_r μ h0 10)) rfl kc_M 10 (by decide) tw_633 md_M_step_85 ht11 rfl ?_
        refine mj_iload_n 0 md_M_step_88 rfl ?_
        obtain ⟨b17, hb18, H⟩ := H
        obtain ⟨ht19, H⟩ := H
        obtain ⟨hi20, H⟩ := H
        refine mj_lald (t := 1) hb18 rfl ht19 hi20 md_M_step_89 ?_
        obtain ⟨P, hM, H⟩ := H
        exact mj_callV (n := 3) (As := [.int v2, .int (mj_i μ b12 (Int32.toNatClampNeg s0)), .long (mj_l μ b17 (Int32.toNatClampNeg s0))]) rfl hM kc_M ht11 ⟨tw_862, tw_8, tw_865, ⟨by decide, by decide, by decide +kernel⟩, by decide, by decide⟩ tw_864 tp_48 rfl md_M_step_90 (by first | decide | (simp only [List.map_cons, List.map_nil, List.sum_cons, List.sum_nil, mj_rfc, mj_ci, mj_cl]; done) | (simp only [List.map_cons, List.map_nil, List.sum_cons, List.sum_nil, mj_rfc, mj_ci, mj_cl]; decide)) id (mj_kV (fun μ' hP e1 e2 => mj_lvs [] rfl (H μ' hP e1 e2)))
      · replace H := H2 hx
        refine mj_aload_n 1 md_M_step_68 rfl ?_
        refine mj_iload_n 2 md_M_step_69 rfl ?_
        obtain ⟨P, hM, H⟩ := H
        exact mj_callV (n := 1) (As := [.int v2]) rfl hM kc_M ht11 ⟨tw_846, tw_8, tw_849, ⟨by decide, by decide, by decide +kernel⟩, by decide, by decide⟩ tw_848 tp_44 rfl md_M_step_70 (by first | decide | (simp only [List.map_cons, List.map_nil, List.sum_cons, List.sum_nil, mj_rfc, mj_ci, mj_cl]; done) | (simp only [List.map_cons, List.map_nil, List.sum_cons, List.sum_nil, mj_rfc, mj_ci, mj_cl]; decide)) id (mj_kV (fun μ' hP e1 e2 => mj_lvs [] rfl (H μ' hP e1 e2)))
    · replace H := H2 hx
      refine mj_iconst (v := 0) md_M_step_62 (by decide) ?_
      exact mj_ireturn md_M_step_63 rfl (by decide) H

set_option maxRecDepth 20000 in
theorem bk_M_step_93 {G : mj_G} {Ex : Option Value → mj_MM → Prop} {N S : Nat} {μ : mj_MM}
    (H : Ex (some (.int 1)) μ) :
    mj_J G mY_M_step Ex N S 93 [] [] μ := by
  refine mj_iconst (v := 1) md_M_step_93 (by decide) ?_
  exact mj_ireturn md_M_step_94 rfl (by decide) H

set_option maxRecDepth 20000 in
theorem bk_M_step_73 {G : mj_G} {Ex : Option Value → mj_MM → Prop} {N S : Nat} {μ : mj_MM}
    (H : mj_J G mY_M_step Ex N S 93 [] [] μ) :
    mj_J G mY_M_step Ex N S 73 [] [] μ := by
  refine mj_goto (tgt := 93) md_M_step_73 (by decide) ?_
  exact mj_lvs [] rfl H

set_option maxRecDepth 20000 in
theorem bk_M_pass_0 {G : mj_G} {Ex : Option Value → mj_MM → Prop} {N S : Nat} {μ : mj_MM} {h0 : Nat} {v1 : Int32}
    (H : ((mj_t μ h0 = 11) ∧ ∃ b2 : Nat, (mj_r μ h0 20 = some b2) ∧ (mj_t μ b2 = 1001) ∧ (vp_in v1 (mj_n μ b2)) ∧ (vp_in v1 (mj_n μ b2)) ∧ mj_J G mY_M_pass Ex N S 10 [(0, va_rf (some h0)), (1, .int v1)] [] (mj_pL μ b2 (Int32.toNatClampNeg v1) ((mj_l μ b2 (Int32.toNatClampNeg v1)) + 1)))) :
    mj_J G mY_M_pass Ex N S 0 [(0, va_rf (some h0)), (1, .int v1)] [] μ := by
  refine mj_aload_n 0 md_M_pass_0 rfl ?_
  obtain ⟨ht1, H⟩ := H
  refine mj_getf (v := va_rf (mj_r μ h0 20)) rfl kc_M 20 (by decide) tw_643 md_M_pass_1 ht1 rfl ?_
  refine mj_iload_n 1 md_M_pass_4 rfl ?_
  refine mj_dup2 md_M_pass_5 (rfl) (mj_rfc _) ?_
  obtain ⟨b2, hb3, H⟩ := H
  obtain ⟨ht4, H⟩ := H
  obtain ⟨hi5, H⟩ := H
  refine mj_lald (t := 1) hb3 rfl ht4 hi5 md_M_pass_6 ?_
  refine mj_lconst (v := 1) md_M_pass_7 (by decide) ?_
  refine mj_ladd md_M_pass_8 ?_
  obtain ⟨hi6, H⟩ := H
  refine mj_last (t := 1) hb3 rfl ht4 hi6 md_M_pass_9 ?_
  exact mj_lvs [0, 1] rfl H

set_option maxRecDepth 20000 in
theorem bk_M_pass_10 {G : mj_G} {Ex : Option Value → mj_MM → Prop} {N S : Nat} {μ : mj_MM} {h0 : Nat} {v1 : Int32}
    (H : ((mj_t μ h0 = 11) ∧ ∃ b2 : Nat, (mj_r μ h0 26 = some b2) ∧ (mj_t μ b2 = 1000) ∧ (vp_in v1 (mj_n μ b2)) ∧ (((mj_i μ b2 (Int32.toNatClampNeg v1)) ≤ 0 → (∃ b6 : Nat, (mj_r μ h0 16 = some b6) ∧ (mj_t μ b6 = 1002) ∧ (vp_in v1 (mj_n μ b6)) ∧ (((mj_i μ b6 (Int32.toNatClampNeg v1)) = 0 → (∃ b10 : Nat, (mj_r μ h0 15 = some b10) ∧ (mj_t μ b10 = 1001) ∧ (vp_in v1 (mj_n μ b10)) ∧ ((0 ≤ (mj_l μ b10 (Int32.toNatClampNeg v1)) → mj_J G mY_M_pass Ex N S 73 [(0, va_rf (some h0)), (1, .int v1)] [] μ) ∧ (¬ 0 ≤ (mj_l μ b10 (Int32.toNatClampNeg v1)) → (∃ P : Int32 → mj_MM → Prop, mj_M G my_M_nextPart mY_M_nextPart [va_rf (some h0), .int v1] (mj_nc μ) (mj_ns μ) μ (mj_XI P) ∧ ∀ (x : Int32) (μ' : mj_MM), P x μ' → mj_nc μ' = mj_nc μ → mj_ns μ' = mj_ns μ → mj_J G mY_M_pass Ex N S 71 [(0, va_rf (some h0)), (1, .int v1)] [.int x, va_rf (mj_r μ h0 10), .int v1, va_rf (mj_r μ h0 15)] μ'))))) ∧ (¬ (mj_i μ b6 (Int32.toNatClampNeg v1)) = 0 → ((vp_in v1 (mj_n μ b6)) ∧ ∃ b15 : Nat, (mj_r μ h0 15 = some b15) ∧ (mj_t μ b15 = 1001) ∧ (vp_in v1 (mj_n μ b15)) ∧ mj_J G mY_M_pass Ex N S 45 [] [] (mj_pL (mj_pI μ b6 (Int32.toNatClampNeg v1) 0) b15 (Int32.toNatClampNeg v1) (-1))))))) ∧ (¬ (mj_i μ b2 (Int32.toNatClampNeg v1)) ≤ 0 → Ex none μ)))) :
    mj_J G mY_M_pass Ex N S 10 [(0, va_rf (some h0)), (1, .int v1)] [] μ := by
  refine mj_aload_n 0 md_M_pass_10 rfl ?_
  obtain ⟨ht1, H⟩ := H
  refine mj_getf (v := va_rf (mj_r μ h0 26)) rfl kc_M 26 (by decide) tw_649 md_M_pass_11 ht1 rfl ?_
  refine mj_iload_n 1 md_M_pass_14 rfl ?_
  obtain ⟨b2, hb3, H⟩ := H
  obtain ⟨ht4, H⟩ := H
  obtain ⟨hi5, H⟩ := H
  refine mj_iald (t := 0) hb3 rfl ht4 hi5 md_M_pass_15 ?_
  obtain ⟨H1, H2⟩ := H
  refine mj_if_le (tgt := 20) md_M_pass_16 (by decide) (fun hx => ?_) (fun hx => ?_)
  · replace H := H1 hx
    refine mj_aload_n 0 md_M_pass_20 rfl ?_
    refine mj_getf (v := va_rf (mj_r μ h0 16)) rfl kc_M 16 (by decide) tw_639 md_M_pass_21 ht1 rfl ?_
    refine mj_iload_n 1 md_M_pass_24 rfl ?_
    obtain ⟨b6, hb7, H⟩ := H
    obtain ⟨ht8, H⟩ := H
    obtain ⟨hi9, H⟩ := H
    refine mj_zald (t := 2) hb7 rfl ht8 hi9 md_M_pass_25 ?_
    obtain ⟨H1, H2⟩ := H
    refine mj_if_eq (tgt := 46) md_M_pass_26 (by decide) (fun hx => ?_) (fun hx => ?_)
    · replace H := H1 hx
      refine mj_aload_n 0 md_M_pass_46 rfl ?_
      refine mj_getf (v := va_rf (mj_r μ h0 15)) rfl kc_M 15 (by decide) tw_638 md_M_pass_47 ht1 rfl ?_
      refine mj_iload_n 1 md_M_pass_50 rfl ?_
      obtain ⟨b10, hb11, H⟩ := H
      obtain ⟨ht12, H⟩ := H
      obtain ⟨hi13, H⟩ := H
      refine mj_lald (t := 1) hb11 rfl ht12 hi13 md_M_pass_51 ?_
      refine mj_lconst (v := 0) md_M_pass_52 (by decide) ?_
      refine mj_lcmp md_M_pass_53 ?_
      obtain ⟨H1, H2⟩ := H
      refine mj_if_ge (tgt := 73) md_M_pass_54 (by decide) (fun hx => ?_) (fun hx => ?_)
      · replace H := H1 ((lg_cmp_ge (mj_l μ b10 (Int32.toNatClampNeg v1)) 0).mp hx)
        exact mj_lvs [0, 1] rfl H
      · replace H := H2 (fun hy => hx ((lg_cmp_ge (mj_l μ b10 (Int32.toNatClampNeg v1)) 0).mpr hy))
        refine mj_aload_n 0 md_M_pass_57 rfl ?_
        refine mj_getf (v := va_rf (mj_r μ h0 15)) rfl kc_M 15 (by decide) tw_638 md_M_pass_58 ht1 rfl ?_
        refine mj_iload_n 1 md_M_pass_61 rfl ?_
        refine mj_aload_n 0 md_M_pass_62 rfl ?_
        refine mj_getf (v := va_rf (mj_r μ h0 10)) rfl kc_M 10 (by decide) tw_633 md_M_pass_63 ht1 rfl ?_
        refine mj_aload_n 0 md_M_pass_66 rfl ?_
        refine mj_iload_n 1 md_M_pass_67 rfl ?_
        obtain ⟨P, hM, H⟩ := H
        exact mj_callV (n := 1) (As := [.int v1]) rfl hM kc_M ht1 ⟨tw_842, tw_8, tw_845, ⟨by decide, by decide, by decide +kernel⟩, by decide, by decide⟩ tw_844 tp_43 rfl md_M_pass_68 (by first | decide | (simp only [List.map_cons, List.map_nil, List.sum_cons, List.sum_nil, mj_rfc, mj_ci, mj_cl]; done) | (simp only [List.map_cons, List.map_nil, List.sum_cons, List.sum_nil, mj_rfc, mj_ci, mj_cl]; decide)) id (mj_kI (fun x μ' hP e1 e2 => mj_lvs [0, 1] rfl (H x μ' hP e1 e2)))
    · replace H := H2 hx
      refine mj_aload_n 0 md_M_pass_29 rfl ?_
      refine mj_getf (v := va_rf (mj_r μ h0 16)) rfl kc_M 16 (by decide) tw_639 md_M_pass_30 ht1 rfl ?_
      refine mj_iload_n 1 md_M_pass_33 rfl ?_
      refine mj_iconst (v := 0) md_M_pass_34 (by decide) ?_
      obtain ⟨hi14, H⟩ := H
      refine mj_zast (t := 2) hb7 rfl ht8 hi14 (by decide) md_M_pass_35 ?_
      refine mj_aload_n 0 md_M_pass_36 rfl ?_
      refine mj_getf (v := va_rf (mj_r μ h0 15)) rfl kc_M 15 (by decide) tw_638 md_M_pass_37 ht1 rfl ?_
      refine mj_iload_n 1 md_M_pass_40 rfl ?_
      refine mj_ldc2 (v := (-1)) tw_880 md_M_pass_41 ?_
      obtain ⟨b15, hb16, H⟩ := H
      obtain ⟨ht17, H⟩ := H
      obtain ⟨hi18, H⟩ := H
      refine mj_last (t := 1) hb16 rfl ht17 hi18 md_M_pass_44 ?_
      exact mj_lvs [] rfl H
  · replace H := H2 hx
    exact mj_return md_M_pass_19 rfl H

set_option maxRecDepth 20000 in
theorem bk_M_pass_73 {G : mj_G} {Ex : Option Value → mj_MM → Prop} {N S : Nat} {μ : mj_MM} {h0 : Nat} {v1 : Int32}
    (H : ((mj_t μ h0 = 11) ∧ ∃ b2 : Nat, (mj_r μ h0 15 = some b2) ∧ (mj_t μ b2 = 1001) ∧ (vp_in v1 (mj_n μ b2)) ∧ (vp_in v1 (mj_n μ b2)) ∧ mj_J G mY_M_pass Ex N S 83 [(0, va_rf (some h0)), (1, .int v1)] [] (mj_pL μ b2 (Int32.toNatClampNeg v1) ((mj_l μ b2 (Int32.toNatClampNeg v1)) - 1)))) :
    mj_J G mY_M_pass Ex N S 73 [(0, va_rf (some h0)), (1, .int v1)] [] μ := by
  refine mj_aload_n 0 md_M_pass_73 rfl ?_
  obtain ⟨ht1, H⟩ := H
  refine mj_getf (v := va_rf (mj_r μ h0 15)) rfl kc_M 15 (by decide) tw_638 md_M_pass_74 ht1 rfl ?_
  refine mj_iload_n 1 md_M_pass_77 rfl ?_
  refine mj_dup2 md_M_pass_78 (rfl) (mj_rfc _) ?_
  obtain ⟨b2, hb3, H⟩ := H
  obtain ⟨ht4, H⟩ := H
  obtain ⟨hi5, H⟩ := H
  refine mj_lald (t := 1) hb3 rfl ht4 hi5 md_M_pass_79 ?_
  refine mj_lconst (v := 1) md_M_pass_80 (by decide) ?_
  refine mj_lsub md_M_pass_81 ?_
  obtain ⟨hi6, H⟩ := H
  refine mj_last (t := 1) hb3 rfl ht4 hi6 md_M_pass_82 ?_
  exact mj_lvs [0, 1] rfl H

set_option maxRecDepth 20000 in
theorem bk_M_pass_71 {G : mj_G} {Ex : Option Value → mj_MM → Prop} {N S : Nat} {μ : mj_MM} {h0 : Nat} {v1 : Int32} {s0 : Int32} {s1 : Option Nat} {s2 : Int32} {s3 : Option Nat}
    (H : (∃ b1 : Nat, (s1 = some b1) ∧ (mj_t μ b1 = 1001) ∧ (vp_in s0 (mj_n μ b1)) ∧ ∃ b5 : Nat, (s3 = some b5) ∧ (mj_t μ b5 = 1001) ∧ (vp_in s2 (mj_n μ b5)) ∧ mj_J G mY_M_pass Ex N S 73 [(0, va_rf (some h0)), (1, .int v1)] [] (mj_pL μ b5 (Int32.toNatClampNeg s2) (mj_l μ b1 (Int32.toNatClampNeg s0))))) :
    mj_J G mY_M_pass Ex N S 71 [(0, va_rf (some h0)), (1, .int v1)] [.int s0, va_rf s1, .int s2, va_rf s3] μ := by
  obtain ⟨b1, hb2, H⟩ := H
  obtain ⟨ht3, H⟩ := H
  obtain ⟨hi4, H⟩ := H
  refine mj_lald (t := 1) hb2 rfl ht3 hi4 md_M_pass_71 ?_
  obtain ⟨b5, hb6, H⟩ := H
  obtain ⟨ht7, H⟩ := H
  obtain ⟨hi8, H⟩ := H
  refine mj_last (t := 1) hb6 rfl ht7 hi8 md_M_pass_72 ?_
  exact mj_lvs [0, 1] rfl H

set_option maxRecDepth 20000 in
theorem bk_M_pass_45 {G : mj_G} {Ex : Option Value → mj_MM → Prop} {N S : Nat} {μ : mj_MM}
    (H : Ex none μ) :
    mj_J G mY_M_pass Ex N S 45 [] [] μ := by
  exact mj_return md_M_pass_45 rfl H

set_option maxRecDepth 20000 in
theorem bk_M_pass_83 {G : mj_G} {Ex : Option Value → mj_MM → Prop} {N S : Nat} {μ : mj_MM} {h0 : Nat} {v1 : Int32}
    (H : ((mj_t μ h0 = 11) ∧ ∃ b2 : Nat, (mj_r μ h0 15 = some b2) ∧ (mj_t μ b2 = 1001) ∧ (vp_in v1 (mj_n μ b2)) ∧ (((mj_l μ b2 (Int32.toNatClampNeg v1)) ≤ 0 → ((vp_in v1 (mj_n μ b2)) ∧ mj_J G mY_M_pass Ex N S 104 [(0, va_rf (some h0)), (1, .int v1)] [] (mj_pL μ b2 (Int32.toNatClampNeg v1) (-1)))) ∧ (¬ (mj_l μ b2 (Int32.toNatClampNeg v1)) ≤ 0 → Ex none μ)))) :
    mj_J G mY_M_pass Ex N S 83 [(0, va_rf (some h0)), (1, .int v1)] [] μ := by
  refine mj_aload_n 0 md_M_pass_83 rfl ?_
  obtain ⟨ht1, H⟩ := H
  refine mj_getf (v := va_rf (mj_r μ h0 15)) rfl kc_M 15 (by decide) tw_638 md_M_pass_84 ht1 rfl ?_
  refine mj_iload_n 1 md_M_pass_87 rfl ?_
  obtain ⟨b2, hb3, H⟩ := H
  obtain ⟨ht4, H⟩ := H
  obtain ⟨hi5, H⟩ := H
  refine mj_lald (t := 1) hb3 rfl ht4 hi5 md_M_pass_88 ?_
  refine mj_lconst (v := 0) md_M_pass_89 (by decide) ?_
  refine mj_lcmp md_M_pass_90 ?_
  obtain ⟨H1, H2⟩ := H
  refine mj_if_le (tgt := 95) md_M_pass_91 (by decide) (fun hx => ?_) (fun hx => ?_)
  · replace H := H1 ((lg_cmp_le (mj_l μ b2 (Int32.toNatClampNeg v1)) 0).mp hx)
    refine mj_aload_n 0 md_M_pass_95 rfl ?_
    refine mj_getf (v := va_rf (mj_r μ h0 15)) rfl kc_M 15 (by decide) tw_638 md_M_pass_96 ht1 rfl ?_
    refine mj_iload_n 1 md_M_pass_99 rfl ?_
    refine mj_ldc2 (v := (-1)) tw_880 md_M_pass_100 ?_
    obtain ⟨hi6, H⟩ := H
    refine mj_last (t := 1) hb3 rfl ht4 hi6 md_M_pass_103 ?_
    exact mj_lvs [0, 1] rfl H
  · replace H := H2 (fun hy => hx ((lg_cmp_le (mj_l μ b2 (Int32.toNatClampNeg v1)) 0).mpr hy))
    exact mj_return md_M_pass_94 rfl H

set_option maxRecDepth 20000 in
theorem bk_M_pass_104 {G : mj_G} {Ex : Option Value → mj_MM → Prop} {N S : Nat} {μ : mj_MM} {h0 : Nat} {v1 : Int32}
    (H : ((mj_t μ h0 = 11) ∧ ∃ b2 : Nat, (mj_r μ h0 14 = some b2) ∧ (mj_t μ b2 = 1000) ∧ (vp_in v1 (mj_n μ b2)) ∧ (vp_in v1 (mj_n μ b2)) ∧ mj_J G mY_M_pass Ex N S 114 [] [] (mj_pI μ b2 (Int32.toNatClampNeg v1) ((mj_i μ b2 (Int32.toNatClampNeg v1)) + 1)))) :
    mj_J G mY_M_pass Ex N S 104 [(0, va_rf (some h0)), (1, .int v1)] [] μ := by
  refine mj_aload_n 0 md_M_pass_104 rfl ?_
  obtain ⟨ht1, H⟩ := H
  refine mj_getf (v := va_rf (mj_r μ h0 14)) rfl kc_M 14 (by decide) tw_637 md_M_pass_105 ht1 rfl ?_
  refine mj_iload_n 1 md_M_pass_108 rfl ?_
  refine mj_dup2 md_M_pass_109 (rfl) (mj_rfc _) ?_
  obtain ⟨b2, hb3, H⟩ := H
  obtain ⟨ht4, H⟩ := H
  obtain ⟨hi5, H⟩ := H
  refine mj_iald (t := 0) hb3 rfl ht4 hi5 md_M_pass_110 ?_
  refine mj_iconst (v := 1) md_M_pass_111 (by decide) ?_
  refine mj_iadd md_M_pass_112 ?_
  obtain ⟨hi6, H⟩ := H
  refine mj_iast (t := 0) hb3 rfl ht4 hi6 md_M_pass_113 ?_
  exact mj_lvs [] rfl H

set_option maxRecDepth 20000 in
theorem bk_M_pass_114 {G : mj_G} {Ex : Option Value → mj_MM → Prop} {N S : Nat} {μ : mj_MM}
    (H : Ex none μ) :
    mj_J G mY_M_pass Ex N S 114 [] [] μ := by
  exact mj_return md_M_pass_114 rfl H

set_option maxRecDepth 20000 in
theorem bk_M_microsecond_0 {G : mj_G} {Ex : Option Value → mj_MM → Prop} {N S : Nat} {μ : mj_MM} {h0 : Nat}
    (H : mj_J G mY_M_microsecond Ex N S 2 [(0, va_rf (some h0)), (1, .int 0)] [] μ) :
    mj_J G mY_M_microsecond Ex N S 0 [(0, va_rf (some h0))] [] μ := by
  refine mj_iconst (v := 0) md_M_microsecond_0 (by decide) ?_
  refine mj_istn (i := 1) (lv' := [(1, .int 0), (0, va_rf (some h0))]) md_M_microsecond_1 rfl (by decide) (by first | rfl | (simp [mj_rfc]; done) | (simp [mj_rfc]; rfl)) ?_
  exact mj_lvs [1, 0] rfl H

set_option maxRecDepth 20000 in
theorem bk_M_microsecond_2 {G : mj_G} {Ex : Option Value → mj_MM → Prop} {N S : Nat} {μ : mj_MM} {h0 : Nat} {v1 : Int32}
    (H : ((mj_t μ h0 = 11) ∧ (((mj_i μ h0 32) ≤ v1 → mj_J G mY_M_microsecond Ex N S 42 [(0, va_rf (some h0)), (1, .int 1)] [] μ) ∧ (¬ (mj_i μ h0 32) ≤ v1 → (∃ b2 : Nat, (mj_r μ h0 34 = some b2) ∧ (mj_t μ b2 = 1001) ∧ (vp_in v1 (mj_n μ b2)) ∧ ((¬ (mj_l μ b2 (Int32.toNatClampNeg v1)) = (mj_l μ h0 43) → mj_J G mY_M_microsecond Ex N S 34 [(0, va_rf (some h0)), (1, .int v1)] [] μ) ∧ ((mj_l μ b2 (Int32.toNatClampNeg v1)) = (mj_l μ h0 43) → (∃ b6 : Nat, (mj_r μ h0 33 = some b6) ∧ (mj_t μ b6 = 1000) ∧ (vp_in v1 (mj_n μ b6)) ∧ (∃ P : mj_MM → Prop, mj_M G my_M_begin mY_M_begin [va_rf (some h0), .int (mj_i μ b6 (Int32.toNatClampNeg v1))] (mj_nc μ) (mj_ns μ) μ (mj_XV P) ∧ ∀ (μ' : mj_MM), P μ' → mj_nc μ' = mj_nc μ → mj_ns μ' = mj_ns μ → mj_J G mY_M_microsecond Ex N S 34 [(0, va_rf (some h0)), (1, .int v1)] [] μ'))))))))) :
    mj_J G mY_M_microsecond Ex N S 2 [(0, va_rf (some h0)), (1, .int v1)] [] μ := by
  refine mj_iload_n 1 md_M_microsecond_2 rfl ?_
  refine mj_aload_n 0 md_M_microsecond_3 rfl ?_
  obtain ⟨ht1, H⟩ := H
  refine mj_getf (v := .int (mj_i μ h0 32)) rfl kc_M 32 (by decide) tw_655 md_M_microsecond_4 ht1 rfl ?_
  obtain ⟨H1, H2⟩ := H
  refine mj_icmp_ge (tgt := 40) md_M_microsecond_7 (by decide) (fun hx => ?_) (fun hx => ?_)
  · replace H := H1 hx
    refine mj_iconst (v := 1) md_M_microsecond_40 (by decide) ?_
    refine mj_istn (i := 1) (lv' := [(1, .int 1), (0, va_rf (some h0))]) md_M_microsecond_41 rfl (by decide) (by first | rfl | (simp [mj_rfc]; done) | (simp [mj_rfc]; rfl)) ?_
    exact mj_lvs [1, 0] rfl H
  · replace H := H2 hx
    refine mj_aload_n 0 md_M_microsecond_10 rfl ?_
    refine mj_getf (v := va_rf (mj_r μ h0 34)) rfl kc_M 34 (by decide) tw_657 md_M_microsecond_11 ht1 rfl ?_
    refine mj_iload_n 1 md_M_microsecond_14 rfl ?_
    obtain ⟨b2, hb3, H⟩ := H
    obtain ⟨ht4, H⟩ := H
    obtain ⟨hi5, H⟩ := H
    refine mj_lald (t := 1) hb3 rfl ht4 hi5 md_M_microsecond_15 ?_
    refine mj_aload_n 0 md_M_microsecond_16 rfl ?_
    refine mj_getf (v := .long (mj_l μ h0 43)) rfl kc_M 43 (by decide) tw_666 md_M_microsecond_17 ht1 rfl ?_
    refine mj_lcmp md_M_microsecond_20 ?_
    obtain ⟨H1, H2⟩ := H
    refine mj_if_ne (tgt := 34) md_M_microsecond_21 (by decide) (fun hx => ?_) (fun hx => ?_)
    · replace H := H1 (fun hy => hx ((lg_cmp_eq (mj_l μ b2 (Int32.toNatClampNeg v1)) (mj_l μ h0 43)).mpr hy))
      exact mj_lvs [0, 1] rfl H
    · replace H := H2 ((lg_cmp_eq (mj_l μ b2 (Int32.toNatClampNeg v1)) (mj_l μ h0 43)).mp hx)
      refine mj_aload_n 0 md_M_microsecond_24 rfl ?_
      refine mj_aload_n 0 md_M_microsecond_25 rfl ?_
      refine mj_getf (v := va_rf (mj_r μ h0 33)) rfl kc_M 33 (by decide) tw_656 md_M_microsecond_26 ht1 rfl ?_
      refine mj_iload_n 1 md_M_microsecond_29 rfl ?_
      obtain ⟨b6, hb7, H⟩ := H
      obtain ⟨ht8, H⟩ := H
      obtain ⟨hi9, H⟩ := H
      refine mj_iald (t := 0) hb7 rfl ht8 hi9 md_M_microsecond_30 ?_
      obtain ⟨P, hM, H⟩ := H
      exact mj_callV (n := 1) (As := [.int (mj_i μ b6 (Int32.toNatClampNeg v1))]) rfl hM kc_M ht1 ⟨tw_810, tw_8, tw_813, ⟨by decide, by decide, by decide +kernel⟩, by decide, by decide⟩ tw_812 tp_35 rfl md_M_microsecond_31 (by first | decide | (simp only [List.map_cons, List.map_nil, List.sum_cons, List.sum_nil, mj_rfc, mj_ci, mj_cl]; done) | (simp only [List.map_cons, List.map_nil, List.sum_cons, List.sum_nil, mj_rfc, mj_ci, mj_cl]; decide)) id (mj_kV (fun μ' hP e1 e2 => mj_lvs [0, 1] rfl (H μ' hP e1 e2)))

set_option maxRecDepth 20000 in
theorem bk_M_microsecond_42 {G : mj_G} {Ex : Option Value → mj_MM → Prop} {N S : Nat} {μ : mj_MM} {h0 : Nat} {v1 : Int32}
    (H : ((v1 = 0 → ((mj_t μ h0 = 11) ∧ (((mj_i μ h0 29) ≤ 0 → mj_J G mY_M_microsecond Ex N S 121 [(0, va_rf (some h0))] [] μ) ∧ (¬ (mj_i μ h0 29) ≤ 0 → ((¬ (mj_i μ h0 31) = 0 → mj_J G mY_M_microsecond Ex N S 121 [(0, va_rf (some h0))] [] μ) ∧ ((mj_i μ h0 31) = 0 → (((mj_l μ h0 43) < (mj_l μ h0 30) → mj_J G mY_M_microsecond Ex N S 121 [(0, va_rf (some h0))] [] μ) ∧ (¬ (mj_l μ h0 43) < (mj_l μ h0 30) → (∃ P : mj_MM → Prop, mj_M G my_M_tell mY_M_tell [va_rf (some h0), .int 9, .int (mj_i μ h0 29)] (mj_nc μ) (mj_ns μ) μ (mj_XV P) ∧ ∀ (μ' : mj_MM), P μ' → mj_nc μ' = mj_nc μ → mj_ns μ' = mj_ns μ → mj_J G mY_M_microsecond Ex N S 116 [(0, va_rf (some h0))] [] μ'))))))))) ∧ (¬ v1 = 0 → mj_J G mY_M_microsecond Ex N S 48 [(0, va_rf (some h0)), (1, .int 0)] [] μ))) :
    mj_J G mY_M_microsecond Ex N S 42 [(0, va_rf (some h0)), (1, .int v1)] [] μ := by
  refine mj_iload_n 1 md_M_microsecond_42 rfl ?_
  obtain ⟨H1, H2⟩ := H
  refine mj_if_eq (tgt := 80) md_M_microsecond_43 (by decide) (fun hx => ?_) (fun hx => ?_)
  · replace H := H1 hx
    refine mj_aload_n 0 md_M_microsecond_80 rfl ?_
    obtain ⟨ht1, H⟩ := H
    refine mj_getf (v := .int (mj_i μ h0 29)) rfl kc_M 29 (by decide) tw_652 md_M_microsecond_81 ht1 rfl ?_
    obtain ⟨H1, H2⟩ := H
    refine mj_if_le (tgt := 121) md_M_microsecond_84 (by decide) (fun hx => ?_) (fun hx => ?_)
    · replace H := H1 hx
      exact mj_lvs [0] rfl H
    · replace H := H2 hx
      refine mj_aload_n 0 md_M_microsecond_87 rfl ?_
      refine mj_getf (v := .int (mj_i μ h0 31)) rfl kc_M 31 (by decide) tw_654 md_M_microsecond_88 ht1 rfl ?_
      obtain ⟨H1, H2⟩ := H
      refine mj_if_ne (tgt := 121) md_M_microsecond_91 (by decide) (fun hx => ?_) (fun hx => ?_)
      · replace H := H1 hx
        exact mj_lvs [0] rfl H
      · replace H := H2 hx
        refine mj_aload_n 0 md_M_microsecond_94 rfl ?_
        refine mj_getf (v := .long (mj_l μ h0 43)) rfl kc_M 43 (by decide) tw_666 md_M_microsecond_95 ht1 rfl ?_
        refine mj_aload_n 0 md_M_microsecond_98 rfl ?_
        refine mj_getf (v := .long (mj_l μ h0 30)) rfl kc_M 30 (by decide) tw_653 md_M_microsecond_99 ht1 rfl ?_
        refine mj_lcmp md_M_microsecond_102 ?_
        obtain ⟨H1, H2⟩ := H
        refine mj_if_lt (tgt := 121) md_M_microsecond_103 (by decide) (fun hx => ?_) (fun hx => ?_)
        · replace H := H1 ((lg_cmp_lt (mj_l μ h0 43) (mj_l μ h0 30)).mp hx)
          exact mj_lvs [0] rfl H
        · replace H := H2 (fun hy => hx ((lg_cmp_lt (mj_l μ h0 43) (mj_l μ h0 30)).mpr hy))
          refine mj_aload_n 0 md_M_microsecond_106 rfl ?_
          refine mj_bipush (v := 9) md_M_microsecond_107 (by decide) ?_
          refine mj_aload_n 0 md_M_microsecond_109 rfl ?_
          refine mj_getf (v := .int (mj_i μ h0 29)) rfl kc_M 29 (by decide) tw_652 md_M_microsecond_110 ht1 rfl ?_
          obtain ⟨P, hM, H⟩ := H
          exact mj_callV (n := 2) (As := [.int 9, .int (mj_i μ h0 29)]) rfl hM kc_M ht1 ⟨tw_814, tw_8, tw_817, ⟨by decide, by decide, by decide +kernel⟩, by decide, by decide⟩ tw_816 tp_36 rfl md_M_microsecond_113 (by first | decide | (simp only [List.map_cons, List.map_nil, List.sum_cons, List.sum_nil, mj_rfc, mj_ci, mj_cl]; done) | (simp only [List.map_cons, List.map_nil, List.sum_cons, List.sum_nil, mj_rfc, mj_ci, mj_cl]; decide)) id (mj_kV (fun μ' hP e1 e2 => mj_lvs [0] rfl (H μ' hP e1 e2)))
  · replace H := H2 hx
    refine mj_iconst (v := 0) md_M_microsecond_46 (by decide) ?_
    refine mj_istn (i := 1) (lv' := [(1, .int 0), (0, va_rf (some h0))]) md_M_microsecond_47 rfl (by decide) (by first | rfl | (simp [mj_rfc]; done) | (simp [mj_rfc]; rfl)) ?_
    exact mj_lvs [1, 0] rfl H

set_option maxRecDepth 20000 in
theorem bk_M_microsecond_34 {G : mj_G} {Ex : Option Value → mj_MM → Prop} {N S : Nat} {μ : mj_MM} {h0 : Nat} {v1 : Int32}
    (H : mj_J G mY_M_microsecond Ex N S 2 [(0, va_rf (some h0)), (1, .int (v1 + 1))] [] μ) :
    mj_J G mY_M_microsecond Ex N S 34 [(0, va_rf (some h0)), (1, .int v1)] [] μ := by
  refine mj_iinc (j := 1) (v := v1 + 1) (lv' := [(1, .int (v1 + 1)), (0, va_rf (some h0))]) md_M_microsecond_34 rfl rfl (by decide) (by first | rfl | (simp [mj_rfc]; done) | (simp [mj_rfc]; rfl)) ?_
  refine mj_goto (tgt := 2) md_M_microsecond_37 (by decide) ?_
  exact mj_lvs [1, 0] rfl H

set_option maxRecDepth 20000 in
theorem bk_M_microsecond_121 {G : mj_G} {Ex : Option Value → mj_MM → Prop} {N S : Nat} {μ : mj_MM} {h0 : Nat}
    (H : mj_J G mY_M_microsecond Ex N S 123 [(0, va_rf (some h0)), (2, .int 0)] [] μ) :
    mj_J G mY_M_microsecond Ex N S 121 [(0, va_rf (some h0))] [] μ := by
  refine mj_iconst (v := 0) md_M_microsecond_121 (by decide) ?_
  refine mj_istn (i := 2) (lv' := [(2, .int 0), (0, va_rf (some h0))]) md_M_microsecond_122 rfl (by decide) (by first | rfl | (simp [mj_rfc]; done) | (simp [mj_rfc]; rfl)) ?_
  exact mj_lvs [1, 0] rfl H

set_option maxRecDepth 20000 in
theorem bk_M_microsecond_116 {G : mj_G} {Ex : Option Value → mj_MM → Prop} {N S : Nat} {μ : mj_MM} {h0 : Nat}
    (H : ((mj_t μ h0 = 11) ∧ mj_J G mY_M_microsecond Ex N S 121 [(0, va_rf (some h0))] [] (mj_pI μ h0 31 1))) :
    mj_J G mY_M_microsecond Ex N S 116 [(0, va_rf (some h0))] [] μ := by
  refine mj_aload_n 0 md_M_microsecond_116 rfl ?_
  refine mj_iconst (v := 1) md_M_microsecond_117 (by decide) ?_
  obtain ⟨ht1, H⟩ := H
  refine mj_putI rfl kc_M 31 (by decide) rfl tw_654 md_M_microsecond_118 (Or.inl rfl) ht1 (by decide) (by decide) ?_
  exact mj_lvs [0] rfl H

set_option maxRecDepth 20000 in
theorem bk_M_microsecond_48 {G : mj_G} {Ex : Option Value → mj_MM → Prop} {N S : Nat} {μ : mj_MM} {h0 : Nat} {v1 : Int32}
    (H : mj_J G mY_M_microsecond Ex N S 50 [(0, va_rf (some h0)), (1, .int v1), (2, .int 0)] [] μ) :
    mj_J G mY_M_microsecond Ex N S 48 [(0, va_rf (some h0)), (1, .int v1)] [] μ := by
  refine mj_iconst (v := 0) md_M_microsecond_48 (by decide) ?_
  refine mj_istn (i := 2) (lv' := [(2, .int 0), (0, va_rf (some h0)), (1, .int v1)]) md_M_microsecond_49 rfl (by decide) (by first | rfl | (simp [mj_rfc]; done) | (simp [mj_rfc]; rfl)) ?_
  exact mj_lvs [1, 2, 0] rfl H

set_option maxRecDepth 20000 in
theorem bk_M_microsecond_123 {G : mj_G} {Ex : Option Value → mj_MM → Prop} {N S : Nat} {μ : mj_MM} {h0 : Nat} {v2 : Int32}
    (H : mj_J G mY_M_microsecond Ex N S 125 [(0, va_rf (some h0)), (2, .int v2), (3, .int 0)] [] μ) :
    mj_J G mY_M_microsecond Ex N S 123 [(0, va_rf (some h0)), (2, .int v2)] [] μ := by
  refine mj_iconst (v := 0) md_M_microsecond_123 (by decide) ?_
  refine mj_istn (i := 3) (lv' := [(3, .int 0), (0, va_rf (some h0)), (2, .int v2)]) md_M_microsecond_124 rfl (by decide) (by first | rfl | (simp [mj_rfc]; done) | (simp [mj_rfc]; rfl)) ?_
  exact mj_lvs [1, 2, 0] rfl H

set_option maxRecDepth 20000 in
theorem bk_M_microsecond_50 {G : mj_G} {Ex : Option Value → mj_MM → Prop} {N S : Nat} {μ : mj_MM} {h0 : Nat} {v1 : Int32} {v2 : Int32}
    (H : ((mj_t μ h0 = 11) ∧ (((mj_i μ h0 0) ≤ v2 → mj_J G mY_M_microsecond Ex N S 42 [(0, va_rf (some h0)), (1, .int v1)] [] μ) ∧ (¬ (mj_i μ h0 0) ≤ v2 → mj_J G mY_M_microsecond Ex N S 58 [(0, va_rf (some h0)), (1, .int v1), (2, .int v2)] [] μ)))) :
    mj_J G mY_M_microsecond Ex N S 50 [(0, va_rf (some h0)), (1, .int v1), (2, .int v2)] [] μ := by
  refine mj_iload_n 2 md_M_microsecond_50 rfl ?_
  refine mj_aload_n 0 md_M_microsecond_51 rfl ?_
  obtain ⟨ht1, H⟩ := H
  refine mj_getf (v := .int (mj_i μ h0 0)) rfl kc_M 0 (by decide) tw_623 md_M_microsecond_52 ht1 rfl ?_
  obtain ⟨H1, H2⟩ := H
  refine mj_icmp_ge (tgt := 77) md_M_microsecond_55 (by decide) (fun hx => ?_) (fun hx => ?_)
  · replace H := H1 hx
    refine mj_goto (tgt := 42) md_M_microsecond_77 (by decide) ?_
    exact mj_lvs [0, 1] rfl H
  · replace H := H2 hx
    exact mj_lvs [0, 1, 2] rfl H

set_option maxRecDepth 20000 in
theorem bk_M_microsecond_125 {G : mj_G} {Ex : Option Value → mj_MM → Prop} {N S : Nat} {μ : mj_MM} {h0 : Nat} {v2 : Int32} {v3 : Int32}
    (H : ((mj_t μ h0 = 11) ∧ (((mj_i μ h0 0) ≤ v3 → Ex (some (.int v2)) (mj_pL μ h0 43 ((mj_l μ h0 43) + 1))) ∧ (¬ (mj_i μ h0 0) ≤ v3 → (∃ P : Int32 → mj_MM → Prop, mj_M G my_M_choose mY_M_choose [va_rf (some h0), .int v3] (mj_nc μ) (mj_ns μ) μ (mj_XI P) ∧ ∀ (x : Int32) (μ' : mj_MM), P x μ' → mj_nc μ' = mj_nc μ → mj_ns μ' = mj_ns μ → mj_J G mY_M_microsecond Ex N S 138 [(0, va_rf (some h0)), (2, .int v2), (3, .int v3)] [.int x] μ'))))) :
    mj_J G mY_M_microsecond Ex N S 125 [(0, va_rf (some h0)), (2, .int v2), (3, .int v3)] [] μ := by
  refine mj_iload_n 2 md_M_microsecond_125 rfl ?_
  refine mj_aload_n 0 md_M_microsecond_126 rfl ?_
  obtain ⟨ht1, H⟩ := H
  refine mj_getf (v := .int (mj_i μ h0 0)) rfl kc_M 0 (by decide) tw_623 md_M_microsecond_127 ht1 rfl ?_
  obtain ⟨H1, H2⟩ := H
  refine mj_icmp_ge (tgt := 278) md_M_microsecond_130 (by decide) (fun hx => ?_) (fun hx => ?_)
  · replace H := H1 hx
    refine mj_aload_n 0 md_M_microsecond_278 rfl ?_
    refine mj_dup md_M_microsecond_279 (mj_rfc _) ?_
    refine mj_getf (v := .long (mj_l μ h0 43)) rfl kc_M 43 (by decide) tw_666 md_M_microsecond_280 ht1 rfl ?_
    refine mj_lconst (v := 1) md_M_microsecond_283 (by decide) ?_
    refine mj_ladd md_M_microsecond_284 ?_
    refine mj_putL rfl kc_M 43 (by decide) rfl tw_666 md_M_microsecond_285 (Or.inl rfl) ht1 ?_
    refine mj_iload_n 1 md_M_microsecond_288 rfl ?_
    exact mj_ireturn md_M_microsecond_289 rfl rfl H
  · replace H := H2 hx
    refine mj_aload_n 0 md_M_microsecond_133 rfl ?_
    refine mj_iload_n 2 md_M_microsecond_134 rfl ?_
    obtain ⟨P, hM, H⟩ := H
    exact mj_callV (n := 1) (As := [.int v3]) rfl hM kc_M ht1 ⟨tw_830, tw_8, tw_833, ⟨by decide, by decide, by decide +kernel⟩, by decide, by decide⟩ tw_832 tp_40 rfl md_M_microsecond_135 (by first | decide | (simp only [List.map_cons, List.map_nil, List.sum_cons, List.sum_nil, mj_rfc, mj_ci, mj_cl]; done) | (simp only [List.map_cons, List.map_nil, List.sum_cons, List.sum_nil, mj_rfc, mj_ci, mj_cl]; decide)) id (mj_kI (fun x μ' hP e1 e2 => mj_lvs [0, 1, 2] rfl (H x μ' hP e1 e2)))

set_option maxRecDepth 20000 in
theorem bk_M_microsecond_58 {G : mj_G} {Ex : Option Value → mj_MM → Prop} {N S : Nat} {μ : mj_MM} {h0 : Nat} {v1 : Int32} {v2 : Int32}
    (H : ((mj_t μ h0 = 11) ∧ (∃ P : Int32 → mj_MM → Prop, mj_M G my_M_step mY_M_step [va_rf (some h0), .int v2] (mj_nc μ) (mj_ns μ) μ (mj_XI P) ∧ ∀ (x : Int32) (μ' : mj_MM), P x μ' → mj_nc μ' = mj_nc μ → mj_ns μ' = mj_ns μ → mj_J G mY_M_microsecond Ex N S 63 [(0, va_rf (some h0)), (1, .int v1), (2, .int v2)] [.int x] μ'))) :
    mj_J G mY_M_microsecond Ex N S 58 [(0, va_rf (some h0)), (1, .int v1), (2, .int v2)] [] μ := by
  refine mj_aload_n 0 md_M_microsecond_58 rfl ?_
  refine mj_iload_n 2 md_M_microsecond_59 rfl ?_
  obtain ⟨ht1, H⟩ := H
  obtain ⟨P, hM, H⟩ := H
  exact mj_callV (n := 1) (As := [.int v2]) rfl hM kc_M ht1 ⟨tw_822, tw_8, tw_825, ⟨by decide, by decide, by decide +kernel⟩, by decide, by decide⟩ tw_824 tp_38 rfl md_M_microsecond_60 (by first | decide | (simp only [List.map_cons, List.map_nil, List.sum_cons, List.sum_nil, mj_rfc, mj_ci, mj_cl]; done) | (simp only [List.map_cons, List.map_nil, List.sum_cons, List.sum_nil, mj_rfc, mj_ci, mj_cl]; decide)) id (mj_kI (fun x μ' hP e1 e2 => mj_lvs [0, 1, 2] rfl (H x μ' hP e1 e2)))

set_option maxRecDepth 20000 in
theorem bk_M_microsecond_138 {G : mj_G} {Ex : Option Value → mj_MM → Prop} {N S : Nat} {μ : mj_MM} {h0 : Nat} {v2 : Int32} {v3 : Int32} {s0 : Int32}
    (H : mj_J G mY_M_microsecond Ex N S 140 [(0, va_rf (some h0)), (2, .int v2), (3, .int v3), (4, .int s0)] [] μ) :
    mj_J G mY_M_microsecond Ex N S 138 [(0, va_rf (some h0)), (2, .int v2), (3, .int v3)] [.int s0] μ := by
  refine mj_istore (lv' := [(4, .int s0), (0, va_rf (some h0)), (2, .int v2), (3, .int v3)]) md_M_microsecond_138 (by decide) (by first | rfl | (simp [mj_rfc]; done) | (simp [mj_rfc]; rfl)) ?_
  exact mj_lvs [1, 2, 3, 0] rfl H

set_option maxRecDepth 20000 in
theorem bk_M_microsecond_63 {G : mj_G} {Ex : Option Value → mj_MM → Prop} {N S : Nat} {μ : mj_MM} {h0 : Nat} {v1 : Int32} {v2 : Int32} {s0 : Int32}
    (H : ((s0 = 0 → mj_J G mY_M_microsecond Ex N S 50 [(0, va_rf (some h0)), (1, .int v1), (2, .int (v2 + 1))] [] μ) ∧ (¬ s0 = 0 → mj_J G mY_M_microsecond Ex N S 68 [(0, va_rf (some h0)), (1, .int 1), (2, .int v2)] [] μ))) :
    mj_J G mY_M_microsecond Ex N S 63 [(0, va_rf (some h0)), (1, .int v1), (2, .int v2)] [.int s0] μ := by
  obtain ⟨H1, H2⟩ := H
  refine mj_if_eq (tgt := 71) md_M_microsecond_63 (by decide) (fun hx => ?_) (fun hx => ?_)
  · replace H := H1 hx
    refine mj_iinc (j := 2) (v := v2 + 1) (lv' := [(2, .int (v2 + 1)), (0, va_rf (some h0)), (1, .int v1)]) md_M_microsecond_71 rfl rfl (by decide) (by first | rfl | (simp [mj_rfc]; done) | (simp [mj_rfc]; rfl)) ?_
    refine mj_goto (tgt := 50) md_M_microsecond_74 (by decide) ?_
    exact mj_lvs [1, 2, 0] rfl H
  · replace H := H2 hx
    refine mj_iconst (v := 1) md_M_microsecond_66 (by decide) ?_
    refine mj_istn (i := 1) (lv' := [(1, .int 1), (0, va_rf (some h0)), (2, .int v2)]) md_M_microsecond_67 rfl (by decide) (by first | rfl | (simp [mj_rfc]; done) | (simp [mj_rfc]; rfl)) ?_
    exact mj_lvs [1, 0, 2] rfl H

set_option maxRecDepth 20000 in
theorem bk_M_microsecond_140 {G : mj_G} {Ex : Option Value → mj_MM → Prop} {N S : Nat} {μ : mj_MM} {h0 : Nat} {v2 : Int32} {v3 : Int32} {v4 : Int32}
    (H : ((¬ v3 = 0 → mj_J G mY_M_microsecond Ex N S 154 [(0, va_rf (some h0)), (2, .int v2), (3, .int v3), (4, .int v4), (5, .int (-1))] [] μ) ∧ (v3 = 0 → ((mj_t μ h0 = 11) ∧ (∃ P : Int32 → mj_MM → Prop, mj_M G my_M_atHand mY_M_atHand [va_rf (some h0)] (mj_nc μ) (mj_ns μ) μ (mj_XI P) ∧ ∀ (x : Int32) (μ' : mj_MM), P x μ' → mj_nc μ' = mj_nc μ → mj_ns μ' = mj_ns μ → mj_J G mY_M_microsecond Ex N S 148 [(0, va_rf (some h0)), (2, .int v2), (3, .int v3), (4, .int v4)] [.int x] μ'))))) :
    mj_J G mY_M_microsecond Ex N S 140 [(0, va_rf (some h0)), (2, .int v2), (3, .int v3), (4, .int v4)] [] μ := by
  refine mj_iload_n 2 md_M_microsecond_140 rfl ?_
  obtain ⟨H1, H2⟩ := H
  refine mj_if_ne (tgt := 151) md_M_microsecond_141 (by decide) (fun hx => ?_) (fun hx => ?_)
  · replace H := H1 hx
    refine mj_iconst (v := (-1)) md_M_microsecond_151 (by decide) ?_
    refine mj_istore (lv' := [(5, .int (-1)), (0, va_rf (some h0)), (2, .int v2), (3, .int v3), (4, .int v4)]) md_M_microsecond_152 (by decide) (by first | rfl | (simp [mj_rfc]; done) | (simp [mj_rfc]; rfl)) ?_
    exact mj_lvs [1, 2, 3, 4, 0] rfl H
  · replace H := H2 hx
    refine mj_aload_n 0 md_M_microsecond_144 rfl ?_
    obtain ⟨ht1, H⟩ := H
    obtain ⟨P, hM, H⟩ := H
    exact mj_callV (n := 0) (As := []) rfl hM kc_M ht1 ⟨tw_826, tw_8, tw_829, ⟨by decide, by decide, by decide +kernel⟩, by decide, by decide⟩ tw_828 tp_39 rfl md_M_microsecond_145 (by first | decide | (simp only [List.map_cons, List.map_nil, List.sum_cons, List.sum_nil, mj_rfc, mj_ci, mj_cl]; done) | (simp only [List.map_cons, List.map_nil, List.sum_cons, List.sum_nil, mj_rfc, mj_ci, mj_cl]; decide)) id (mj_kI (fun x μ' hP e1 e2 => mj_lvs [0, 1, 2, 3] rfl (H x μ' hP e1 e2)))

set_option maxRecDepth 20000 in
theorem bk_M_microsecond_68 {G : mj_G} {Ex : Option Value → mj_MM → Prop} {N S : Nat} {μ : mj_MM} {h0 : Nat} {v1 : Int32} {v2 : Int32}
    (H : mj_J G mY_M_microsecond Ex N S 58 [(0, va_rf (some h0)), (1, .int v1), (2, .int v2)] [] μ) :
    mj_J G mY_M_microsecond Ex N S 68 [(0, va_rf (some h0)), (1, .int v1), (2, .int v2)] [] μ := by
  refine mj_goto (tgt := 58) md_M_microsecond_68 (by decide) ?_
  exact mj_lvs [0, 1, 2] rfl H

set_option maxRecDepth 20000 in
theorem bk_M_microsecond_154 {G : mj_G} {Ex : Option Value → mj_MM → Prop} {N S : Nat} {μ : mj_MM} {h0 : Nat} {v2 : Int32} {v3 : Int32} {v4 : Int32} {v5 : Int32}
    (H : ((v5 < 0 → mj_J G mY_M_microsecond Ex N S 177 [(0, va_rf (some h0)), (2, .int v2), (3, .int v3), (4, .int v4), (5, .int v5), (6, .int v4)] [] μ) ∧ (¬ v5 < 0 → ((mj_t μ h0 = 11) ∧ ∃ b2 : Nat, (mj_r μ h0 36 = some b2) ∧ (mj_t μ b2 = 1000) ∧ (vp_in v5 (mj_n μ b2)) ∧ mj_J G mY_M_microsecond Ex N S 177 [(0, va_rf (some h0)), (2, .int v2), (3, .int v3), (4, .int v4), (5, .int v5), (6, .int (1000 + (mj_i μ b2 (Int32.toNatClampNeg v5))))] [] μ)))) :
    mj_J G mY_M_microsecond Ex N S 154 [(0, va_rf (some h0)), (2, .int v2), (3, .int v3), (4, .int v4), (5, .int v5)] [] μ := by
  refine mj_iload 4 md_M_microsecond_154 rfl ?_
  obtain ⟨H1, H2⟩ := H
  refine mj_if_lt (tgt := 173) md_M_microsecond_156 (by decide) (fun hx => ?_) (fun hx => ?_)
  · replace H := H1 hx
    refine mj_iload 3 md_M_microsecond_173 rfl ?_
    refine mj_istore (lv' := [(6, .int v4), (0, va_rf (some h0)), (2, .int v2), (3, .int v3), (4, .int v4), (5, .int v5)]) md_M_microsecond_175 (by decide) (by first | rfl | (simp [mj_rfc]; done) | (simp [mj_rfc]; rfl)) ?_
    exact mj_lvs [1, 2, 3, 4, 5, 0] rfl H
  · replace H := H2 hx
    refine mj_sipush (v := 1000) md_M_microsecond_159 (by decide) ?_
    refine mj_aload_n 0 md_M_microsecond_162 rfl ?_
    obtain ⟨ht1, H⟩ := H
    refine mj_getf (v := va_rf (mj_r μ h0 36)) rfl kc_M 36 (by decide) tw_659 md_M_microsecond_163 ht1 rfl ?_
    refine mj_iload 4 md_M_microsecond_166 rfl ?_
    obtain ⟨b2, hb3, H⟩ := H
    obtain ⟨ht4, H⟩ := H
    obtain ⟨hi5, H⟩ := H
    refine mj_iald (t := 0) hb3 rfl ht4 hi5 md_M_microsecond_168 ?_
    refine mj_iadd md_M_microsecond_169 ?_
    refine mj_goto (tgt := 175) md_M_microsecond_170 (by decide) ?_
    refine mj_istore (lv' := [(6, .int (1000 + (mj_i μ b2 (Int32.toNatClampNeg v5)))), (0, va_rf (some h0)), (2, .int v2), (3, .int v3), (4, .int v4), (5, .int v5)]) md_M_microsecond_175 (by decide) (by first | rfl | (simp [mj_rfc]; done) | (simp [mj_rfc]; rfl)) ?_
    exact mj_lvs [1, 2, 3, 4, 5, 0] rfl H

set_option maxRecDepth 20000 in
theorem bk_M_microsecond_148 {G : mj_G} {Ex : Option Value → mj_MM → Prop} {N S : Nat} {μ : mj_MM} {h0 : Nat} {v2 : Int32} {v3 : Int32} {v4 : Int32} {s0 : Int32}
    (H : mj_J G mY_M_microsecond Ex N S 154 [(0, va_rf (some h0)), (2, .int v2), (3, .int v3), (4, .int v4), (5, .int s0)] [] μ) :
    mj_J G mY_M_microsecond Ex N S 148 [(0, va_rf (some h0)), (2, .int v2), (3, .int v3), (4, .int v4)] [.int s0] μ := by
  refine mj_goto (tgt := 152) md_M_microsecond_148 (by decide) ?_
  refine mj_istore (lv' := [(5, .int s0), (0, va_rf (some h0)), (2, .int v2), (3, .int v3), (4, .int v4)]) md_M_microsecond_152 (by decide) (by first | rfl | (simp [mj_rfc]; done) | (simp [mj_rfc]; rfl)) ?_
  exact mj_lvs [1, 2, 3, 4, 0] rfl H

set_option maxRecDepth 20000 in
theorem bk_M_microsecond_177 {G : mj_G} {Ex : Option Value → mj_MM → Prop} {N S : Nat} {μ : mj_MM} {h0 : Nat} {v2 : Int32} {v3 : Int32} {v4 : Int32} {v5 : Int32} {v6 : Int32}
    (H : ((mj_t μ h0 = 11) ∧ ∃ b2 : Nat, (mj_r μ h0 44 = some b2) ∧ (mj_t μ b2 = 1003) ∧ (vp_in ((50000 * v3) + (Int64.toInt32 (mj_l μ h0 43))) (mj_n μ b2)) ∧ (narrow .short (.int ((Int32.toInt16 v6).toInt32)) = .int ((Int32.toInt16 v6).toInt32)) ∧ mj_J G mY_M_microsecond Ex N S 195 [(0, va_rf (some h0)), (2, .int v2), (3, .int v3), (4, .int v4), (5, .int v5), (6, .int v6)] [] (mj_pI μ b2 (Int32.toNatClampNeg ((50000 * v3) + (Int64.toInt32 (mj_l μ h0 43)))) ((Int32.toInt16 v6).toInt32)))) :
    mj_J G mY_M_microsecond Ex N S 177 [(0, va_rf (some h0)), (2, .int v2), (3, .int v3), (4, .int v4), (5, .int v5), (6, .int v6)] [] μ := by
  refine mj_aload_n 0 md_M_microsecond_177 rfl ?_
  obtain ⟨ht1, H⟩ := H
  refine mj_getf (v := va_rf (mj_r μ h0 44)) rfl kc_M 44 (by decide) tw_667 md_M_microsecond_178 ht1 rfl ?_
  refine mj_ldc (v := 50000) tw_875 md_M_microsecond_181 ?_
  refine mj_iload_n 2 md_M_microsecond_183 rfl ?_
  refine mj_imul md_M_microsecond_184 ?_
  refine mj_aload_n 0 md_M_microsecond_185 rfl ?_
  refine mj_getf (v := .long (mj_l μ h0 43)) rfl kc_M 43 (by decide) tw_666 md_M_microsecond_186 ht1 rfl ?_
  refine mj_l2i md_M_microsecond_189 ?_
  refine mj_iadd md_M_microsecond_190 ?_
  refine mj_iload 5 md_M_microsecond_191 rfl ?_
  refine mj_i2s md_M_microsecond_193 ?_
  obtain ⟨b2, hb3, H⟩ := H
  obtain ⟨ht4, H⟩ := H
  obtain ⟨hi5, H⟩ := H
  obtain ⟨hz6, H⟩ := H
  refine mj_sast (t := 3) hb3 rfl ht4 hi5 hz6 md_M_microsecond_194 ?_
  exact mj_lvs [0, 1, 2, 3, 4, 5] rfl H

set_option maxRecDepth 20000 in
theorem bk_M_microsecond_195 {G : mj_G} {Ex : Option Value → mj_MM → Prop} {N S : Nat} {μ : mj_MM} {h0 : Nat} {v2 : Int32} {v3 : Int32} {v4 : Int32} {v5 : Int32} {v6 : Int32}
    (H : ((mj_t μ h0 = 11) ∧ (((mj_l μ h0 43) ≤ 0 → mj_J G mY_M_microsecond Ex N S 227 [(0, va_rf (some h0)), (2, .int v2), (3, .int v3), (4, .int v4), (5, .int v5), (6, .int v6), (7, .int 0)] [] μ) ∧ (¬ (mj_l μ h0 43) ≤ 0 → (∃ b2 : Nat, (mj_r μ h0 44 = some b2) ∧ (mj_t μ b2 = 1003) ∧ (vp_in (((50000 * v3) + (Int64.toInt32 (mj_l μ h0 43))) - 1) (mj_n μ b2)) ∧ mj_J G mY_M_microsecond Ex N S 227 [(0, va_rf (some h0)), (2, .int v2), (3, .int v3), (4, .int v4), (5, .int v5), (6, .int v6), (7, .int (mj_i μ b2 (Int32.toNatClampNeg (((50000 * v3) + (Int64.toInt32 (mj_l μ h0 43))) - 1))))] [] μ))))) :
    mj_J G mY_M_microsecond Ex N S 195 [(0, va_rf (some h0)), (2, .int v2), (3, .int v3), (4, .int v4), (5, .int v5), (6, .int v6)] [] μ := by
  refine mj_aload_n 0 md_M_microsecond_195 rfl ?_
  obtain ⟨ht1, H⟩ := H
  refine mj_getf (v := .long (mj_l μ h0 43)) rfl kc_M 43 (by decide) tw_666 md_M_microsecond_196 ht1 rfl ?_
  refine mj_lconst (v := 0) md_M_microsecond_199 (by decide) ?_
  refine mj_lcmp md_M_microsecond_200 ?_
  obtain ⟨H1, H2⟩ := H
  refine mj_if_le (tgt := 224) md_M_microsecond_201 (by decide) (fun hx => ?_) (fun hx => ?_)
  · replace H := H1 ((lg_cmp_le (mj_l μ h0 43) 0).mp hx)
    refine mj_iconst (v := 0) md_M_microsecond_224 (by decide) ?_
    refine mj_istore (lv' := [(7, .int 0), (0, va_rf (some h0)), (2, .int v2), (3, .int v3), (4, .int v4), (5, .int v5), (6, .int v6)]) md_M_microsecond_225 (by decide) (by first | rfl | (simp [mj_rfc]; done) | (simp [mj_rfc]; rfl)) ?_
    exact mj_lvs [1, 2, 3, 4, 5, 6, 0] rfl H
  · replace H := H2 (fun hy => hx ((lg_cmp_le (mj_l μ h0 43) 0).mpr hy))
    refine mj_aload_n 0 md_M_microsecond_204 rfl ?_
    refine mj_getf (v := va_rf (mj_r μ h0 44)) rfl kc_M 44 (by decide) tw_667 md_M_microsecond_205 ht1 rfl ?_
    refine mj_ldc (v := 50000) tw_875 md_M_microsecond_208 ?_
    refine mj_iload_n 2 md_M_microsecond_210 rfl ?_
    refine mj_imul md_M_microsecond_211 ?_
    refine mj_aload_n 0 md_M_microsecond_212 rfl ?_
    refine mj_getf (v := .long (mj_l μ h0 43)) rfl kc_M 43 (by decide) tw_666 md_M_microsecond_213 ht1 rfl ?_
    refine mj_l2i md_M_microsecond_216 ?_
    refine mj_iadd md_M_microsecond_217 ?_
    refine mj_iconst (v := 1) md_M_microsecond_218 (by decide) ?_
    refine mj_isub md_M_microsecond_219 ?_
    obtain ⟨b2, hb3, H⟩ := H
    obtain ⟨ht4, H⟩ := H
    obtain ⟨hi5, H⟩ := H
    refine mj_sald (t := 3) hb3 rfl ht4 hi5 md_M_microsecond_220 ?_
    refine mj_goto (tgt := 225) md_M_microsecond_221 (by decide) ?_
    refine mj_istore (lv' := [(7, .int (mj_i μ b2 (Int32.toNatClampNeg (((50000 * v3) + (Int64.toInt32 (mj_l μ h0 43))) - 1)))), (0, va_rf (some h0)), (2, .int v2), (3, .int v3), (4, .int v4), (5, .int v5), (6, .int v6)]) md_M_microsecond_225 (by decide) (by first | rfl | (simp [mj_rfc]; done) | (simp [mj_rfc]; rfl)) ?_
    exact mj_lvs [1, 2, 3, 4, 5, 6, 0] rfl H

set_option maxRecDepth 20000 in
theorem bk_M_microsecond_227 {G : mj_G} {Ex : Option Value → mj_MM → Prop} {N S : Nat} {μ : mj_MM} {h0 : Nat} {v2 : Int32} {v3 : Int32} {v4 : Int32} {v5 : Int32} {v6 : Int32} {v7 : Int32}
    (H : ((v6 = v7 → mj_J G mY_M_microsecond Ex N S 242 [(0, va_rf (some h0)), (2, .int v2), (3, .int v3), (4, .int v4), (5, .int v5)] [] μ) ∧ (¬ v6 = v7 → mj_J G mY_M_microsecond Ex N S 242 [(0, va_rf (some h0)), (2, .int (v2 + 1)), (3, .int v3), (4, .int v4), (5, .int v5)] [] μ))) :
    mj_J G mY_M_microsecond Ex N S 227 [(0, va_rf (some h0)), (2, .int v2), (3, .int v3), (4, .int v4), (5, .int v5), (6, .int v6), (7, .int v7)] [] μ := by
  refine mj_iload 5 md_M_microsecond_227 rfl ?_
  refine mj_iload 6 md_M_microsecond_229 rfl ?_
  obtain ⟨H1, H2⟩ := H
  refine mj_icmp_eq (tgt := 240) md_M_microsecond_231 (by decide) (fun hx => ?_) (fun hx => ?_)
  · replace H := H1 hx
    refine mj_iload_n 1 md_M_microsecond_240 rfl ?_
    refine mj_istn (i := 2) (lv' := [(2, .int v2), (0, va_rf (some h0)), (3, .int v3), (4, .int v4), (5, .int v5), (6, .int v6), (7, .int v7)]) md_M_microsecond_241 rfl (by decide) (by first | rfl | (simp [mj_rfc]; done) | (simp [mj_rfc]; rfl)) ?_
    exact mj_lvs [1, 0, 2, 3, 4] rfl H
  · replace H := H2 hx
    refine mj_iload_n 1 md_M_microsecond_234 rfl ?_
    refine mj_iconst (v := 1) md_M_microsecond_235 (by decide) ?_
    refine mj_iadd md_M_microsecond_236 ?_
    refine mj_goto (tgt := 241) md_M_microsecond_237 (by decide) ?_
    refine mj_istn (i := 2) (lv' := [(2, .int (v2 + 1)), (0, va_rf (some h0)), (3, .int v3), (4, .int v4), (5, .int v5), (6, .int v6), (7, .int v7)]) md_M_microsecond_241 rfl (by decide) (by first | rfl | (simp [mj_rfc]; done) | (simp [mj_rfc]; rfl)) ?_
    exact mj_lvs [1, 0, 2, 3, 4] rfl H

set_option maxRecDepth 20000 in
theorem bk_M_microsecond_242 {G : mj_G} {Ex : Option Value → mj_MM → Prop} {N S : Nat} {μ : mj_MM} {h0 : Nat} {v2 : Int32} {v3 : Int32} {v4 : Int32} {v5 : Int32}
    (H : ((v5 < 0 → ((v4 ≤ 0 → mj_J G mY_M_microsecond Ex N S 272 [(0, va_rf (some h0)), (2, .int v2), (3, .int v3)] [] μ) ∧ (¬ v4 ≤ 0 → ((mj_t μ h0 = 11) ∧ (∃ P : mj_MM → Prop, mj_M G my_M_pass mY_M_pass [va_rf (some h0), .int v4] (mj_nc μ) (mj_ns μ) μ (mj_XV P) ∧ ∀ (μ' : mj_MM), P μ' → mj_nc μ' = mj_nc μ → mj_ns μ' = mj_ns μ → mj_J G mY_M_microsecond Ex N S 272 [(0, va_rf (some h0)), (2, .int v2), (3, .int v3)] [] μ'))))) ∧ (¬ v5 < 0 → ((mj_t μ h0 = 11) ∧ ∃ b3 : Nat, (mj_r μ h0 38 = some b3) ∧ (mj_t μ b3 = 1001) ∧ (vp_in v5 (mj_n μ b3)) ∧ (vp_in v5 (mj_n μ b3)) ∧ mj_J G mY_M_microsecond Ex N S 258 [(0, va_rf (some h0)), (2, .int v2), (3, .int v3)] [] (mj_pL μ b3 (Int32.toNatClampNeg v5) ((mj_l μ b3 (Int32.toNatClampNeg v5)) - 1)))))) :
    mj_J G mY_M_microsecond Ex N S 242 [(0, va_rf (some h0)), (2, .int v2), (3, .int v3), (4, .int v4), (5, .int v5)] [] μ := by
  refine mj_iload 4 md_M_microsecond_242 rfl ?_
  obtain ⟨H1, H2⟩ := H
  refine mj_if_lt (tgt := 261) md_M_microsecond_244 (by decide) (fun hx => ?_) (fun hx => ?_)
  · replace H := H1 hx
    refine mj_iload 3 md_M_microsecond_261 rfl ?_
    obtain ⟨H1, H2⟩ := H
    refine mj_if_le (tgt := 272) md_M_microsecond_263 (by decide) (fun hx => ?_) (fun hx => ?_)
    · replace H := H1 hx
      exact mj_lvs [0, 1, 2] rfl H
    · replace H := H2 hx
      refine mj_aload_n 0 md_M_microsecond_266 rfl ?_
      refine mj_iload 3 md_M_microsecond_267 rfl ?_
      obtain ⟨ht1, H⟩ := H
      obtain ⟨P, hM, H⟩ := H
      exact mj_callV (n := 1) (As := [.int v4]) rfl hM kc_M ht1 ⟨tw_876, tw_8, tw_879, ⟨by decide, by decide, by decide +kernel⟩, by decide, by decide⟩ tw_878 tp_51 rfl md_M_microsecond_269 (by first | decide | (simp only [List.map_cons, List.map_nil, List.sum_cons, List.sum_nil, mj_rfc, mj_ci, mj_cl]; done) | (simp only [List.map_cons, List.map_nil, List.sum_cons, List.sum_nil, mj_rfc, mj_ci, mj_cl]; decide)) id (mj_kV (fun μ' hP e1 e2 => mj_lvs [0, 1, 2] rfl (H μ' hP e1 e2)))
  · replace H := H2 hx
    refine mj_aload_n 0 md_M_microsecond_247 rfl ?_
    obtain ⟨ht2, H⟩ := H
    refine mj_getf (v := va_rf (mj_r μ h0 38)) rfl kc_M 38 (by decide) tw_661 md_M_microsecond_248 ht2 rfl ?_
    refine mj_iload 4 md_M_microsecond_251 rfl ?_
    refine mj_dup2 md_M_microsecond_253 (rfl) (mj_rfc _) ?_
    obtain ⟨b3, hb4, H⟩ := H
    obtain ⟨ht5, H⟩ := H
    obtain ⟨hi6, H⟩ := H
    refine mj_lald (t := 1) hb4 rfl ht5 hi6 md_M_microsecond_254 ?_
    refine mj_lconst (v := 1) md_M_microsecond_255 (by decide) ?_
    refine mj_lsub md_M_microsecond_256 ?_
    obtain ⟨hi7, H⟩ := H
    refine mj_last (t := 1) hb4 rfl ht5 hi7 md_M_microsecond_257 ?_
    exact mj_lvs [0, 1, 2] rfl H

set_option maxRecDepth 20000 in
theorem bk_M_microsecond_272 {G : mj_G} {Ex : Option Value → mj_MM → Prop} {N S : Nat} {μ : mj_MM} {h0 : Nat} {v2 : Int32} {v3 : Int32}
    (H : mj_J G mY_M_microsecond Ex N S 125 [(0, va_rf (some h0)), (2, .int v2), (3, .int (v3 + 1))] [] μ) :
    mj_J G mY_M_microsecond Ex N S 272 [(0, va_rf (some h0)), (2, .int v2), (3, .int v3)] [] μ := by
  refine mj_iinc (j := 2) (v := v3 + 1) (lv' := [(3, .int (v3 + 1)), (0, va_rf (some h0)), (2, .int v2)]) md_M_microsecond_272 rfl rfl (by decide) (by first | rfl | (simp [mj_rfc]; done) | (simp [mj_rfc]; rfl)) ?_
  refine mj_goto (tgt := 125) md_M_microsecond_275 (by decide) ?_
  exact mj_lvs [1, 2, 0] rfl H

set_option maxRecDepth 20000 in
theorem bk_M_microsecond_258 {G : mj_G} {Ex : Option Value → mj_MM → Prop} {N S : Nat} {μ : mj_MM} {h0 : Nat} {v2 : Int32} {v3 : Int32}
    (H : mj_J G mY_M_microsecond Ex N S 272 [(0, va_rf (some h0)), (2, .int v2), (3, .int v3)] [] μ) :
    mj_J G mY_M_microsecond Ex N S 258 [(0, va_rf (some h0)), (2, .int v2), (3, .int v3)] [] μ := by
  refine mj_goto (tgt := 272) md_M_microsecond_258 (by decide) ?_
  exact mj_lvs [0, 1, 2] rfl H

set_option maxRecDepth 20000 in
theorem bk_M_run_0 {G : mj_G} {Ex : Option Value → mj_MM → Prop} {N S : Nat} {μ : mj_MM} {h0 : Nat} {v1 : Int64}
    (H : ((v1 < 0 → Ex (some (.int (-2))) μ) ∧ (¬ v1 < 0 → ((mj_t μ h0 = 11) ∧ ((v1 ≤ (50000 - (mj_l μ h0 43)) → (∃ P : mj_MM → Prop, mj_M G my_M_findCeilings mY_M_findCeilings [va_rf (some h0)] (mj_nc μ) (mj_ns μ) μ (mj_XV P) ∧ ∀ (μ' : mj_MM), P μ' → mj_nc μ' = mj_nc μ → mj_ns μ' = mj_ns μ → mj_J G mY_M_run Ex N S 26 [(0, va_rf (some h0)), (1, .long v1)] [] μ')) ∧ (¬ v1 ≤ (50000 - (mj_l μ h0 43)) → Ex (some (.int (-2))) μ)))))) :
    mj_J G mY_M_run Ex N S 0 [(0, va_rf (some h0)), (1, .long v1)] [] μ := by
  refine mj_lload_n 1 md_M_run_0 rfl ?_
  refine mj_lconst (v := 0) md_M_run_1 (by decide) ?_
  refine mj_lcmp md_M_run_2 ?_
  obtain ⟨H1, H2⟩ := H
  refine mj_if_lt (tgt := 19) md_M_run_3 (by decide) (fun hx => ?_) (fun hx => ?_)
  · replace H := H1 ((lg_cmp_lt v1 0).mp hx)
    refine mj_bipush (v := (-2)) md_M_run_19 (by decide) ?_
    exact mj_ireturn md_M_run_21 rfl rfl H
  · replace H := H2 (fun hy => hx ((lg_cmp_lt v1 0).mpr hy))
    refine mj_lload_n 1 md_M_run_6 rfl ?_
    refine mj_ldc2 (v := 50000) tw_777 md_M_run_7 ?_
    refine mj_aload_n 0 md_M_run_10 rfl ?_
    obtain ⟨ht1, H⟩ := H
    refine mj_getf (v := .long (mj_l μ h0 43)) rfl kc_M 43 (by decide) tw_666 md_M_run_11 ht1 rfl ?_
    refine mj_lsub md_M_run_14 ?_
    refine mj_lcmp md_M_run_15 ?_
    obtain ⟨H1, H2⟩ := H
    refine mj_if_le (tgt := 22) md_M_run_16 (by decide) (fun hx => ?_) (fun hx => ?_)
    · replace H := H1 ((lg_cmp_le v1 (50000 - (mj_l μ h0 43))).mp hx)
      refine mj_aload_n 0 md_M_run_22 rfl ?_
      obtain ⟨P, hM, H⟩ := H
      exact mj_callV (n := 0) (As := []) rfl hM kc_M ht1 ⟨tw_802, tw_8, tw_805, ⟨by decide, by decide, by decide +kernel⟩, by decide, by decide⟩ tw_804 tp_33 rfl md_M_run_23 (by first | decide | (simp only [List.map_cons, List.map_nil, List.sum_cons, List.sum_nil, mj_rfc, mj_ci, mj_cl]; done) | (simp only [List.map_cons, List.map_nil, List.sum_cons, List.sum_nil, mj_rfc, mj_ci, mj_cl]; decide)) id (mj_kV (fun μ' hP e1 e2 => mj_lvs [0, 1] rfl (H μ' hP e1 e2)))
    · replace H := H2 (fun hy => hx ((lg_cmp_le v1 (50000 - (mj_l μ h0 43))).mpr hy))
      refine mj_bipush (v := (-2)) md_M_run_19 (by decide) ?_
      exact mj_ireturn md_M_run_21 rfl rfl H

set_option maxRecDepth 20000 in
theorem bk_M_run_26 {G : mj_G} {Ex : Option Value → mj_MM → Prop} {N S : Nat} {μ : mj_MM} {h0 : Nat} {v1 : Int64}
    (H : mj_J G mY_M_run Ex N S 31 [(0, va_rf (some h0)), (1, .long v1), (3, .int 0), (4, .long 0)] [] μ) :
    mj_J G mY_M_run Ex N S 26 [(0, va_rf (some h0)), (1, .long v1)] [] μ := by
  refine mj_iconst (v := 0) md_M_run_26 (by decide) ?_
  refine mj_istn (i := 3) (lv' := [(3, .int 0), (0, va_rf (some h0)), (1, .long v1)]) md_M_run_27 rfl (by decide) (by first | rfl | (simp [mj_rfc]; done) | (simp [mj_rfc]; rfl)) ?_
  refine mj_lconst (v := 0) md_M_run_28 (by decide) ?_
  refine mj_lstore (lv' := [(4, .long 0), (3, .int 0), (0, va_rf (some h0)), (1, .long v1)]) md_M_run_29 (by decide) (by first | rfl | (simp [mj_rfc]; done) | (simp [mj_rfc]; rfl)) ?_
  exact mj_lvs [2, 3, 1, 0] rfl H

set_option maxRecDepth 20000 in
theorem bk_M_run_31 {G : mj_G} {Ex : Option Value → mj_MM → Prop} {N S : Nat} {μ : mj_MM} {h0 : Nat} {v1 : Int64} {v3 : Int32} {v4 : Int64}
    (H : ((v1 ≤ v4 → Ex (some (.int v3)) μ) ∧ (¬ v1 ≤ v4 → ((mj_t μ h0 = 11) ∧ (∃ P : Int32 → mj_MM → Prop, mj_M G my_M_microsecond mY_M_microsecond [va_rf (some h0)] (mj_nc μ) (mj_ns μ) μ (mj_XI P) ∧ ∀ (x : Int32) (μ' : mj_MM), P x μ' → mj_nc μ' = mj_nc μ → mj_ns μ' = mj_ns μ → mj_J G mY_M_run Ex N S 43 [(0, va_rf (some h0)), (1, .long v1), (4, .long v4)] [.int x, .int v3] μ'))))) :
    mj_J G mY_M_run Ex N S 31 [(0, va_rf (some h0)), (1, .long v1), (3, .int v3), (4, .long v4)] [] μ := by
  refine mj_lload 3 md_M_run_31 rfl ?_
  refine mj_lload_n 1 md_M_run_33 rfl ?_
  refine mj_lcmp md_M_run_34 ?_
  obtain ⟨H1, H2⟩ := H
  refine mj_if_ge (tgt := 54) md_M_run_35 (by decide) (fun hx => ?_) (fun hx => ?_)
  · replace H := H1 ((lg_cmp_ge v4 v1).mp hx)
    refine mj_iload_n 2 md_M_run_54 rfl ?_
    exact mj_ireturn md_M_run_55 rfl rfl H
  · replace H := H2 (fun hy => hx ((lg_cmp_ge v4 v1).mpr hy))
    refine mj_iload_n 2 md_M_run_38 rfl ?_
    refine mj_aload_n 0 md_M_run_39 rfl ?_
    obtain ⟨ht1, H⟩ := H
    obtain ⟨P, hM, H⟩ := H
    exact mj_callV (n := 0) (As := []) rfl hM kc_M ht1 ⟨tw_806, tw_8, tw_809, ⟨by decide, by decide, by decide +kernel⟩, by decide, by decide⟩ tw_808 tp_34 rfl md_M_run_40 (by first | decide | (simp only [List.map_cons, List.map_nil, List.sum_cons, List.sum_nil, mj_rfc, mj_ci, mj_cl]; done) | (simp only [List.map_cons, List.map_nil, List.sum_cons, List.sum_nil, mj_rfc, mj_ci, mj_cl]; decide)) id (mj_kI (fun x μ' hP e1 e2 => mj_lvs [0, 1, 3] rfl (H x μ' hP e1 e2)))

set_option maxRecDepth 20000 in
theorem bk_M_run_43 {G : mj_G} {Ex : Option Value → mj_MM → Prop} {N S : Nat} {μ : mj_MM} {h0 : Nat} {v1 : Int64} {v4 : Int64} {s0 : Int32} {s1 : Int32}
    (H : mj_J G mY_M_run Ex N S 31 [(0, va_rf (some h0)), (1, .long v1), (3, .int (s1 + s0)), (4, .long (v4 + 1))] [] μ) :
    mj_J G mY_M_run Ex N S 43 [(0, va_rf (some h0)), (1, .long v1), (4, .long v4)] [.int s0, .int s1] μ := by
  refine mj_iadd md_M_run_43 ?_
  refine mj_istn (i := 3) (lv' := [(3, .int (s1 + s0)), (0, va_rf (some h0)), (1, .long v1), (4, .long v4)]) md_M_run_44 rfl (by decide) (by first | rfl | (simp [mj_rfc]; done) | (simp [mj_rfc]; rfl)) ?_
  refine mj_lload 3 md_M_run_45 rfl ?_
  refine mj_lconst (v := 1) md_M_run_47 (by decide) ?_
  refine mj_ladd md_M_run_48 ?_
  refine mj_lstore (lv' := [(4, .long (v4 + 1)), (3, .int (s1 + s0)), (0, va_rf (some h0)), (1, .long v1)]) md_M_run_49 (by decide) (by first | rfl | (simp [mj_rfc]; done) | (simp [mj_rfc]; rfl)) ?_
  refine mj_goto (tgt := 31) md_M_run_51 (by decide) ?_
  exact mj_lvs [2, 3, 1, 0] rfl H

set_option maxRecDepth 20000 in
theorem bk_M_now_0 {G : mj_G} {Ex : Option Value → mj_MM → Prop} {N S : Nat} {μ : mj_MM} {h0 : Nat}
    (H : ((mj_t μ h0 = 11) ∧ Ex (some (.long (mj_l μ h0 43))) μ)) :
    mj_J G mY_M_now Ex N S 0 [(0, va_rf (some h0))] [] μ := by
  refine mj_aload_n 0 md_M_now_0 rfl ?_
  obtain ⟨ht1, H⟩ := H
  refine mj_getf (v := .long (mj_l μ h0 43)) rfl kc_M 43 (by decide) tw_666 md_M_now_1 ht1 rfl ?_
  exact mj_lreturn md_M_now_4 rfl H

set_option maxRecDepth 20000 in
theorem bk_M_running_0 {G : mj_G} {Ex : Option Value → mj_MM → Prop} {N S : Nat} {μ : mj_MM} {h0 : Nat} {v1 : Int32} {v2 : Int64}
    (H : ((v1 < 0 → Ex (some (.int (-1))) μ) ∧ (¬ v1 < 0 → ((mj_t μ h0 = 11) ∧ ((v1 < (mj_i μ h0 0) → ((v2 < 0 → Ex (some (.int (-2))) μ) ∧ (¬ v2 < 0 → ((v2 < (mj_l μ h0 43) → (∃ b2 : Nat, (mj_r μ h0 44 = some b2) ∧ (mj_t μ b2 = 1003) ∧ (vp_in ((50000 * v1) + (Int64.toInt32 v2)) (mj_n μ b2)) ∧ Ex (some (.int (mj_i μ b2 (Int32.toNatClampNeg ((50000 * v1) + (Int64.toInt32 v2)))))) μ)) ∧ (¬ v2 < (mj_l μ h0 43) → Ex (some (.int (-2))) μ))))) ∧ (¬ v1 < (mj_i μ h0 0) → Ex (some (.int (-1))) μ)))))) :
    mj_J G mY_M_running Ex N S 0 [(0, va_rf (some h0)), (1, .int v1), (2, .long v2)] [] μ := by
  refine mj_iload_n 1 md_M_running_0 rfl ?_
  obtain ⟨H1, H2⟩ := H
  refine mj_if_lt (tgt := 12) md_M_running_1 (by decide) (fun hx => ?_) (fun hx => ?_)
  · replace H := H1 hx
    refine mj_iconst (v := (-1)) md_M_running_12 (by decide) ?_
    exact mj_ireturn md_M_running_13 rfl rfl H
  · replace H := H2 hx
    refine mj_iload_n 1 md_M_running_4 rfl ?_
    refine mj_aload_n 0 md_M_running_5 rfl ?_
    obtain ⟨ht1, H⟩ := H
    refine mj_getf (v := .int (mj_i μ h0 0)) rfl kc_M 0 (by decide) tw_623 md_M_running_6 ht1 rfl ?_
    obtain ⟨H1, H2⟩ := H
    refine mj_icmp_lt (tgt := 14) md_M_running_9 (by decide) (fun hx => ?_) (fun hx => ?_)
    · replace H := H1 hx
      refine mj_lload_n 2 md_M_running_14 rfl ?_
      refine mj_lconst (v := 0) md_M_running_15 (by decide) ?_
      refine mj_lcmp md_M_running_16 ?_
      obtain ⟨H1, H2⟩ := H
      refine mj_if_lt (tgt := 29) md_M_running_17 (by decide) (fun hx => ?_) (fun hx => ?_)
      · replace H := H1 ((lg_cmp_lt v2 0).mp hx)
        refine mj_bipush (v := (-2)) md_M_running_29 (by decide) ?_
        exact mj_ireturn md_M_running_31 rfl rfl H
      · replace H := H2 (fun hy => hx ((lg_cmp_lt v2 0).mpr hy))
        refine mj_lload_n 2 md_M_running_20 rfl ?_
        refine mj_aload_n 0 md_M_running_21 rfl ?_
        refine mj_getf (v := .long (mj_l μ h0 43)) rfl kc_M 43 (by decide) tw_666 md_M_running_22 ht1 rfl ?_
        refine mj_lcmp md_M_running_25 ?_
        obtain ⟨H1, H2⟩ := H
        refine mj_if_lt (tgt := 32) md_M_running_26 (by decide) (fun hx => ?_) (fun hx => ?_)
        · replace H := H1 ((lg_cmp_lt v2 (mj_l μ h0 43)).mp hx)
          refine mj_aload_n 0 md_M_running_32 rfl ?_
          refine mj_getf (v := va_rf (mj_r μ h0 44)) rfl kc_M 44 (by decide) tw_667 md_M_running_33 ht1 rfl ?_
          refine mj_ldc (v := 50000) tw_875 md_M_running_36 ?_
          refine mj_iload_n 1 md_M_running_38 rfl ?_
          refine mj_imul md_M_running_39 ?_
          refine mj_lload_n 2 md_M_running_40 rfl ?_
          refine mj_l2i md_M_running_41 ?_
          refine mj_iadd md_M_running_42 ?_
          obtain ⟨b2, hb3, H⟩ := H
          obtain ⟨ht4, H⟩ := H
          obtain ⟨hi5, H⟩ := H
          refine mj_sald (t := 3) hb3 rfl ht4 hi5 md_M_running_43 ?_
          exact mj_ireturn md_M_running_44 rfl rfl H
        · replace H := H2 (fun hy => hx ((lg_cmp_lt v2 (mj_l μ h0 43)).mpr hy))
          refine mj_bipush (v := (-2)) md_M_running_29 (by decide) ?_
          exact mj_ireturn md_M_running_31 rfl rfl H
    · replace H := H2 hx
      refine mj_iconst (v := (-1)) md_M_running_12 (by decide) ?_
      exact mj_ireturn md_M_running_13 rfl rfl H

set_option maxRecDepth 20000 in
theorem bk_M_used_0 {G : mj_G} {Ex : Option Value → mj_MM → Prop} {N S : Nat} {μ : mj_MM} {h0 : Nat} {v1 : Int32}
    (H : ((mj_t μ h0 = 11) ∧ (∃ P : Int32 → mj_MM → Prop, mj_M G my_M_no mY_M_no [va_rf (some h0), .int v1] (mj_nc μ) (mj_ns μ) μ (mj_XI P) ∧ ∀ (x : Int32) (μ' : mj_MM), P x μ' → mj_nc μ' = mj_nc μ → mj_ns μ' = mj_ns μ → mj_J G mY_M_used Ex N S 5 [(0, va_rf (some h0)), (1, .int v1)] [.int x] μ'))) :
    mj_J G mY_M_used Ex N S 0 [(0, va_rf (some h0)), (1, .int v1)] [] μ := by
  refine mj_aload_n 0 md_M_used_0 rfl ?_
  refine mj_iload_n 1 md_M_used_1 rfl ?_
  obtain ⟨ht1, H⟩ := H
  obtain ⟨P, hM, H⟩ := H
  exact mj_callV (n := 1) (As := [.int v1]) rfl hM kc_M ht1 ⟨tw_770, tw_8, tw_773, ⟨by decide, by decide, by decide +kernel⟩, by decide, by decide⟩ tw_772 tp_32 rfl md_M_used_2 (by first | decide | (simp only [List.map_cons, List.map_nil, List.sum_cons, List.sum_nil, mj_rfc, mj_ci, mj_cl]; done) | (simp only [List.map_cons, List.map_nil, List.sum_cons, List.sum_nil, mj_rfc, mj_ci, mj_cl]; decide)) id (mj_kI (fun x μ' hP e1 e2 => mj_lvs [0, 1] rfl (H x μ' hP e1 e2)))

set_option maxRecDepth 20000 in
theorem bk_M_used_5 {G : mj_G} {Ex : Option Value → mj_MM → Prop} {N S : Nat} {μ : mj_MM} {h0 : Nat} {v1 : Int32} {s0 : Int32}
    (H : ((s0 = 0 → ((mj_t μ h0 = 11) ∧ ∃ b2 : Nat, (mj_r μ h0 20 = some b2) ∧ (mj_t μ b2 = 1001) ∧ (vp_in v1 (mj_n μ b2)) ∧ Ex (some (.long (mj_l μ b2 (Int32.toNatClampNeg v1)))) μ)) ∧ (¬ s0 = 0 → Ex (some (.long (-1))) μ))) :
    mj_J G mY_M_used Ex N S 5 [(0, va_rf (some h0)), (1, .int v1)] [.int s0] μ := by
  obtain ⟨H1, H2⟩ := H
  refine mj_if_eq (tgt := 14) md_M_used_5 (by decide) (fun hx => ?_) (fun hx => ?_)
  · replace H := H1 hx
    refine mj_aload_n 0 md_M_used_14 rfl ?_
    obtain ⟨ht1, H⟩ := H
    refine mj_getf (v := va_rf (mj_r μ h0 20)) rfl kc_M 20 (by decide) tw_643 md_M_used_15 ht1 rfl ?_
    refine mj_iload_n 1 md_M_used_18 rfl ?_
    obtain ⟨b2, hb3, H⟩ := H
    obtain ⟨ht4, H⟩ := H
    obtain ⟨hi5, H⟩ := H
    refine mj_lald (t := 1) hb3 rfl ht4 hi5 md_M_used_19 ?_
    exact mj_lreturn md_M_used_20 rfl H
  · replace H := H2 hx
    refine mj_ldc2 (v := (-1)) tw_880 md_M_used_8 ?_
    refine mj_goto (tgt := 20) md_M_used_11 (by decide) ?_
    exact mj_lreturn md_M_used_20 rfl H

set_option maxRecDepth 20000 in
theorem bk_M_state_0 {G : mj_G} {Ex : Option Value → mj_MM → Prop} {N S : Nat} {μ : mj_MM} {h0 : Nat} {v1 : Int32}
    (H : ((mj_t μ h0 = 11) ∧ (∃ P : Int32 → mj_MM → Prop, mj_M G my_M_no mY_M_no [va_rf (some h0), .int v1] (mj_nc μ) (mj_ns μ) μ (mj_XI P) ∧ ∀ (x : Int32) (μ' : mj_MM), P x μ' → mj_nc μ' = mj_nc μ → mj_ns μ' = mj_ns μ → mj_J G mY_M_state Ex N S 5 [(0, va_rf (some h0)), (1, .int v1)] [.int x] μ'))) :
    mj_J G mY_M_state Ex N S 0 [(0, va_rf (some h0)), (1, .int v1)] [] μ := by
  refine mj_aload_n 0 md_M_state_0 rfl ?_
  refine mj_iload_n 1 md_M_state_1 rfl ?_
  obtain ⟨ht1, H⟩ := H
  obtain ⟨P, hM, H⟩ := H
  exact mj_callV (n := 1) (As := [.int v1]) rfl hM kc_M ht1 ⟨tw_770, tw_8, tw_773, ⟨by decide, by decide, by decide +kernel⟩, by decide, by decide⟩ tw_772 tp_32 rfl md_M_state_2 (by first | decide | (simp only [List.map_cons, List.map_nil, List.sum_cons, List.sum_nil, mj_rfc, mj_ci, mj_cl]; done) | (simp only [List.map_cons, List.map_nil, List.sum_cons, List.sum_nil, mj_rfc, mj_ci, mj_cl]; decide)) id (mj_kI (fun x μ' hP e1 e2 => mj_lvs [0, 1] rfl (H x μ' hP e1 e2)))

set_option maxRecDepth 20000 in
theorem bk_M_state_5 {G : mj_G} {Ex : Option Value → mj_MM → Prop} {N S : Nat} {μ : mj_MM} {h0 : Nat} {v1 : Int32} {s0 : Int32}
    (H : ((s0 = 0 → ((mj_t μ h0 = 11) ∧ ∃ b2 : Nat, (mj_r μ h0 11 = some b2) ∧ (mj_t μ b2 = 1000) ∧ (vp_in v1 (mj_n μ b2)) ∧ Ex (some (.int (mj_i μ b2 (Int32.toNatClampNeg v1)))) μ)) ∧ (¬ s0 = 0 → Ex (some (.int (-1))) μ))) :
    mj_J G mY_M_state Ex N S 5 [(0, va_rf (some h0)), (1, .int v1)] [.int s0] μ := by
  obtain ⟨H1, H2⟩ := H
  refine mj_if_eq (tgt := 12) md_M_state_5 (by decide) (fun hx => ?_) (fun hx => ?_)
  · replace H := H1 hx
    refine mj_aload_n 0 md_M_state_12 rfl ?_
    obtain ⟨ht1, H⟩ := H
    refine mj_getf (v := va_rf (mj_r μ h0 11)) rfl kc_M 11 (by decide) tw_634 md_M_state_13 ht1 rfl ?_
    refine mj_iload_n 1 md_M_state_16 rfl ?_
    obtain ⟨b2, hb3, H⟩ := H
    obtain ⟨ht4, H⟩ := H
    obtain ⟨hi5, H⟩ := H
    refine mj_iald (t := 0) hb3 rfl ht4 hi5 md_M_state_17 ?_
    exact mj_ireturn md_M_state_18 rfl rfl H
  · replace H := H2 hx
    refine mj_iconst (v := (-1)) md_M_state_8 (by decide) ?_
    refine mj_goto (tgt := 18) md_M_state_9 (by decide) ?_
    exact mj_ireturn md_M_state_18 rfl rfl H

set_option maxRecDepth 20000 in
theorem bk_M_event_0 {G : mj_G} {Ex : Option Value → mj_MM → Prop} {N S : Nat} {μ : mj_MM} {h0 : Nat} {v1 : Int32} {v2 : Int32}
    (H : ((mj_t μ h0 = 11) ∧ (∃ P : Int32 → mj_MM → Prop, mj_M G my_M_no mY_M_no [va_rf (some h0), .int v1] (mj_nc μ) (mj_ns μ) μ (mj_XI P) ∧ ∀ (x : Int32) (μ' : mj_MM), P x μ' → mj_nc μ' = mj_nc μ → mj_ns μ' = mj_ns μ → mj_J G mY_M_event Ex N S 5 [(0, va_rf (some h0)), (1, .int v1), (2, .int v2)] [.int x] μ'))) :
    mj_J G mY_M_event Ex N S 0 [(0, va_rf (some h0)), (1, .int v1), (2, .int v2)] [] μ := by
  refine mj_aload_n 0 md_M_event_0 rfl ?_
  refine mj_iload_n 1 md_M_event_1 rfl ?_
  obtain ⟨ht1, H⟩ := H
  obtain ⟨P, hM, H⟩ := H
  exact mj_callV (n := 1) (As := [.int v1]) rfl hM kc_M ht1 ⟨tw_770, tw_8, tw_773, ⟨by decide, by decide, by decide +kernel⟩, by decide, by decide⟩ tw_772 tp_32 rfl md_M_event_2 (by first | decide | (simp only [List.map_cons, List.map_nil, List.sum_cons, List.sum_nil, mj_rfc, mj_ci, mj_cl]; done) | (simp only [List.map_cons, List.map_nil, List.sum_cons, List.sum_nil, mj_rfc, mj_ci, mj_cl]; decide)) id (mj_kI (fun x μ' hP e1 e2 => mj_lvs [0, 1, 2] rfl (H x μ' hP e1 e2)))

set_option maxRecDepth 20000 in
theorem bk_M_event_5 {G : mj_G} {Ex : Option Value → mj_MM → Prop} {N S : Nat} {μ : mj_MM} {h0 : Nat} {v1 : Int32} {v2 : Int32} {s0 : Int32}
    (H : ((s0 = 0 → ((v2 < 1 → Ex (some (.int (-2))) μ) ∧ (¬ v2 < 1 → ((v2 ≤ 65535 → ((mj_t μ h0 = 11) ∧ (∃ P : Int32 → mj_MM → Prop, mj_M G my_M_set mY_M_set [va_rf (some h0), .int v1, .int v2] (mj_nc μ) (mj_ns μ) μ (mj_XI P) ∧ ∀ (x : Int32) (μ' : mj_MM), P x μ' → mj_nc μ' = mj_nc μ → mj_ns μ' = mj_ns μ → mj_J G mY_M_event Ex N S 30 [] [.int x] μ'))) ∧ (¬ v2 ≤ 65535 → Ex (some (.int (-2))) μ))))) ∧ (¬ s0 = 0 → Ex (some (.int (-1))) μ))) :
    mj_J G mY_M_event Ex N S 5 [(0, va_rf (some h0)), (1, .int v1), (2, .int v2)] [.int s0] μ := by
  obtain ⟨H1, H2⟩ := H
  refine mj_if_eq (tgt := 10) md_M_event_5 (by decide) (fun hx => ?_) (fun hx => ?_)
  · replace H := H1 hx
    refine mj_iload_n 2 md_M_event_10 rfl ?_
    refine mj_iconst (v := 1) md_M_event_11 (by decide) ?_
    obtain ⟨H1, H2⟩ := H
    refine mj_icmp_lt (tgt := 21) md_M_event_12 (by decide) (fun hx => ?_) (fun hx => ?_)
    · replace H := H1 hx
      refine mj_bipush (v := (-2)) md_M_event_21 (by decide) ?_
      exact mj_ireturn md_M_event_23 rfl rfl H
    · replace H := H2 hx
      refine mj_iload_n 2 md_M_event_15 rfl ?_
      refine mj_ldc (v := 65535) tw_901 md_M_event_16 ?_
      obtain ⟨H1, H2⟩ := H
      refine mj_icmp_le (tgt := 24) md_M_event_18 (by decide) (fun hx => ?_) (fun hx => ?_)
      · replace H := H1 hx
        refine mj_aload_n 0 md_M_event_24 rfl ?_
        refine mj_iload_n 1 md_M_event_25 rfl ?_
        refine mj_iload_n 2 md_M_event_26 rfl ?_
        obtain ⟨ht1, H⟩ := H
        obtain ⟨P, hM, H⟩ := H
        exact mj_callV (n := 2) (As := [.int v1, .int v2]) rfl hM kc_M ht1 ⟨tw_871, tw_8, tw_874, ⟨by decide, by decide, by decide +kernel⟩, by decide, by decide⟩ tw_873 tp_50 rfl md_M_event_27 (by first | decide | (simp only [List.map_cons, List.map_nil, List.sum_cons, List.sum_nil, mj_rfc, mj_ci, mj_cl]; done) | (simp only [List.map_cons, List.map_nil, List.sum_cons, List.sum_nil, mj_rfc, mj_ci, mj_cl]; decide)) id (mj_kI (fun x μ' hP e1 e2 => mj_lvs [] rfl (H x μ' hP e1 e2)))
      · replace H := H2 hx
        refine mj_bipush (v := (-2)) md_M_event_21 (by decide) ?_
        exact mj_ireturn md_M_event_23 rfl rfl H
  · replace H := H2 hx
    refine mj_iconst (v := (-1)) md_M_event_8 (by decide) ?_
    exact mj_ireturn md_M_event_9 rfl rfl H

set_option maxRecDepth 20000 in
theorem bk_M_event_30 {G : mj_G} {Ex : Option Value → mj_MM → Prop} {N S : Nat} {μ : mj_MM} {s0 : Int32}
    (H : ((s0 = 0 → Ex (some (.int (-3))) μ) ∧ (¬ s0 = 0 → Ex (some (.int 1)) μ))) :
    mj_J G mY_M_event Ex N S 30 [] [.int s0] μ := by
  obtain ⟨H1, H2⟩ := H
  refine mj_if_eq (tgt := 37) md_M_event_30 (by decide) (fun hx => ?_) (fun hx => ?_)
  · replace H := H1 hx
    refine mj_bipush (v := (-3)) md_M_event_37 (by decide) ?_
    exact mj_ireturn md_M_event_39 rfl rfl H
  · replace H := H2 hx
    refine mj_iconst (v := 1) md_M_event_33 (by decide) ?_
    refine mj_goto (tgt := 39) md_M_event_34 (by decide) ?_
    exact mj_ireturn md_M_event_39 rfl rfl H

set_option maxRecDepth 20000 in
theorem bk_M_events_0 {G : mj_G} {Ex : Option Value → mj_MM → Prop} {N S : Nat} {μ : mj_MM} {h0 : Nat} {v1 : Int32}
    (H : ((mj_t μ h0 = 11) ∧ (∃ P : Int32 → mj_MM → Prop, mj_M G my_M_no mY_M_no [va_rf (some h0), .int v1] (mj_nc μ) (mj_ns μ) μ (mj_XI P) ∧ ∀ (x : Int32) (μ' : mj_MM), P x μ' → mj_nc μ' = mj_nc μ → mj_ns μ' = mj_ns μ → mj_J G mY_M_events Ex N S 5 [(0, va_rf (some h0)), (1, .int v1)] [.int x] μ'))) :
    mj_J G mY_M_events Ex N S 0 [(0, va_rf (some h0)), (1, .int v1)] [] μ := by
  refine mj_aload_n 0 md_M_events_0 rfl ?_
  refine mj_iload_n 1 md_M_events_1 rfl ?_
  obtain ⟨ht1, H⟩ := H
  obtain ⟨P, hM, H⟩ := H
  exact mj_callV (n := 1) (As := [.int v1]) rfl hM kc_M ht1 ⟨tw_770, tw_8, tw_773, ⟨by decide, by decide, by decide +kernel⟩, by decide, by decide⟩ tw_772 tp_32 rfl md_M_events_2 (by first | decide | (simp only [List.map_cons, List.map_nil, List.sum_cons, List.sum_nil, mj_rfc, mj_ci, mj_cl]; done) | (simp only [List.map_cons, List.map_nil, List.sum_cons, List.sum_nil, mj_rfc, mj_ci, mj_cl]; decide)) id (mj_kI (fun x μ' hP e1 e2 => mj_lvs [0, 1] rfl (H x μ' hP e1 e2)))

set_option maxRecDepth 20000 in
theorem bk_M_events_5 {G : mj_G} {Ex : Option Value → mj_MM → Prop} {N S : Nat} {μ : mj_MM} {h0 : Nat} {v1 : Int32} {s0 : Int32}
    (H : ((s0 = 0 → ((mj_t μ h0 = 11) ∧ ∃ b2 : Nat, (mj_r μ h0 17 = some b2) ∧ (mj_t μ b2 = 1000) ∧ (vp_in v1 (mj_n μ b2)) ∧ Ex (some (.int (mj_i μ b2 (Int32.toNatClampNeg v1)))) μ)) ∧ (¬ s0 = 0 → Ex (some (.int (-1))) μ))) :
    mj_J G mY_M_events Ex N S 5 [(0, va_rf (some h0)), (1, .int v1)] [.int s0] μ := by
  obtain ⟨H1, H2⟩ := H
  refine mj_if_eq (tgt := 12) md_M_events_5 (by decide) (fun hx => ?_) (fun hx => ?_)
  · replace H := H1 hx
    refine mj_aload_n 0 md_M_events_12 rfl ?_
    obtain ⟨ht1, H⟩ := H
    refine mj_getf (v := va_rf (mj_r μ h0 17)) rfl kc_M 17 (by decide) tw_640 md_M_events_13 ht1 rfl ?_
    refine mj_iload_n 1 md_M_events_16 rfl ?_
    obtain ⟨b2, hb3, H⟩ := H
    obtain ⟨ht4, H⟩ := H
    obtain ⟨hi5, H⟩ := H
    refine mj_iald (t := 0) hb3 rfl ht4 hi5 md_M_events_17 ?_
    exact mj_ireturn md_M_events_18 rfl rfl H
  · replace H := H2 hx
    refine mj_iconst (v := (-1)) md_M_events_8 (by decide) ?_
    refine mj_goto (tgt := 18) md_M_events_9 (by decide) ?_
    exact mj_ireturn md_M_events_18 rfl rfl H

set_option maxRecDepth 20000 in
theorem bk_M_code_0 {G : mj_G} {Ex : Option Value → mj_MM → Prop} {N S : Nat} {μ : mj_MM} {h0 : Nat} {v1 : Int32} {v2 : Int32}
    (H : ((¬ v1 = (-1) → ((v1 < 0 → Ex (some (.int (-1))) μ) ∧ (¬ v1 < 0 → ((mj_t μ h0 = 11) ∧ (((mj_i μ h0 39) ≤ v1 → Ex (some (.int (-1))) μ) ∧ (¬ (mj_i μ h0 39) ≤ v1 → ((v1 ≤ 999 → ((v2 < 0 → Ex (some (.int (-2))) μ) ∧ (¬ v2 < 0 → ((v2 ≤ 2 → ((¬ v2 = 0 → ((¬ v2 = 1 → (∃ b2 : Nat, (mj_r μ h0 42 = some b2) ∧ (mj_t μ b2 = 1001) ∧ (vp_in v1 (mj_n μ b2)) ∧ Ex (some (.int (Int64.toInt32 (mj_l μ b2 (Int32.toNatClampNeg v1))))) μ)) ∧ (v2 = 1 → (∃ b6 : Nat, (mj_r μ h0 41 = some b6) ∧ (mj_t μ b6 = 1000) ∧ (vp_in v1 (mj_n μ b6)) ∧ Ex (some (.int (mj_i μ b6 (Int32.toNatClampNeg v1)))) μ)))) ∧ (v2 = 0 → (∃ b10 : Nat, (mj_r μ h0 40 = some b10) ∧ (mj_t μ b10 = 1000) ∧ (vp_in v1 (mj_n μ b10)) ∧ Ex (some (.int (mj_i μ b10 (Int32.toNatClampNeg v1)))) μ)))) ∧ (¬ v2 ≤ 2 → Ex (some (.int (-2))) μ))))) ∧ (¬ v1 ≤ 999 → Ex (some (.int (-1))) μ)))))))) ∧ (v1 = (-1) → ((¬ v2 = 0 → ((v1 < 0 → Ex (some (.int (-1))) μ) ∧ (¬ v1 < 0 → ((mj_t μ h0 = 11) ∧ (((mj_i μ h0 39) ≤ v1 → Ex (some (.int (-1))) μ) ∧ (¬ (mj_i μ h0 39) ≤ v1 → ((v1 ≤ 999 → ((v2 < 0 → Ex (some (.int (-2))) μ) ∧ (¬ v2 < 0 → ((v2 ≤ 2 → ((¬ v2 = 0 → ((¬ v2 = 1 → (∃ b15 : Nat, (mj_r μ h0 42 = some b15) ∧ (mj_t μ b15 = 1001) ∧ (vp_in v1 (mj_n μ b15)) ∧ Ex (some (.int (Int64.toInt32 (mj_l μ b15 (Int32.toNatClampNeg v1))))) μ)) ∧ (v2 = 1 → (∃ b19 : Nat, (mj_r μ h0 41 = some b19) ∧ (mj_t μ b19 = 1000) ∧ (vp_in v1 (mj_n μ b19)) ∧ Ex (some (.int (mj_i μ b19 (Int32.toNatClampNeg v1)))) μ)))) ∧ (v2 = 0 → (∃ b23 : Nat, (mj_r μ h0 40 = some b23) ∧ (mj_t μ b23 = 1000) ∧ (vp_in v1 (mj_n μ b23)) ∧ Ex (some (.int (mj_i μ b23 (Int32.toNatClampNeg v1)))) μ)))) ∧ (¬ v2 ≤ 2 → Ex (some (.int (-2))) μ))))) ∧ (¬ v1 ≤ 999 → Ex (some (.int (-1))) μ)))))))) ∧ (v2 = 0 → ((mj_t μ h0 = 11) ∧ Ex (some (.int (mj_i μ h0 39))) μ)))))) :
    mj_J G mY_M_code Ex N S 0 [(0, va_rf (some h0)), (1, .int v1), (2, .int v2)] [] μ := by
  refine mj_iload_n 1 md_M_code_0 rfl ?_
  refine mj_iconst (v := (-1)) md_M_code_1 (by decide) ?_
  obtain ⟨H1, H2⟩ := H
  refine mj_icmp_ne (tgt := 14) md_M_code_2 (by decide) (fun hx => ?_) (fun hx => ?_)
  · replace H := H1 hx
    refine mj_iload_n 1 md_M_code_14 rfl ?_
    obtain ⟨H1, H2⟩ := H
    refine mj_if_lt (tgt := 33) md_M_code_15 (by decide) (fun hx => ?_) (fun hx => ?_)
    · replace H := H1 hx
      refine mj_iconst (v := (-1)) md_M_code_33 (by decide) ?_
      exact mj_ireturn md_M_code_34 rfl rfl H
    · replace H := H2 hx
      refine mj_iload_n 1 md_M_code_18 rfl ?_
      refine mj_aload_n 0 md_M_code_19 rfl ?_
      obtain ⟨ht1, H⟩ := H
      refine mj_getf (v := .int (mj_i μ h0 39)) rfl kc_M 39 (by decide) tw_662 md_M_code_20 ht1 rfl ?_
      obtain ⟨H1, H2⟩ := H
      refine mj_icmp_ge (tgt := 33) md_M_code_23 (by decide) (fun hx => ?_) (fun hx => ?_)
      · replace H := H1 hx
        refine mj_iconst (v := (-1)) md_M_code_33 (by decide) ?_
        exact mj_ireturn md_M_code_34 rfl rfl H
      · replace H := H2 hx
        refine mj_iload_n 1 md_M_code_26 rfl ?_
        refine mj_sipush (v := 999) md_M_code_27 (by decide) ?_
        obtain ⟨H1, H2⟩ := H
        refine mj_icmp_le (tgt := 35) md_M_code_30 (by decide) (fun hx => ?_) (fun hx => ?_)
        · replace H := H1 hx
          refine mj_iload_n 2 md_M_code_35 rfl ?_
          obtain ⟨H1, H2⟩ := H
          refine mj_if_lt (tgt := 44) md_M_code_36 (by decide) (fun hx => ?_) (fun hx => ?_)
          · replace H := H1 hx
            refine mj_bipush (v := (-2)) md_M_code_44 (by decide) ?_
            exact mj_ireturn md_M_code_46 rfl rfl H
          · replace H := H2 hx
            refine mj_iload_n 2 md_M_code_39 rfl ?_
            refine mj_iconst (v := 2) md_M_code_40 (by decide) ?_
            obtain ⟨H1, H2⟩ := H
            refine mj_icmp_le (tgt := 47) md_M_code_41 (by decide) (fun hx => ?_) (fun hx => ?_)
            · replace H := H1 hx
              refine mj_iload_n 2 md_M_code_47 rfl ?_
              obtain ⟨H1, H2⟩ := H
              refine mj_if_ne (tgt := 60) md_M_code_48 (by decide) (fun hx => ?_) (fun hx => ?_)
              · replace H := H1 hx
                refine mj_iload_n 2 md_M_code_60 rfl ?_
                refine mj_iconst (v := 1) md_M_code_61 (by decide) ?_
                obtain ⟨H1, H2⟩ := H
                refine mj_icmp_ne (tgt := 74) md_M_code_62 (by decide) (fun hx => ?_) (fun hx => ?_)
                · replace H := H1 hx
                  refine mj_aload_n 0 md_M_code_74 rfl ?_
                  refine mj_getf (v := va_rf (mj_r μ h0 42)) rfl kc_M 42 (by decide) tw_665 md_M_code_75 ht1 rfl ?_
                  refine mj_iload_n 1 md_M_code_78 rfl ?_
                  obtain ⟨b2, hb3, H⟩ := H
                  obtain ⟨ht4, H⟩ := H
                  obtain ⟨hi5, H⟩ := H
                  refine mj_lald (t := 1) hb3 rfl ht4 hi5 md_M_code_79 ?_
                  refine mj_l2i md_M_code_80 ?_
                  exact mj_ireturn md_M_code_81 rfl rfl H
                · replace H := H2 hx
                  refine mj_aload_n 0 md_M_code_65 rfl ?_
                  refine mj_getf (v := va_rf (mj_r μ h0 41)) rfl kc_M 41 (by decide) tw_664 md_M_code_66 ht1 rfl ?_
                  refine mj_iload_n 1 md_M_code_69 rfl ?_
                  obtain ⟨b6, hb7, H⟩ := H
                  obtain ⟨ht8, H⟩ := H
                  obtain ⟨hi9, H⟩ := H
                  refine mj_iald (t := 0) hb7 rfl ht8 hi9 md_M_code_70 ?_
                  refine mj_goto (tgt := 81) md_M_code_71 (by decide) ?_
                  exact mj_ireturn md_M_code_81 rfl rfl H
              · replace H := H2 hx
                refine mj_aload_n 0 md_M_code_51 rfl ?_
                refine mj_getf (v := va_rf (mj_r μ h0 40)) rfl kc_M 40 (by decide) tw_663 md_M_code_52 ht1 rfl ?_
                refine mj_iload_n 1 md_M_code_55 rfl ?_
                obtain ⟨b10, hb11, H⟩ := H
                obtain ⟨ht12, H⟩ := H
                obtain ⟨hi13, H⟩ := H
                refine mj_iald (t := 0) hb11 rfl ht12 hi13 md_M_code_56 ?_
                refine mj_goto (tgt := 81) md_M_code_57 (by decide) ?_
                exact mj_ireturn md_M_code_81 rfl rfl H
            · replace H := H2 hx
              refine mj_bipush (v := (-2)) md_M_code_44 (by decide) ?_
              exact mj_ireturn md_M_code_46 rfl rfl H
        · replace H := H2 hx
          refine mj_iconst (v := (-1)) md_M_code_33 (by decide) ?_
          exact mj_ireturn md_M_code_34 rfl rfl H
  · replace H := H2 hx
    refine mj_iload_n 2 md_M_code_5 rfl ?_
    obtain ⟨H1, H2⟩ := H
    refine mj_if_ne (tgt := 14) md_M_code_6 (by decide) (fun hx => ?_) (fun hx => ?_)
    · replace H := H1 hx
      refine mj_iload_n 1 md_M_code_14 rfl ?_
      obtain ⟨H1, H2⟩ := H
      refine mj_if_lt (tgt := 33) md_M_code_15 (by decide) (fun hx => ?_) (fun hx => ?_)
      · replace H := H1 hx
        refine mj_iconst (v := (-1)) md_M_code_33 (by decide) ?_
        exact mj_ireturn md_M_code_34 rfl rfl H
      · replace H := H2 hx
        refine mj_iload_n 1 md_M_code_18 rfl ?_
        refine mj_aload_n 0 md_M_code_19 rfl ?_
        obtain ⟨ht14, H⟩ := H
        refine mj_getf (v := .int (mj_i μ h0 39)) rfl kc_M 39 (by decide) tw_662 md_M_code_20 ht14 rfl ?_
        obtain ⟨H1, H2⟩ := H
        refine mj_icmp_ge (tgt := 33) md_M_code_23 (by decide) (fun hx => ?_) (fun hx => ?_)
        · replace H := H1 hx
          refine mj_iconst (v := (-1)) md_M_code_33 (by decide) ?_
          exact mj_ireturn md_M_code_34 rfl rfl H
        · replace H := H2 hx
          refine mj_iload_n 1 md_M_code_26 rfl ?_
          refine mj_sipush (v := 999) md_M_code_27 (by decide) ?_
          obtain ⟨H1, H2⟩ := H
          refine mj_icmp_le (tgt := 35) md_M_code_30 (by decide) (fun hx => ?_) (fun hx => ?_)
          · replace H := H1 hx
            refine mj_iload_n 2 md_M_code_35 rfl ?_
            obtain ⟨H1, H2⟩ := H
            refine mj_if_lt (tgt := 44) md_M_code_36 (by decide) (fun hx => ?_) (fun hx => ?_)
            · replace H := H1 hx
              refine mj_bipush (v := (-2)) md_M_code_44 (by decide) ?_
              exact mj_ireturn md_M_code_46 rfl rfl H
            · replace H := H2 hx
              refine mj_iload_n 2 md_M_code_39 rfl ?_
              refine mj_iconst (v := 2) md_M_code_40 (by decide) ?_
              obtain ⟨H1, H2⟩ := H
              refine mj_icmp_le (tgt := 47) md_M_code_41 (by decide) (fun hx => ?_) (fun hx => ?_)
              · replace H := H1 hx
                refine mj_iload_n 2 md_M_code_47 rfl ?_
                obtain ⟨H1, H2⟩ := H
                refine mj_if_ne (tgt := 60) md_M_code_48 (by decide) (fun hx => ?_) (fun hx => ?_)
                · replace H := H1 hx
                  refine mj_iload_n 2 md_M_code_60 rfl ?_
                  refine mj_iconst (v := 1) md_M_code_61 (by decide) ?_
                  obtain ⟨H1, H2⟩ := H
                  refine mj_icmp_ne (tgt := 74) md_M_code_62 (by decide) (fun hx => ?_) (fun hx => ?_)
                  · replace H := H1 hx
                    refine mj_aload_n 0 md_M_code_74 rfl ?_
                    refine mj_getf (v := va_rf (mj_r μ h0 42)) rfl kc_M 42 (by decide) tw_665 md_M_code_75 ht14 rfl ?_
                    refine mj_iload_n 1 md_M_code_78 rfl ?_
                    obtain ⟨b15, hb16, H⟩ := H
                    obtain ⟨ht17, H⟩ := H
                    obtain ⟨hi18, H⟩ := H
                    refine mj_lald (t := 1) hb16 rfl ht17 hi18 md_M_code_79 ?_
                    refine mj_l2i md_M_code_80 ?_
                    exact mj_ireturn md_M_code_81 rfl rfl H
                  · replace H := H2 hx
                    refine mj_aload_n 0 md_M_code_65 rfl ?_
                    refine mj_getf (v := va_rf (mj_r μ h0 41)) rfl kc_M 41 (by decide) tw_664 md_M_code_66 ht14 rfl ?_
                    refine mj_iload_n 1 md_M_code_69 rfl ?_
                    obtain ⟨b19, hb20, H⟩ := H
                    obtain ⟨ht21, H⟩ := H
                    obtain ⟨hi22, H⟩ := H
                    refine mj_iald (t := 0) hb20 rfl ht21 hi22 md_M_code_70 ?_
                    refine mj_goto (tgt := 81) md_M_code_71 (by decide) ?_
                    exact mj_ireturn md_M_code_81 rfl rfl H
                · replace H := H2 hx
                  refine mj_aload_n 0 md_M_code_51 rfl ?_
                  refine mj_getf (v := va_rf (mj_r μ h0 40)) rfl kc_M 40 (by decide) tw_663 md_M_code_52 ht14 rfl ?_
                  refine mj_iload_n 1 md_M_code_55 rfl ?_
                  obtain ⟨b23, hb24, H⟩ := H
                  obtain ⟨ht25, H⟩ := H
                  obtain ⟨hi26, H⟩ := H
                  refine mj_iald (t := 0) hb24 rfl ht25 hi26 md_M_code_56 ?_
                  refine mj_goto (tgt := 81) md_M_code_57 (by decide) ?_
                  exact mj_ireturn md_M_code_81 rfl rfl H
              · replace H := H2 hx
                refine mj_bipush (v := (-2)) md_M_code_44 (by decide) ?_
                exact mj_ireturn md_M_code_46 rfl rfl H
          · replace H := H2 hx
            refine mj_iconst (v := (-1)) md_M_code_33 (by decide) ?_
            exact mj_ireturn md_M_code_34 rfl rfl H
    · replace H := H2 hx
      refine mj_aload_n 0 md_M_code_9 rfl ?_
      obtain ⟨ht27, H⟩ := H
      refine mj_getf (v := .int (mj_i μ h0 39)) rfl kc_M 39 (by decide) tw_662 md_M_code_10 ht27 rfl ?_
      exact mj_ireturn md_M_code_13 rfl rfl H

set_option maxRecDepth 20000 in
theorem bk_M_isSwitch_0 {G : mj_G} {Ex : Option Value → mj_MM → Prop} {N S : Nat} {μ : mj_MM} {h0 : Nat} {v1 : Int32} {v2 : Int32}
    (H : ((mj_t μ h0 = 11) ∧ ∃ b2 : Nat, (mj_r μ h0 44 = some b2) ∧ (mj_t μ b2 = 1003) ∧ (vp_in ((50000 * v1) + v2) (mj_n μ b2)) ∧ ((¬ v2 = 0 → ((vp_in (((50000 * v1) + v2) - 1) (mj_n μ b2)) ∧ (((mj_i μ b2 (Int32.toNatClampNeg ((50000 * v1) + v2))) = (mj_i μ b2 (Int32.toNatClampNeg (((50000 * v1) + v2) - 1))) → Ex (some (.int 0)) μ) ∧ (¬ (mj_i μ b2 (Int32.toNatClampNeg ((50000 * v1) + v2))) = (mj_i μ b2 (Int32.toNatClampNeg (((50000 * v1) + v2) - 1))) → Ex (some (.int 1)) μ)))) ∧ (v2 = 0 → (((mj_i μ b2 (Int32.toNatClampNeg ((50000 * v1) + v2))) = 0 → Ex (some (.int 0)) μ) ∧ (¬ (mj_i μ b2 (Int32.toNatClampNeg ((50000 * v1) + v2))) = 0 → Ex (some (.int 1)) μ)))))) :
    mj_J G mY_M_isSwitch Ex N S 0 [(0, va_rf (some h0)), (1, .int v1), (2, .int v2)] [] μ := by
  refine mj_aload_n 0 md_M_isSwitch_0 rfl ?_
  obtain ⟨ht1, H⟩ := H
  refine mj_getf (v := va_rf (mj_r μ h0 44)) rfl kc_M 44 (by decide) tw_667 md_M_isSwitch_1 ht1 rfl ?_
  refine mj_ldc (v := 50000) tw_875 md_M_isSwitch_4 ?_
  refine mj_iload_n 1 md_M_isSwitch_6 rfl ?_
  refine mj_imul md_M_isSwitch_7 ?_
  refine mj_iload_n 2 md_M_isSwitch_8 rfl ?_
  refine mj_iadd md_M_isSwitch_9 ?_
  obtain ⟨b2, hb3, H⟩ := H
  obtain ⟨ht4, H⟩ := H
  obtain ⟨hi5, H⟩ := H
  refine mj_sald (t := 3) hb3 rfl ht4 hi5 md_M_isSwitch_10 ?_
  refine mj_iload_n 2 md_M_isSwitch_11 rfl ?_
  obtain ⟨H1, H2⟩ := H
  refine mj_if_ne (tgt := 19) md_M_isSwitch_12 (by decide) (fun hx => ?_) (fun hx => ?_)
  · replace H := H1 hx
    refine mj_aload_n 0 md_M_isSwitch_19 rfl ?_
    refine mj_getf (v := va_rf (mj_r μ h0 44)) rfl kc_M 44 (by decide) tw_667 md_M_isSwitch_20 ht1 rfl ?_
    refine mj_ldc (v := 50000) tw_875 md_M_isSwitch_23 ?_
    refine mj_iload_n 1 md_M_isSwitch_25 rfl ?_
    refine mj_imul md_M_isSwitch_26 ?_
    refine mj_iload_n 2 md_M_isSwitch_27 rfl ?_
    refine mj_iadd md_M_isSwitch_28 ?_
    refine mj_iconst (v := 1) md_M_isSwitch_29 (by decide) ?_
    refine mj_isub md_M_isSwitch_30 ?_
    obtain ⟨hi6, H⟩ := H
    refine mj_sald (t := 3) hb3 rfl ht4 hi6 md_M_isSwitch_31 ?_
    obtain ⟨H1, H2⟩ := H
    refine mj_icmp_eq (tgt := 39) md_M_isSwitch_32 (by decide) (fun hx => ?_) (fun hx => ?_)
    · replace H := H1 hx
      refine mj_iconst (v := 0) md_M_isSwitch_39 (by decide) ?_
      exact mj_ireturn md_M_isSwitch_40 rfl (by decide) H
    · replace H := H2 hx
      refine mj_iconst (v := 1) md_M_isSwitch_35 (by decide) ?_
      refine mj_goto (tgt := 40) md_M_isSwitch_36 (by decide) ?_
      exact mj_ireturn md_M_isSwitch_40 rfl (by decide) H
  · replace H := H2 hx
    refine mj_iconst (v := 0) md_M_isSwitch_15 (by decide) ?_
    refine mj_goto (tgt := 32) md_M_isSwitch_16 (by decide) ?_
    obtain ⟨H1, H2⟩ := H
    refine mj_icmp_eq (tgt := 39) md_M_isSwitch_32 (by decide) (fun hx => ?_) (fun hx => ?_)
    · replace H := H1 hx
      refine mj_iconst (v := 0) md_M_isSwitch_39 (by decide) ?_
      exact mj_ireturn md_M_isSwitch_40 rfl (by decide) H
    · replace H := H2 hx
      refine mj_iconst (v := 1) md_M_isSwitch_35 (by decide) ?_
      refine mj_goto (tgt := 40) md_M_isSwitch_36 (by decide) ?_
      exact mj_ireturn md_M_isSwitch_40 rfl (by decide) H

set_option maxRecDepth 20000 in
theorem bk_M_order_0 {G : mj_G} {Ex : Option Value → mj_MM → Prop} {N S : Nat} {μ : mj_MM} {h0 : Nat} {v1 : Int32} {v2 : Int32}
    (H : mj_J G mY_M_order Ex N S 8 [(0, va_rf (some h0)), (1, .int v1), (2, .int v2), (3, .int 0), (4, .int (-1)), (5, .int 0)] [] μ) :
    mj_J G mY_M_order Ex N S 0 [(0, va_rf (some h0)), (1, .int v1), (2, .int v2)] [] μ := by
  refine mj_iconst (v := 0) md_M_order_0 (by decide) ?_
  refine mj_istn (i := 3) (lv' := [(3, .int 0), (0, va_rf (some h0)), (1, .int v1), (2, .int v2)]) md_M_order_1 rfl (by decide) (by first | rfl | (simp [mj_rfc]; done) | (simp [mj_rfc]; rfl)) ?_
  refine mj_iconst (v := (-1)) md_M_order_2 (by decide) ?_
  refine mj_istore (lv' := [(4, .int (-1)), (3, .int 0), (0, va_rf (some h0)), (1, .int v1), (2, .int v2)]) md_M_order_3 (by decide) (by first | rfl | (simp [mj_rfc]; done) | (simp [mj_rfc]; rfl)) ?_
  refine mj_iconst (v := 0) md_M_order_5 (by decide) ?_
  refine mj_istore (lv' := [(5, .int 0), (4, .int (-1)), (3, .int 0), (0, va_rf (some h0)), (1, .int v1), (2, .int v2)]) md_M_order_6 (by decide) (by first | rfl | (simp [mj_rfc]; done) | (simp [mj_rfc]; rfl)) ?_
  exact mj_lvs [3, 4, 5, 2, 1, 0] rfl H

set_option maxRecDepth 20000 in
theorem bk_M_order_8 {G : mj_G} {Ex : Option Value → mj_MM → Prop} {N S : Nat} {μ : mj_MM} {h0 : Nat} {v1 : Int32} {v2 : Int32} {v3 : Int32} {v4 : Int32} {v5 : Int32}
    (H : ((mj_t μ h0 = 11) ∧ (((mj_l μ h0 43) ≤ (Int32.toInt64 v5) → ((¬ v1 = (-1) → ((0 ≤ v4 → ((v2 < 0 → Ex (some (.int (-2))) μ) ∧ (¬ v2 < 0 → ((v2 ≤ 2 → ((¬ v2 = 0 → ((¬ v2 = 1 → (∃ b2 : Nat, (mj_r μ h0 44 = some b2) ∧ (mj_t μ b2 = 1003) ∧ (vp_in ((50000 * (v4 - v4 / 8 * 8)) + (v4 / 8)) (mj_n μ b2)) ∧ Ex (some (.int (mj_i μ b2 (Int32.toNatClampNeg ((50000 * (v4 - v4 / 8 * 8)) + (v4 / 8)))))) μ)) ∧ (v2 = 1 → Ex (some (.int (v4 - v4 / 8 * 8))) μ))) ∧ (v2 = 0 → Ex (some (.int (v4 / 8))) μ))) ∧ (¬ v2 ≤ 2 → Ex (some (.int (-2))) μ))))) ∧ (¬ 0 ≤ v4 → Ex (some (.int (-1))) μ))) ∧ (v1 = (-1) → ((¬ v2 = 0 → ((0 ≤ v4 → ((v2 < 0 → Ex (some (.int (-2))) μ) ∧ (¬ v2 < 0 → ((v2 ≤ 2 → ((¬ v2 = 0 → ((¬ v2 = 1 → (∃ b6 : Nat, (mj_r μ h0 44 = some b6) ∧ (mj_t μ b6 = 1003) ∧ (vp_in ((50000 * (v4 - v4 / 8 * 8)) + (v4 / 8)) (mj_n μ b6)) ∧ Ex (some (.int (mj_i μ b6 (Int32.toNatClampNeg ((50000 * (v4 - v4 / 8 * 8)) + (v4 / 8)))))) μ)) ∧ (v2 = 1 → Ex (some (.int (v4 - v4 / 8 * 8))) μ))) ∧ (v2 = 0 → Ex (some (.int (v4 / 8))) μ))) ∧ (¬ v2 ≤ 2 → Ex (some (.int (-2))) μ))))) ∧ (¬ 0 ≤ v4 → Ex (some (.int (-1))) μ))) ∧ (v2 = 0 → Ex (some (.int v3)) μ))))) ∧ (¬ (mj_l μ h0 43) ≤ (Int32.toInt64 v5) → mj_J G mY_M_order Ex N S 22 [(0, va_rf (some h0)), (1, .int v1), (2, .int v2), (3, .int v3), (4, .int v4), (5, .int v5), (6, .int 0)] [] μ)))) :
    mj_J G mY_M_order Ex N S 8 [(0, va_rf (some h0)), (1, .int v1), (2, .int v2), (3, .int v3), (4, .int v4), (5, .int v5)] [] μ := by
  refine mj_iload 5 md_M_order_8 rfl ?_
  refine mj_i2l md_M_order_10 ?_
  refine mj_aload_n 0 md_M_order_11 rfl ?_
  obtain ⟨ht1, H⟩ := H
  refine mj_getf (v := .long (mj_l μ h0 43)) rfl kc_M 43 (by decide) tw_666 md_M_order_12 ht1 rfl ?_
  refine mj_lcmp md_M_order_15 ?_
  obtain ⟨H1, H2⟩ := H
  refine mj_if_ge (tgt := 80) md_M_order_16 (by decide) (fun hx => ?_) (fun hx => ?_)
  · replace H := H1 ((lg_cmp_ge (Int32.toInt64 v5) (mj_l μ h0 43)).mp hx)
    refine mj_iload_n 1 md_M_order_80 rfl ?_
    refine mj_iconst (v := (-1)) md_M_order_81 (by decide) ?_
    obtain ⟨H1, H2⟩ := H
    refine mj_icmp_ne (tgt := 91) md_M_order_82 (by decide) (fun hx => ?_) (fun hx => ?_)
    · replace H := H1 hx
      refine mj_iload 4 md_M_order_91 rfl ?_
      obtain ⟨H1, H2⟩ := H
      refine mj_if_ge (tgt := 98) md_M_order_93 (by decide) (fun hx => ?_) (fun hx => ?_)
      · replace H := H1 hx
        refine mj_iload_n 2 md_M_order_98 rfl ?_
        obtain ⟨H1, H2⟩ := H
        refine mj_if_lt (tgt := 107) md_M_order_99 (by decide) (fun hx => ?_) (fun hx => ?_)
        · replace H := H1 hx
          refine mj_bipush (v := (-2)) md_M_order_107 (by decide) ?_
          exact mj_ireturn md_M_order_109 rfl rfl H
        · replace H := H2 hx
          refine mj_iload_n 2 md_M_order_102 rfl ?_
          refine mj_iconst (v := 2) md_M_order_103 (by decide) ?_
          obtain ⟨H1, H2⟩ := H
          refine mj_icmp_le (tgt := 110) md_M_order_104 (by decide) (fun hx => ?_) (fun hx => ?_)
          · replace H := H1 hx
            refine mj_iload_n 2 md_M_order_110 rfl ?_
            obtain ⟨H1, H2⟩ := H
            refine mj_if_ne (tgt := 122) md_M_order_111 (by decide) (fun hx => ?_) (fun hx => ?_)
            · replace H := H1 hx
              refine mj_iload_n 2 md_M_order_122 rfl ?_
              refine mj_iconst (v := 1) md_M_order_123 (by decide) ?_
              obtain ⟨H1, H2⟩ := H
              refine mj_icmp_ne (tgt := 135) md_M_order_124 (by decide) (fun hx => ?_) (fun hx => ?_)
              · replace H := H1 hx
                refine mj_aload_n 0 md_M_order_135 rfl ?_
                refine mj_getf (v := va_rf (mj_r μ h0 44)) rfl kc_M 44 (by decide) tw_667 md_M_order_136 ht1 rfl ?_
                refine mj_ldc (v := 50000) tw_875 md_M_order_139 ?_
                refine mj_iload 4 md_M_order_141 rfl ?_
                refine mj_bipush (v := 8) md_M_order_143 (by decide) ?_
                refine mj_irem md_M_order_145 (by decide) ?_
                refine mj_imul md_M_order_146 ?_
                refine mj_iload 4 md_M_order_147 rfl ?_
                refine mj_bipush (v := 8) md_M_order_149 (by decide) ?_
                refine mj_idiv md_M_order_151 (by decide) ?_
                refine mj_iadd md_M_order_152 ?_
                obtain ⟨b2, hb3, H⟩ := H
                obtain ⟨ht4, H⟩ := H
                obtain ⟨hi5, H⟩ := H
                refine mj_sald (t := 3) hb3 rfl ht4 hi5 md_M_order_153 ?_
                exact mj_ireturn md_M_order_154 rfl rfl H
              · replace H := H2 hx
                refine mj_iload 4 md_M_order_127 rfl ?_
                refine mj_bipush (v := 8) md_M_order_129 (by decide) ?_
                refine mj_irem md_M_order_131 (by decide) ?_
                refine mj_goto (tgt := 154) md_M_order_132 (by decide) ?_
                exact mj_ireturn md_M_order_154 rfl rfl H
            · replace H := H2 hx
              refine mj_iload 4 md_M_order_114 rfl ?_
              refine mj_bipush (v := 8) md_M_order_116 (by decide) ?_
              refine mj_idiv md_M_order_118 (by decide) ?_
              refine mj_goto (tgt := 154) md_M_order_119 (by decide) ?_
              exact mj_ireturn md_M_order_154 rfl rfl H
          · replace H := H2 hx
            refine mj_bipush (v := (-2)) md_M_order_107 (by decide) ?_
            exact mj_ireturn md_M_order_109 rfl rfl H
      · replace H := H2 hx
        refine mj_iconst (v := (-1)) md_M_order_96 (by decide) ?_
        exact mj_ireturn md_M_order_97 rfl rfl H
    · replace H := H2 hx
      refine mj_iload_n 2 md_M_order_85 rfl ?_
      obtain ⟨H1, H2⟩ := H
      refine mj_if_ne (tgt := 91) md_M_order_86 (by decide) (fun hx => ?_) (fun hx => ?_)
      · replace H := H1 hx
        refine mj_iload 4 md_M_order_91 rfl ?_
        obtain ⟨H1, H2⟩ := H
        refine mj_if_ge (tgt := 98) md_M_order_93 (by decide) (fun hx => ?_) (fun hx => ?_)
        · replace H := H1 hx
          refine mj_iload_n 2 md_M_order_98 rfl ?_
          obtain ⟨H1, H2⟩ := H
          refine mj_if_lt (tgt := 107) md_M_order_99 (by decide) (fun hx => ?_) (fun hx => ?_)
          · replace H := H1 hx
            refine mj_bipush (v := (-2)) md_M_order_107 (by decide) ?_
            exact mj_ireturn md_M_order_109 rfl rfl H
          · replace H := H2 hx
            refine mj_iload_n 2 md_M_order_102 rfl ?_
            refine mj_iconst (v := 2) md_M_order_103 (by decide) ?_
            obtain ⟨H1, H2⟩ := H
            refine mj_icmp_le (tgt := 110) md_M_order_104 (by decide) (fun hx => ?_) (fun hx => ?_)
            · replace H := H1 hx
              refine mj_iload_n 2 md_M_order_110 rfl ?_
              obtain ⟨H1, H2⟩ := H
              refine mj_if_ne (tgt := 122) md_M_order_111 (by decide) (fun hx => ?_) (fun hx => ?_)
              · replace H := H1 hx
                refine mj_iload_n 2 md_M_order_122 rfl ?_
                refine mj_iconst (v := 1) md_M_order_123 (by decide) ?_
                obtain ⟨H1, H2⟩ := H
                refine mj_icmp_ne (tgt := 135) md_M_order_124 (by decide) (fun hx => ?_) (fun hx => ?_)
                · replace H := H1 hx
                  refine mj_aload_n 0 md_M_order_135 rfl ?_
                  refine mj_getf (v := va_rf (mj_r μ h0 44)) rfl kc_M 44 (by decide) tw_667 md_M_order_136 ht1 rfl ?_
                  refine mj_ldc (v := 50000) tw_875 md_M_order_139 ?_
                  refine mj_iload 4 md_M_order_141 rfl ?_
                  refine mj_bipush (v := 8) md_M_order_143 (by decide) ?_
                  refine mj_irem md_M_order_145 (by decide) ?_
                  refine mj_imul md_M_order_146 ?_
                  refine mj_iload 4 md_M_order_147 rfl ?_
                  refine mj_bipush (v := 8) md_M_order_149 (by decide) ?_
                  refine mj_idiv md_M_order_151 (by decide) ?_
                  refine mj_iadd md_M_order_152 ?_
                  obtain ⟨b6, hb7, H⟩ := H
                  obtain ⟨ht8, H⟩ := H
                  obtain ⟨hi9, H⟩ := H
                  refine mj_sald (t := 3) hb7 rfl ht8 hi9 md_M_order_153 ?_
                  exact mj_ireturn md_M_order_154 rfl rfl H
                · replace H := H2 hx
                  refine mj_iload 4 md_M_order_127 rfl ?_
                  refine mj_bipush (v := 8) md_M_order_129 (by decide) ?_
                  refine mj_irem md_M_order_131 (by decide) ?_
                  refine mj_goto (tgt := 154) md_M_order_132 (by decide) ?_
                  exact mj_ireturn md_M_order_154 rfl rfl H
              · replace H := H2 hx
                refine mj_iload 4 md_M_order_114 rfl ?_
                refine mj_bipush (v := 8) md_M_order_116 (by decide) ?_
                refine mj_idiv md_M_order_118 (by decide) ?_
                refine mj_goto (tgt := 154) md_M_order_119 (by decide) ?_
                exact mj_ireturn md_M_order_154 rfl rfl H
            · replace H := H2 hx
              refine mj_bipush (v := (-2)) md_M_order_107 (by decide) ?_
              exact mj_ireturn md_M_order_109 rfl rfl H
        · replace H := H2 hx
          refine mj_iconst (v := (-1)) md_M_order_96 (by decide) ?_
          exact mj_ireturn md_M_order_97 rfl rfl H
      · replace H := H2 hx
        refine mj_iload_n 3 md_M_order_89 rfl ?_
        exact mj_ireturn md_M_order_90 rfl rfl H
  · replace H := H2 (fun hy => hx ((lg_cmp_ge (Int32.toInt64 v5) (mj_l μ h0 43)).mpr hy))
    refine mj_iconst (v := 0) md_M_order_19 (by decide) ?_
    refine mj_istore (lv' := [(6, .int 0), (0, va_rf (some h0)), (1, .int v1), (2, .int v2), (3, .int v3), (4, .int v4), (5, .int v5)]) md_M_order_20 (by decide) (by first | rfl | (simp [mj_rfc]; done) | (simp [mj_rfc]; rfl)) ?_
    exact mj_lvs [1, 2, 3, 4, 5, 6, 0] rfl H

set_option maxRecDepth 20000 in
theorem bk_M_order_22 {G : mj_G} {Ex : Option Value → mj_MM → Prop} {N S : Nat} {μ : mj_MM} {h0 : Nat} {v1 : Int32} {v2 : Int32} {v3 : Int32} {v4 : Int32} {v5 : Int32} {v6 : Int32}
    (H : ((mj_t μ h0 = 11) ∧ (((mj_i μ h0 0) ≤ v6 → mj_J G mY_M_order Ex N S 8 [(0, va_rf (some h0)), (1, .int v1), (2, .int v2), (3, .int v3), (4, .int v4), (5, .int (v5 + 1))] [] μ) ∧ (¬ (mj_i μ h0 0) ≤ v6 → (∃ P : Int32 → mj_MM → Prop, mj_M G my_M_isSwitch mY_M_isSwitch [va_rf (some h0), .int v6, .int v5] (mj_nc μ) (mj_ns μ) μ (mj_XI P) ∧ ∀ (x : Int32) (μ' : mj_MM), P x μ' → mj_nc μ' = mj_nc μ → mj_ns μ' = mj_ns μ → mj_J G mY_M_order Ex N S 39 [(0, va_rf (some h0)), (1, .int v1), (2, .int v2), (3, .int v3), (4, .int v4), (5, .int v5), (6, .int v6)] [.int x] μ'))))) :
    mj_J G mY_M_order Ex N S 22 [(0, va_rf (some h0)), (1, .int v1), (2, .int v2), (3, .int v3), (4, .int v4), (5, .int v5), (6, .int v6)] [] μ := by
  refine mj_iload 6 md_M_order_22 rfl ?_
  refine mj_aload_n 0 md_M_order_24 rfl ?_
  obtain ⟨ht1, H⟩ := H
  refine mj_getf (v := .int (mj_i μ h0 0)) rfl kc_M 0 (by decide) tw_623 md_M_order_25 ht1 rfl ?_
  obtain ⟨H1, H2⟩ := H
  refine mj_icmp_ge (tgt := 74) md_M_order_28 (by decide) (fun hx => ?_) (fun hx => ?_)
  · replace H := H1 hx
    refine mj_iinc (j := 5) (v := v5 + 1) (lv' := [(5, .int (v5 + 1)), (0, va_rf (some h0)), (1, .int v1), (2, .int v2), (3, .int v3), (4, .int v4), (6, .int v6)]) md_M_order_74 rfl rfl (by decide) (by first | rfl | (simp [mj_rfc]; done) | (simp [mj_rfc]; rfl)) ?_
    refine mj_goto (tgt := 8) md_M_order_77 (by decide) ?_
    exact mj_lvs [1, 2, 3, 4, 5, 0] rfl H
  · replace H := H2 hx
    refine mj_aload_n 0 md_M_order_31 rfl ?_
    refine mj_iload 6 md_M_order_32 rfl ?_
    refine mj_iload 5 md_M_order_34 rfl ?_
    obtain ⟨P, hM, H⟩ := H
    exact mj_callV (n := 2) (As := [.int v6, .int v5]) rfl hM kc_M ht1 ⟨tw_914, tw_8, tw_917, ⟨by decide, by decide, by decide +kernel⟩, by decide, by decide⟩ tw_916 tp_52 rfl md_M_order_36 (by first | decide | (simp only [List.map_cons, List.map_nil, List.sum_cons, List.sum_nil, mj_rfc, mj_ci, mj_cl]; done) | (simp only [List.map_cons, List.map_nil, List.sum_cons, List.sum_nil, mj_rfc, mj_ci, mj_cl]; decide)) id (mj_kI (fun x μ' hP e1 e2 => mj_lvs [0, 1, 2, 3, 4, 5, 6] rfl (H x μ' hP e1 e2)))

set_option maxRecDepth 20000 in
theorem bk_M_order_39 {G : mj_G} {Ex : Option Value → mj_MM → Prop} {N S : Nat} {μ : mj_MM} {h0 : Nat} {v1 : Int32} {v2 : Int32} {v3 : Int32} {v4 : Int32} {v5 : Int32} {v6 : Int32} {s0 : Int32}
    (H : ((¬ s0 = 0 → ((¬ v3 = v1 → mj_J G mY_M_order Ex N S 22 [(0, va_rf (some h0)), (1, .int v1), (2, .int v2), (3, .int (v3 + 1)), (4, .int v4), (5, .int v5), (6, .int (v6 + 1))] [] μ) ∧ (v3 = v1 → mj_J G mY_M_order Ex N S 22 [(0, va_rf (some h0)), (1, .int v1), (2, .int v2), (3, .int (v3 + 1)), (4, .int ((8 * v5) + v6)), (5, .int v5), (6, .int (v6 + 1))] [] μ))) ∧ (s0 = 0 → mj_J G mY_M_order Ex N S 22 [(0, va_rf (some h0)), (1, .int v1), (2, .int v2), (3, .int v3), (4, .int v4), (5, .int v5), (6, .int (v6 + 1))] [] μ))) :
    mj_J G mY_M_order Ex N S 39 [(0, va_rf (some h0)), (1, .int v1), (2, .int v2), (3, .int v3), (4, .int v4), (5, .int v5), (6, .int v6)] [.int s0] μ := by
  obtain ⟨H1, H2⟩ := H
  refine mj_if_ne (tgt := 45) md_M_order_39 (by decide) (fun hx => ?_) (fun hx => ?_)
  · replace H := H1 hx
    refine mj_iload_n 3 md_M_order_45 rfl ?_
    refine mj_iload_n 1 md_M_order_46 rfl ?_
    obtain ⟨H1, H2⟩ := H
    refine mj_icmp_ne (tgt := 61) md_M_order_47 (by decide) (fun hx => ?_) (fun hx => ?_)
    · replace H := H1 hx
      refine mj_iload 4 md_M_order_61 rfl ?_
      refine mj_istore (lv' := [(4, .int v4), (0, va_rf (some h0)), (1, .int v1), (2, .int v2), (3, .int v3), (5, .int v5), (6, .int v6)]) md_M_order_63 (by decide) (by first | rfl | (simp [mj_rfc]; done) | (simp [mj_rfc]; rfl)) ?_
      refine mj_iinc (j := 4) (v := v3 + 1) (lv' := [(3, .int (v3 + 1)), (4, .int v4), (0, va_rf (some h0)), (1, .int v1), (2, .int v2), (5, .int v5), (6, .int v6)]) md_M_order_65 rfl rfl (by decide) (by first | rfl | (simp [mj_rfc]; done) | (simp [mj_rfc]; rfl)) ?_
      refine mj_iinc (j := 6) (v := v6 + 1) (lv' := [(6, .int (v6 + 1)), (3, .int (v3 + 1)), (4, .int v4), (0, va_rf (some h0)), (1, .int v1), (2, .int v2), (5, .int v5)]) md_M_order_68 rfl rfl (by decide) (by first | rfl | (simp [mj_rfc]; done) | (simp [mj_rfc]; rfl)) ?_
      refine mj_goto (tgt := 22) md_M_order_71 (by decide) ?_
      exact mj_lvs [3, 4, 5, 1, 2, 6, 0] rfl H
    · replace H := H2 hx
      refine mj_bipush (v := 8) md_M_order_50 (by decide) ?_
      refine mj_iload 5 md_M_order_52 rfl ?_
      refine mj_imul md_M_order_54 ?_
      refine mj_iload 6 md_M_order_55 rfl ?_
      refine mj_iadd md_M_order_57 ?_
      refine mj_goto (tgt := 63) md_M_order_58 (by decide) ?_
      refine mj_istore (lv' := [(4, .int ((8 * v5) + v6)), (0, va_rf (some h0)), (1, .int v1), (2, .int v2), (3, .int v3), (5, .int v5), (6, .int v6)]) md_M_order_63 (by decide) (by first | rfl | (simp [mj_rfc]; done) | (simp [mj_rfc]; rfl)) ?_
      refine mj_iinc (j := 4) (v := v3 + 1) (lv' := [(3, .int (v3 + 1)), (4, .int ((8 * v5) + v6)), (0, va_rf (some h0)), (1, .int v1), (2, .int v2), (5, .int v5), (6, .int v6)]) md_M_order_65 rfl rfl (by decide) (by first | rfl | (simp [mj_rfc]; done) | (simp [mj_rfc]; rfl)) ?_
      refine mj_iinc (j := 6) (v := v6 + 1) (lv' := [(6, .int (v6 + 1)), (3, .int (v3 + 1)), (4, .int ((8 * v5) + v6)), (0, va_rf (some h0)), (1, .int v1), (2, .int v2), (5, .int v5)]) md_M_order_68 rfl rfl (by decide) (by first | rfl | (simp [mj_rfc]; done) | (simp [mj_rfc]; rfl)) ?_
      refine mj_goto (tgt := 22) md_M_order_71 (by decide) ?_
      exact mj_lvs [3, 4, 5, 1, 2, 6, 0] rfl H
  · replace H := H2 hx
    refine mj_goto (tgt := 68) md_M_order_42 (by decide) ?_
    refine mj_iinc (j := 6) (v := v6 + 1) (lv' := [(6, .int (v6 + 1)), (0, va_rf (some h0)), (1, .int v1), (2, .int v2), (3, .int v3), (4, .int v4), (5, .int v5)]) md_M_order_68 rfl rfl (by decide) (by first | rfl | (simp [mj_rfc]; done) | (simp [mj_rfc]; rfl)) ?_
    refine mj_goto (tgt := 22) md_M_order_71 (by decide) ?_
    exact mj_lvs [1, 2, 3, 4, 5, 6, 0] rfl H

set_option maxRecDepth 20000 in
theorem bk_M_spin_0 {G : mj_G} {Ex : Option Value → mj_MM → Prop} {N S : Nat} {μ : mj_MM} {h0 : Nat} {v1 : Int32} {v2 : Int32}
    (H : ((v1 < 0 → Ex (some (.int (-1000))) μ) ∧ (¬ v1 < 0 → ((mj_t μ h0 = 11) ∧ ((v1 < (mj_i μ h0 0) → ((v2 < 1 → Ex (some (.int (-2000))) μ) ∧ (¬ v2 < 1 → ((v2 ≤ 16 → (∃ b2 : Nat, (mj_r μ h0 25 = some b2) ∧ (mj_t μ b2 = 1000) ∧ (vp_in v2 (mj_n μ b2)) ∧ (((mj_i μ b2 (Int32.toNatClampNeg v2)) ≤ 0 → mj_J G mY_M_spin Ex N S 67 [(0, va_rf (some h0)), (1, .int v1), (2, .int v2), (3, .int 0), (4, .int 1)] [] μ) ∧ (¬ (mj_i μ b2 (Int32.toNatClampNeg v2)) ≤ 0 → ((vp_in v2 (mj_n μ b2)) ∧ ∃ b7 : Nat, (mj_r μ h0 3 = some b7) ∧ (mj_t μ b7 = 1000) ∧ (vp_in (mj_i μ b2 (Int32.toNatClampNeg v2)) (mj_n μ b7)) ∧ ((¬ (mj_i μ b7 (Int32.toNatClampNeg (mj_i μ b2 (Int32.toNatClampNeg v2)))) = v1 → mj_J G mY_M_spin Ex N S 67 [(0, va_rf (some h0)), (1, .int v1), (2, .int v2), (3, .int 0), (4, .int 1)] [] μ) ∧ ((mj_i μ b7 (Int32.toNatClampNeg (mj_i μ b2 (Int32.toNatClampNeg v2)))) = v1 → ((vp_in v2 (mj_n μ b2)) ∧ Ex (some (.int (mj_i μ b2 (Int32.toNatClampNeg v2)))) μ)))))))) ∧ (¬ v2 ≤ 16 → Ex (some (.int (-2000))) μ))))) ∧ (¬ v1 < (mj_i μ h0 0) → Ex (some (.int (-1000))) μ)))))) :
    mj_J G mY_M_spin Ex N S 0 [(0, va_rf (some h0)), (1, .int v1), (2, .int v2)] [] μ := by
  refine mj_iload_n 1 md_M_spin_0 rfl ?_
  obtain ⟨H1, H2⟩ := H
  refine mj_if_lt (tgt := 12) md_M_spin_1 (by decide) (fun hx => ?_) (fun hx => ?_)
  · replace H := H1 hx
    refine mj_sipush (v := (-1000)) md_M_spin_12 (by decide) ?_
    exact mj_ireturn md_M_spin_15 rfl rfl H
  · replace H := H2 hx
    refine mj_iload_n 1 md_M_spin_4 rfl ?_
    refine mj_aload_n 0 md_M_spin_5 rfl ?_
    obtain ⟨ht1, H⟩ := H
    refine mj_getf (v := .int (mj_i μ h0 0)) rfl kc_M 0 (by decide) tw_623 md_M_spin_6 ht1 rfl ?_
    obtain ⟨H1, H2⟩ := H
    refine mj_icmp_lt (tgt := 16) md_M_spin_9 (by decide) (fun hx => ?_) (fun hx => ?_)
    · replace H := H1 hx
      refine mj_iload_n 2 md_M_spin_16 rfl ?_
      refine mj_iconst (v := 1) md_M_spin_17 (by decide) ?_
      obtain ⟨H1, H2⟩ := H
      refine mj_icmp_lt (tgt := 27) md_M_spin_18 (by decide) (fun hx => ?_) (fun hx => ?_)
      · replace H := H1 hx
        refine mj_sipush (v := (-2000)) md_M_spin_27 (by decide) ?_
        exact mj_ireturn md_M_spin_30 rfl rfl H
      · replace H := H2 hx
        refine mj_iload_n 2 md_M_spin_21 rfl ?_
        refine mj_bipush (v := 16) md_M_spin_22 (by decide) ?_
        obtain ⟨H1, H2⟩ := H
        refine mj_icmp_le (tgt := 31) md_M_spin_24 (by decide) (fun hx => ?_) (fun hx => ?_)
        · replace H := H1 hx
          refine mj_aload_n 0 md_M_spin_31 rfl ?_
          refine mj_getf (v := va_rf (mj_r μ h0 25)) rfl kc_M 25 (by decide) tw_648 md_M_spin_32 ht1 rfl ?_
          refine mj_iload_n 2 md_M_spin_35 rfl ?_
          obtain ⟨b2, hb3, H⟩ := H
          obtain ⟨ht4, H⟩ := H
          obtain ⟨hi5, H⟩ := H
          refine mj_iald (t := 0) hb3 rfl ht4 hi5 md_M_spin_36 ?_
          obtain ⟨H1, H2⟩ := H
          refine mj_if_le (tgt := 62) md_M_spin_37 (by decide) (fun hx => ?_) (fun hx => ?_)
          · replace H := H1 hx
            refine mj_iconst (v := 0) md_M_spin_62 (by decide) ?_
            refine mj_istn (i := 3) (lv' := [(3, .int 0), (0, va_rf (some h0)), (1, .int v1), (2, .int v2)]) md_M_spin_63 rfl (by decide) (by first | rfl | (simp [mj_rfc]; done) | (simp [mj_rfc]; rfl)) ?_
            refine mj_iconst (v := 1) md_M_spin_64 (by decide) ?_
            refine mj_istore (lv' := [(4, .int 1), (3, .int 0), (0, va_rf (some h0)), (1, .int v1), (2, .int v2)]) md_M_spin_65 (by decide) (by first | rfl | (simp [mj_rfc]; done) | (simp [mj_rfc]; rfl)) ?_
            exact mj_lvs [2, 3, 4, 1, 0] rfl H
          · replace H := H2 hx
            refine mj_aload_n 0 md_M_spin_40 rfl ?_
            refine mj_getf (v := va_rf (mj_r μ h0 3)) rfl kc_M 3 (by decide) tw_626 md_M_spin_41 ht1 rfl ?_
            refine mj_aload_n 0 md_M_spin_44 rfl ?_
            refine mj_getf (v := va_rf (mj_r μ h0 25)) rfl kc_M 25 (by decide) tw_648 md_M_spin_45 ht1 rfl ?_
            refine mj_iload_n 2 md_M_spin_48 rfl ?_
            obtain ⟨hi6, H⟩ := H
            refine mj_iald (t := 0) hb3 rfl ht4 hi6 md_M_spin_49 ?_
            obtain ⟨b7, hb8, H⟩ := H
            obtain ⟨ht9, H⟩ := H
            obtain ⟨hi10, H⟩ := H
            refine mj_iald (t := 0) hb8 rfl ht9 hi10 md_M_spin_50 ?_
            refine mj_iload_n 1 md_M_spin_51 rfl ?_
            obtain ⟨H1, H2⟩ := H
            refine mj_icmp_ne (tgt := 62) md_M_spin_52 (by decide) (fun hx => ?_) (fun hx => ?_)
            · replace H := H1 hx
              refine mj_iconst (v := 0) md_M_spin_62 (by decide) ?_
              refine mj_istn (i := 3) (lv' := [(3, .int 0), (0, va_rf (some h0)), (1, .int v1), (2, .int v2)]) md_M_spin_63 rfl (by decide) (by first | rfl | (simp [mj_rfc]; done) | (simp [mj_rfc]; rfl)) ?_
              refine mj_iconst (v := 1) md_M_spin_64 (by decide) ?_
              refine mj_istore (lv' := [(4, .int 1), (3, .int 0), (0, va_rf (some h0)), (1, .int v1), (2, .int v2)]) md_M_spin_65 (by decide) (by first | rfl | (simp [mj_rfc]; done) | (simp [mj_rfc]; rfl)) ?_
              exact mj_lvs [2, 3, 4, 1, 0] rfl H
            · replace H := H2 hx
              refine mj_aload_n 0 md_M_spin_55 rfl ?_
              refine mj_getf (v := va_rf (mj_r μ h0 25)) rfl kc_M 25 (by decide) tw_648 md_M_spin_56 ht1 rfl ?_
              refine mj_iload_n 2 md_M_spin_59 rfl ?_
              obtain ⟨hi11, H⟩ := H
              refine mj_iald (t := 0) hb3 rfl ht4 hi11 md_M_spin_60 ?_
              exact mj_ireturn md_M_spin_61 rfl rfl H
        · replace H := H2 hx
          refine mj_sipush (v := (-2000)) md_M_spin_27 (by decide) ?_
          exact mj_ireturn md_M_spin_30 rfl rfl H
    · replace H := H2 hx
      refine mj_sipush (v := (-1000)) md_M_spin_12 (by decide) ?_
      exact mj_ireturn md_M_spin_15 rfl rfl H

set_option maxRecDepth 20000 in
theorem bk_M_spin_67 {G : mj_G} {Ex : Option Value → mj_MM → Prop} {N S : Nat} {μ : mj_MM} {h0 : Nat} {v1 : Int32} {v2 : Int32} {v3 : Int32} {v4 : Int32}
    (H : ((mj_t μ h0 = 11) ∧ (((mj_i μ h0 1) < v4 → Ex (some (.int (-v3))) μ) ∧ (¬ (mj_i μ h0 1) < v4 → (∃ b2 : Nat, (mj_r μ h0 3 = some b2) ∧ (mj_t μ b2 = 1000) ∧ (vp_in v4 (mj_n μ b2)) ∧ ((¬ (mj_i μ b2 (Int32.toNatClampNeg v4)) = v1 → mj_J G mY_M_spin Ex N S 67 [(0, va_rf (some h0)), (1, .int v1), (2, .int v2), (3, .int v3), (4, .int (v4 + 1))] [] μ) ∧ ((mj_i μ b2 (Int32.toNatClampNeg v4)) = v1 → (∃ b6 : Nat, (mj_r μ h0 26 = some b6) ∧ (mj_t μ b6 = 1000) ∧ (vp_in v4 (mj_n μ b6)) ∧ ((¬ (mj_i μ b6 (Int32.toNatClampNeg v4)) = v2 → mj_J G mY_M_spin Ex N S 67 [(0, va_rf (some h0)), (1, .int v1), (2, .int v2), (3, .int v3), (4, .int (v4 + 1))] [] μ) ∧ ((mj_i μ b6 (Int32.toNatClampNeg v4)) = v2 → ((v3 = 0 → mj_J G mY_M_spin Ex N S 67 [(0, va_rf (some h0)), (1, .int v1), (2, .int v2), (3, .int v4), (4, .int (v4 + 1))] [] μ) ∧ (¬ v3 = 0 → (∃ b10 : Nat, (mj_r μ h0 27 = some b10) ∧ (mj_t μ b10 = 1001) ∧ (vp_in v4 (mj_n μ b10)) ∧ (vp_in v3 (mj_n μ b10)) ∧ (((mj_l μ b10 (Int32.toNatClampNeg v3)) ≤ (mj_l μ b10 (Int32.toNatClampNeg v4)) → mj_J G mY_M_spin Ex N S 67 [(0, va_rf (some h0)), (1, .int v1), (2, .int v2), (3, .int v3), (4, .int (v4 + 1))] [] μ) ∧ (¬ (mj_l μ b10 (Int32.toNatClampNeg v3)) ≤ (mj_l μ b10 (Int32.toNatClampNeg v4)) → mj_J G mY_M_spin Ex N S 67 [(0, va_rf (some h0)), (1, .int v1), (2, .int v2), (3, .int v4), (4, .int (v4 + 1))] [] μ))))))))))))))) :
    mj_J G mY_M_spin Ex N S 67 [(0, va_rf (some h0)), (1, .int v1), (2, .int v2), (3, .int v3), (4, .int v4)] [] μ := by
  refine mj_iload 4 md_M_spin_67 rfl ?_
  refine mj_aload_n 0 md_M_spin_69 rfl ?_
  obtain ⟨ht1, H⟩ := H
  refine mj_getf (v := .int (mj_i μ h0 1)) rfl kc_M 1 (by decide) tw_624 md_M_spin_70 ht1 rfl ?_
  obtain ⟨H1, H2⟩ := H
  refine mj_icmp_gt (tgt := 128) md_M_spin_73 (by decide) (fun hx => ?_) (fun hx => ?_)
  · replace H := H1 hx
    refine mj_iload_n 3 md_M_spin_128 rfl ?_
    refine mj_ineg md_M_spin_129 ?_
    exact mj_ireturn md_M_spin_130 rfl rfl H
  · replace H := H2 hx
    refine mj_aload_n 0 md_M_spin_76 rfl ?_
    refine mj_getf (v := va_rf (mj_r μ h0 3)) rfl kc_M 3 (by decide) tw_626 md_M_spin_77 ht1 rfl ?_
    refine mj_iload 4 md_M_spin_80 rfl ?_
    obtain ⟨b2, hb3, H⟩ := H
    obtain ⟨ht4, H⟩ := H
    obtain ⟨hi5, H⟩ := H
    refine mj_iald (t := 0) hb3 rfl ht4 hi5 md_M_spin_82 ?_
    refine mj_iload_n 1 md_M_spin_83 rfl ?_
    obtain ⟨H1, H2⟩ := H
    refine mj_icmp_ne (tgt := 122) md_M_spin_84 (by decide) (fun hx => ?_) (fun hx => ?_)
    · replace H := H1 hx
      refine mj_iinc (j := 4) (v := v4 + 1) (lv' := [(4, .int (v4 + 1)), (0, va_rf (some h0)), (1, .int v1), (2, .int v2), (3, .int v3)]) md_M_spin_122 rfl rfl (by decide) (by first | rfl | (simp [mj_rfc]; done) | (simp [mj_rfc]; rfl)) ?_
      refine mj_goto (tgt := 67) md_M_spin_125 (by decide) ?_
      exact mj_lvs [1, 2, 3, 4, 0] rfl H
    · replace H := H2 hx
      refine mj_aload_n 0 md_M_spin_87 rfl ?_
      refine mj_getf (v := va_rf (mj_r μ h0 26)) rfl kc_M 26 (by decide) tw_649 md_M_spin_88 ht1 rfl ?_
      refine mj_iload 4 md_M_spin_91 rfl ?_
      obtain ⟨b6, hb7, H⟩ := H
      obtain ⟨ht8, H⟩ := H
      obtain ⟨hi9, H⟩ := H
      refine mj_iald (t := 0) hb7 rfl ht8 hi9 md_M_spin_93 ?_
      refine mj_iload_n 2 md_M_spin_94 rfl ?_
      obtain ⟨H1, H2⟩ := H
      refine mj_icmp_ne (tgt := 122) md_M_spin_95 (by decide) (fun hx => ?_) (fun hx => ?_)
      · replace H := H1 hx
        refine mj_iinc (j := 4) (v := v4 + 1) (lv' := [(4, .int (v4 + 1)), (0, va_rf (some h0)), (1, .int v1), (2, .int v2), (3, .int v3)]) md_M_spin_122 rfl rfl (by decide) (by first | rfl | (simp [mj_rfc]; done) | (simp [mj_rfc]; rfl)) ?_
        refine mj_goto (tgt := 67) md_M_spin_125 (by decide) ?_
        exact mj_lvs [1, 2, 3, 4, 0] rfl H
      · replace H := H2 hx
        refine mj_iload_n 3 md_M_spin_98 rfl ?_
        obtain ⟨H1, H2⟩ := H
        refine mj_if_eq (tgt := 119) md_M_spin_99 (by decide) (fun hx => ?_) (fun hx => ?_)
        · replace H := H1 hx
          refine mj_iload 4 md_M_spin_119 rfl ?_
          refine mj_istn (i := 3) (lv' := [(3, .int v4), (0, va_rf (some h0)), (1, .int v1), (2, .int v2), (4, .int v4)]) md_M_spin_121 rfl (by decide) (by first | rfl | (simp [mj_rfc]; done) | (simp [mj_rfc]; rfl)) ?_
          refine mj_iinc (j := 4) (v := v4 + 1) (lv' := [(4, .int (v4 + 1)), (3, .int v4), (0, va_rf (some h0)), (1, .int v1), (2, .int v2)]) md_M_spin_122 rfl rfl (by decide) (by first | rfl | (simp [mj_rfc]; done) | (simp [mj_rfc]; rfl)) ?_
          refine mj_goto (tgt := 67) md_M_spin_125 (by decide) ?_
          exact mj_lvs [2, 3, 4, 1, 0] rfl H
        · replace H := H2 hx
          refine mj_aload_n 0 md_M_spin_102 rfl ?_
          refine mj_getf (v := va_rf (mj_r μ h0 27)) rfl kc_M 27 (by decide) tw_650 md_M_spin_103 ht1 rfl ?_
          refine mj_iload 4 md_M_spin_106 rfl ?_
          obtain ⟨b10, hb11, H⟩ := H
          obtain ⟨ht12, H⟩ := H
          obtain ⟨hi13, H⟩ := H
          refine mj_lald (t := 1) hb11 rfl ht12 hi13 md_M_spin_108 ?_
          refine mj_aload_n 0 md_M_spin_109 rfl ?_
          refine mj_getf (v := va_rf (mj_r μ h0 27)) rfl kc_M 27 (by decide) tw_650 md_M_spin_110 ht1 rfl ?_
          refine mj_iload_n 3 md_M_spin_113 rfl ?_
          obtain ⟨hi14, H⟩ := H
          refine mj_lald (t := 1) hb11 rfl ht12 hi14 md_M_spin_114 ?_
          refine mj_lcmp md_M_spin_115 ?_
          obtain ⟨H1, H2⟩ := H
          refine mj_if_ge (tgt := 122) md_M_spin_116 (by decide) (fun hx => ?_) (fun hx => ?_)
          · replace H := H1 ((lg_cmp_ge (mj_l μ b10 (Int32.toNatClampNeg v4)) (mj_l μ b10 (Int32.toNatClampNeg v3))).mp hx)
            refine mj_iinc (j := 4) (v := v4 + 1) (lv' := [(4, .int (v4 + 1)), (0, va_rf (some h0)), (1, .int v1), (2, .int v2), (3, .int v3)]) md_M_spin_122 rfl rfl (by decide) (by first | rfl | (simp [mj_rfc]; done) | (simp [mj_rfc]; rfl)) ?_
            refine mj_goto (tgt := 67) md_M_spin_125 (by decide) ?_
            exact mj_lvs [1, 2, 3, 4, 0] rfl H
          · replace H := H2 (fun hy => hx ((lg_cmp_ge (mj_l μ b10 (Int32.toNatClampNeg v4)) (mj_l μ b10 (Int32.toNatClampNeg v3))).mpr hy))
            refine mj_iload 4 md_M_spin_119 rfl ?_
            refine mj_istn (i := 3) (lv' := [(3, .int v4), (0, va_rf (some h0)), (1, .int v1), (2, .int v2), (4, .int v4)]) md_M_spin_121 rfl (by decide) (by first | rfl | (simp [mj_rfc]; done) | (simp [mj_rfc]; rfl)) ?_
            refine mj_iinc (j := 4) (v := v4 + 1) (lv' := [(4, .int (v4 + 1)), (3, .int v4), (0, va_rf (some h0)), (1, .int v1), (2, .int v2)]) md_M_spin_122 rfl rfl (by decide) (by first | rfl | (simp [mj_rfc]; done) | (simp [mj_rfc]; rfl)) ?_
            refine mj_goto (tgt := 67) md_M_spin_125 (by decide) ?_
            exact mj_lvs [2, 3, 4, 1, 0] rfl H

set_option maxRecDepth 20000 in
theorem bk_M_holder_0 {G : mj_G} {Ex : Option Value → mj_MM → Prop} {N S : Nat} {μ : mj_MM} {h0 : Nat} {v1 : Int32}
    (H : ((v1 < 1 → Ex (some (.int (-2))) μ) ∧ (¬ v1 < 1 → ((v1 ≤ 32 → ((mj_t μ h0 = 11) ∧ ∃ b2 : Nat, (mj_r μ h0 22 = some b2) ∧ (mj_t μ b2 = 1000) ∧ (vp_in v1 (mj_n μ b2)) ∧ Ex (some (.int (mj_i μ b2 (Int32.toNatClampNeg v1)))) μ)) ∧ (¬ v1 ≤ 32 → Ex (some (.int (-2))) μ))))) :
    mj_J G mY_M_holder Ex N S 0 [(0, va_rf (some h0)), (1, .int v1)] [] μ := by
  refine mj_iload_n 1 md_M_holder_0 rfl ?_
  refine mj_iconst (v := 1) md_M_holder_1 (by decide) ?_
  obtain ⟨H1, H2⟩ := H
  refine mj_icmp_lt (tgt := 11) md_M_holder_2 (by decide) (fun hx => ?_) (fun hx => ?_)
  · replace H := H1 hx
    refine mj_bipush (v := (-2)) md_M_holder_11 (by decide) ?_
    refine mj_goto (tgt := 22) md_M_holder_13 (by decide) ?_
    exact mj_ireturn md_M_holder_22 rfl rfl H
  · replace H := H2 hx
    refine mj_iload_n 1 md_M_holder_5 rfl ?_
    refine mj_bipush (v := 32) md_M_holder_6 (by decide) ?_
    obtain ⟨H1, H2⟩ := H
    refine mj_icmp_le (tgt := 16) md_M_holder_8 (by decide) (fun hx => ?_) (fun hx => ?_)
    · replace H := H1 hx
      refine mj_aload_n 0 md_M_holder_16 rfl ?_
      obtain ⟨ht1, H⟩ := H
      refine mj_getf (v := va_rf (mj_r μ h0 22)) rfl kc_M 22 (by decide) tw_645 md_M_holder_17 ht1 rfl ?_
      refine mj_iload_n 1 md_M_holder_20 rfl ?_
      obtain ⟨b2, hb3, H⟩ := H
      obtain ⟨ht4, H⟩ := H
      obtain ⟨hi5, H⟩ := H
      refine mj_iald (t := 0) hb3 rfl ht4 hi5 md_M_holder_21 ?_
      exact mj_ireturn md_M_holder_22 rfl rfl H
    · replace H := H2 hx
      refine mj_bipush (v := (-2)) md_M_holder_11 (by decide) ?_
      refine mj_goto (tgt := 22) md_M_holder_13 (by decide) ?_
      exact mj_ireturn md_M_holder_22 rfl rfl H
