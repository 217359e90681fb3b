section LC
variable {G : mj_G} {h m : Nat}
theorem LI.mono {i i' : Nat} {σ : ss_S} {μ : mj_MM} (H : LI i h m σ μ) (hi : i ≤ i') : LI i' h m σ μ := by
  obtain ⟨B, A, h1, h2, h3, h4, h5, h6, h7⟩ := H
  exact ⟨B, A, h1, h2, h3, h4, h5.mono (by omega), by omega, by omega⟩
abbrev lwJ (G : mj_G) (h m pc i : Nat) (st : List Value) (μ : mj_MM) : Prop := mj_J G mY_W_law (fun v _ => v = some (.int 1)) 600000 7302250 pc [(0, va_rf (some (G.2.2.1.2 2).1)), (1, va_rf (some h)), (2, va_rf (some m)), (3, .int (nI i))] st μ
theorem lw_part {i : Nat} {σ : ss_S} {μ : mj_MM} (H : LI i h m σ μ) (hi : i ≤ 3073) (vp1 : vp_in (nI i + 1) (G.2.2.1.2 2).2.1) (vp2 : vp_in (nI i + 2) (G.2.2.1.2 2).2.1) (vp3 : vp_in (nI i + 3) (G.2.2.1.2 2).2.1) (vp4 : vp_in (nI i + 4) (G.2.2.1.2 2).2.1) (vp5 : vp_in (nI i + 5) (G.2.2.1.2 2).2.1) (ih : ∀ σ μ, LI (i + 6) h m σ μ → lwJ G h m 28 (i + 6) [] μ) (hG : gS G) : ∃ (N' S' : Nat) (P : Int32 → mj_MM → Prop), mj_M G my_T_part mY_T_part [va_rf (some h), .int ((G.2.2.1.2 2).2.2 (Int32.toNatClampNeg (nI i + 1))), .int ((G.2.2.1.2 2).2.2 (Int32.toNatClampNeg (nI i + 2))), .long ((Int32.toInt64 ((G.2.2.1.2 2).2.2 (Int32.toNatClampNeg (nI i + 3))) <<< (Int32.toInt64 32 &&& 63)) ||| (Int32.toInt64 ((G.2.2.1.2 2).2.2 (Int32.toNatClampNeg (nI i + 4))) &&& 4294967295))] N' S' μ (mj_XI P) ∧ (N' ≤ 600000 ∧ S' ≤ 7302250) ∧ ∀ (x : Int32) (μ' : mj_MM), P x μ' → mj_nc μ' = N' → mj_ns μ' = S' → lwJ G h m 223 i [.int x] μ' := by
  obtain ⟨N', S', P, c1, c2, c3⟩ := op_part (G := G) H hi hG ((G.2.2.1.2 2).2.2 (Int32.toNatClampNeg (nI i + 1))) ((G.2.2.1.2 2).2.2 (Int32.toNatClampNeg (nI i + 2))) ((Int32.toInt64 ((G.2.2.1.2 2).2.2 (Int32.toNatClampNeg (nI i + 3))) <<< (Int32.toInt64 32 &&& 63)) ||| (Int32.toInt64 ((G.2.2.1.2 2).2.2 (Int32.toNatClampNeg (nI i + 4))) &&& 4294967295))
  refine ⟨N', S', P, c1, c2, fun x μ' p e1 e2 => ?_⟩
  obtain ⟨hx, HM⟩ := c3 x μ' p e1 e2
  refine bk_W_law_223 ⟨vp1, vp2, vp3, vp4, m, rfl, ?_⟩
  obtain ⟨tm, P2, r1, r2⟩ := rp_part (G := G) ((G.2.2.1.2 2).2.2 (Int32.toNatClampNeg (nI i + 1))) ((G.2.2.1.2 2).2.2 (Int32.toNatClampNeg (nI i + 2))) ((Int32.toInt64 ((G.2.2.1.2 2).2.2 (Int32.toNatClampNeg (nI i + 3))) <<< (Int32.toInt64 32 &&& 63)) ||| (Int32.toInt64 ((G.2.2.1.2 2).2.2 (Int32.toNatClampNeg (nI i + 4))) &&& 4294967295)) HM hi
  refine ⟨tm, P2, r1, fun y μ2 p2 f1 f2 => ?_⟩
  obtain ⟨hy, HI⟩ := r2 y μ2 p2 f1 f2
  refine bk_W_law_257 ⟨fun _ => ?_, fun ne => absurd (hx.trans hy.symm) ne⟩
  rw [show nI i + 6 = nI (i + 6) from nI_add i 6]
  exact ih _ _ HI
theorem lw_activate {i : Nat} {σ : ss_S} {μ : mj_MM} (H : LI i h m σ μ) (hi : i ≤ 3073) (vp1 : vp_in (nI i + 1) (G.2.2.1.2 2).2.1) (vp2 : vp_in (nI i + 2) (G.2.2.1.2 2).2.1) (vp3 : vp_in (nI i + 3) (G.2.2.1.2 2).2.1) (vp4 : vp_in (nI i + 4) (G.2.2.1.2 2).2.1) (vp5 : vp_in (nI i + 5) (G.2.2.1.2 2).2.1) (ih : ∀ σ μ, LI (i + 6) h m σ μ → lwJ G h m 28 (i + 6) [] μ) : ∃ (N' S' : Nat) (P : Int32 → mj_MM → Prop), mj_M G my_T_activate mY_T_activate [va_rf (some h), .int ((G.2.2.1.2 2).2.2 (Int32.toNatClampNeg (nI i + 1))), .long ((Int32.toInt64 ((G.2.2.1.2 2).2.2 (Int32.toNatClampNeg (nI i + 2))) <<< (Int32.toInt64 32 &&& 63)) ||| (Int32.toInt64 ((G.2.2.1.2 2).2.2 (Int32.toNatClampNeg (nI i + 3))) &&& 4294967295))] N' S' μ (mj_XI P) ∧ (N' ≤ 600000 ∧ S' ≤ 7302250) ∧ ∀ (x : Int32) (μ' : mj_MM), P x μ' → mj_nc μ' = N' → mj_ns μ' = S' → lwJ G h m 340 i [.int x] μ' := by
  obtain ⟨N', S', P, c1, c2, c3⟩ := op_activate (G := G) H hi ((G.2.2.1.2 2).2.2 (Int32.toNatClampNeg (nI i + 1))) ((Int32.toInt64 ((G.2.2.1.2 2).2.2 (Int32.toNatClampNeg (nI i + 2))) <<< (Int32.toInt64 32 &&& 63)) ||| (Int32.toInt64 ((G.2.2.1.2 2).2.2 (Int32.toNatClampNeg (nI i + 3))) &&& 4294967295))
  refine ⟨N', S', P, c1, c2, fun x μ' p e1 e2 => ?_⟩
  obtain ⟨hx, HM⟩ := c3 x μ' p e1 e2
  refine bk_W_law_340 ⟨vp1, vp2, vp3, m, rfl, ?_⟩
  obtain ⟨tm, P2, r1, r2⟩ := rp_activate (G := G) ((G.2.2.1.2 2).2.2 (Int32.toNatClampNeg (nI i + 1))) ((Int32.toInt64 ((G.2.2.1.2 2).2.2 (Int32.toNatClampNeg (nI i + 2))) <<< (Int32.toInt64 32 &&& 63)) ||| (Int32.toInt64 ((G.2.2.1.2 2).2.2 (Int32.toNatClampNeg (nI i + 3))) &&& 4294967295)) HM hi
  refine ⟨tm, P2, r1, fun y μ2 p2 f1 f2 => ?_⟩
  obtain ⟨hy, HI⟩ := r2 y μ2 p2 f1 f2
  refine bk_W_law_369 ⟨fun _ => ?_, fun ne => absurd (hx.trans hy.symm) ne⟩
  rw [show nI i + 6 = nI (i + 6) from nI_add i 6]
  exact ih _ _ HI
theorem lw_interrupt {i : Nat} {σ : ss_S} {μ : mj_MM} (H : LI i h m σ μ) (hi : i ≤ 3073) (vp1 : vp_in (nI i + 1) (G.2.2.1.2 2).2.1) (vp2 : vp_in (nI i + 2) (G.2.2.1.2 2).2.1) (vp3 : vp_in (nI i + 3) (G.2.2.1.2 2).2.1) (vp4 : vp_in (nI i + 4) (G.2.2.1.2 2).2.1) (vp5 : vp_in (nI i + 5) (G.2.2.1.2 2).2.1) (ih : ∀ σ μ, LI (i + 6) h m σ μ → lwJ G h m 28 (i + 6) [] μ) : ∃ (N' S' : Nat) (P : Int32 → mj_MM → Prop), mj_M G my_T_interrupt mY_T_interrupt [va_rf (some h), .int ((G.2.2.1.2 2).2.2 (Int32.toNatClampNeg (nI i + 1))), .long ((Int32.toInt64 ((G.2.2.1.2 2).2.2 (Int32.toNatClampNeg (nI i + 2))) <<< (Int32.toInt64 32 &&& 63)) ||| (Int32.toInt64 ((G.2.2.1.2 2).2.2 (Int32.toNatClampNeg (nI i + 3))) &&& 4294967295)), .long ((Int32.toInt64 ((G.2.2.1.2 2).2.2 (Int32.toNatClampNeg (nI i + 4))) <<< (Int32.toInt64 32 &&& 63)) ||| (Int32.toInt64 ((G.2.2.1.2 2).2.2 (Int32.toNatClampNeg (nI i + 5))) &&& 4294967295))] N' S' μ (mj_XI P) ∧ (N' ≤ 600000 ∧ S' ≤ 7302250) ∧ ∀ (x : Int32) (μ' : mj_MM), P x μ' → mj_nc μ' = N' → mj_ns μ' = S' → lwJ G h m 423 i [.int x] μ' := by
  obtain ⟨N', S', P, c1, c2, c3⟩ := op_interrupt (G := G) H hi ((G.2.2.1.2 2).2.2 (Int32.toNatClampNeg (nI i + 1))) ((Int32.toInt64 ((G.2.2.1.2 2).2.2 (Int32.toNatClampNeg (nI i + 2))) <<< (Int32.toInt64 32 &&& 63)) ||| (Int32.toInt64 ((G.2.2.1.2 2).2.2 (Int32.toNatClampNeg (nI i + 3))) &&& 4294967295)) ((Int32.toInt64 ((G.2.2.1.2 2).2.2 (Int32.toNatClampNeg (nI i + 4))) <<< (Int32.toInt64 32 &&& 63)) ||| (Int32.toInt64 ((G.2.2.1.2 2).2.2 (Int32.toNatClampNeg (nI i + 5))) &&& 4294967295))
  refine ⟨N', S', P, c1, c2, fun x μ' p e1 e2 => ?_⟩
  obtain ⟨hx, HM⟩ := c3 x μ' p e1 e2
  refine bk_W_law_423 ⟨vp1, vp2, vp3, vp4, vp5, m, rfl, ?_⟩
  obtain ⟨tm, P2, r1, r2⟩ := rp_interrupt (G := G) ((G.2.2.1.2 2).2.2 (Int32.toNatClampNeg (nI i + 1))) ((Int32.toInt64 ((G.2.2.1.2 2).2.2 (Int32.toNatClampNeg (nI i + 2))) <<< (Int32.toInt64 32 &&& 63)) ||| (Int32.toInt64 ((G.2.2.1.2 2).2.2 (Int32.toNatClampNeg (nI i + 3))) &&& 4294967295)) ((Int32.toInt64 ((G.2.2.1.2 2).2.2 (Int32.toNatClampNeg (nI i + 4))) <<< (Int32.toInt64 32 &&& 63)) ||| (Int32.toInt64 ((G.2.2.1.2 2).2.2 (Int32.toNatClampNeg (nI i + 5))) &&& 4294967295)) HM hi
  refine ⟨tm, P2, r1, fun y μ2 p2 f1 f2 => ?_⟩
  obtain ⟨hy, HI⟩ := r2 y μ2 p2 f1 f2
  refine bk_W_law_472 ⟨fun _ => ?_, fun ne => absurd (hx.trans hy.symm) ne⟩
  rw [show nI i + 6 = nI (i + 6) from nI_add i 6]
  exact ih _ _ HI
theorem lw_run {i : Nat} {σ : ss_S} {μ : mj_MM} (H : LI i h m σ μ) (hi : i ≤ 3073) (vp1 : vp_in (nI i + 1) (G.2.2.1.2 2).2.1) (vp2 : vp_in (nI i + 2) (G.2.2.1.2 2).2.1) (vp3 : vp_in (nI i + 3) (G.2.2.1.2 2).2.1) (vp4 : vp_in (nI i + 4) (G.2.2.1.2 2).2.1) (vp5 : vp_in (nI i + 5) (G.2.2.1.2 2).2.1) (ih : ∀ σ μ, LI (i + 6) h m σ μ → lwJ G h m 28 (i + 6) [] μ) : ∃ (N' S' : Nat) (P : Int32 → mj_MM → Prop), mj_M G my_T_run mY_T_run [va_rf (some h), .long ((Int32.toInt64 ((G.2.2.1.2 2).2.2 (Int32.toNatClampNeg (nI i + 1))) <<< (Int32.toInt64 32 &&& 63)) ||| (Int32.toInt64 ((G.2.2.1.2 2).2.2 (Int32.toNatClampNeg (nI i + 2))) &&& 4294967295))] N' S' μ (mj_XI P) ∧ (N' ≤ 600000 ∧ S' ≤ 7302250) ∧ ∀ (x : Int32) (μ' : mj_MM), P x μ' → mj_nc μ' = N' → mj_ns μ' = S' → lwJ G h m 501 i [.int x] μ' := by
  obtain ⟨N', S', P, c1, c2, c3⟩ := op_run (G := G) H hi ((Int32.toInt64 ((G.2.2.1.2 2).2.2 (Int32.toNatClampNeg (nI i + 1))) <<< (Int32.toInt64 32 &&& 63)) ||| (Int32.toInt64 ((G.2.2.1.2 2).2.2 (Int32.toNatClampNeg (nI i + 2))) &&& 4294967295))
  refine ⟨N', S', P, c1, c2, fun x μ' p e1 e2 => ?_⟩
  obtain ⟨hx, HM⟩ := c3 x μ' p e1 e2
  refine bk_W_law_501 ⟨vp1, vp2, m, rfl, ?_⟩
  obtain ⟨tm, P2, r1, r2⟩ := rp_run (G := G) ((Int32.toInt64 ((G.2.2.1.2 2).2.2 (Int32.toNatClampNeg (nI i + 1))) <<< (Int32.toInt64 32 &&& 63)) ||| (Int32.toInt64 ((G.2.2.1.2 2).2.2 (Int32.toNatClampNeg (nI i + 2))) &&& 4294967295)) HM hi
  refine ⟨tm, P2, r1, fun y μ2 p2 f1 f2 => ?_⟩
  obtain ⟨hy, HI⟩ := r2 y μ2 p2 f1 f2
  refine bk_W_law_525 ⟨fun _ => ?_, fun ne => absurd (hx.trans hy.symm) ne⟩
  rw [show nI i + 6 = nI (i + 6) from nI_add i 6]
  exact ih _ _ HI
theorem lw_now {i : Nat} {σ : ss_S} {μ : mj_MM} (H : LI i h m σ μ) (hi : i ≤ 3073) (vp1 : vp_in (nI i + 1) (G.2.2.1.2 2).2.1) (vp2 : vp_in (nI i + 2) (G.2.2.1.2 2).2.1) (vp3 : vp_in (nI i + 3) (G.2.2.1.2 2).2.1) (vp4 : vp_in (nI i + 4) (G.2.2.1.2 2).2.1) (vp5 : vp_in (nI i + 5) (G.2.2.1.2 2).2.1) (ih : ∀ σ μ, LI (i + 6) h m σ μ → lwJ G h m 28 (i + 6) [] μ) : ∃ P : Int64 → mj_MM → Prop, mj_M G my_T_now mY_T_now [va_rf (some h)] (mj_nc μ) (mj_ns μ) μ (mj_XL P) ∧ ∀ (x : Int64) (μ' : mj_MM), P x μ' → mj_nc μ' = mj_nc μ → mj_ns μ' = mj_ns μ → lwJ G h m 534 i [.long x] μ' := by
  obtain ⟨P, c1, c3⟩ := op_now (G := G) H 
  refine ⟨P, c1, fun x μ' p e1 e2 => ?_⟩
  obtain ⟨hx, HM⟩ := c3 x μ' p e1 e2
  refine bk_W_law_534 ⟨m, rfl, ?_⟩
  obtain ⟨tm, P2, r1, r2⟩ := rp_now (G := G)  HM hi
  refine ⟨tm, P2, r1, fun y μ2 p2 f1 f2 => ?_⟩
  obtain ⟨hy, HI⟩ := r2 y μ2 p2 f1 f2
  refine bk_W_law_538 ⟨fun _ => ?_, fun ne => absurd (hx.trans hy.symm) ne⟩
  rw [show nI i + 6 = nI (i + 6) from nI_add i 6]
  exact ih _ _ HI
theorem lw_running {i : Nat} {σ : ss_S} {μ : mj_MM} (H : LI i h m σ μ) (hi : i ≤ 3073) (vp1 : vp_in (nI i + 1) (G.2.2.1.2 2).2.1) (vp2 : vp_in (nI i + 2) (G.2.2.1.2 2).2.1) (vp3 : vp_in (nI i + 3) (G.2.2.1.2 2).2.1) (vp4 : vp_in (nI i + 4) (G.2.2.1.2 2).2.1) (vp5 : vp_in (nI i + 5) (G.2.2.1.2 2).2.1) (ih : ∀ σ μ, LI (i + 6) h m σ μ → lwJ G h m 28 (i + 6) [] μ) : ∃ P : Int32 → mj_MM → Prop, mj_M G my_T_running mY_T_running [va_rf (some h), .int ((G.2.2.1.2 2).2.2 (Int32.toNatClampNeg (nI i + 1))), .long ((Int32.toInt64 ((G.2.2.1.2 2).2.2 (Int32.toNatClampNeg (nI i + 2))) <<< (Int32.toInt64 32 &&& 63)) ||| (Int32.toInt64 ((G.2.2.1.2 2).2.2 (Int32.toNatClampNeg (nI i + 3))) &&& 4294967295))] (mj_nc μ) (mj_ns μ) μ (mj_XI P) ∧ ∀ (x : Int32) (μ' : mj_MM), P x μ' → mj_nc μ' = mj_nc μ → mj_ns μ' = mj_ns μ → lwJ G h m 573 i [.int x] μ' := by
  obtain ⟨P, c1, c3⟩ := op_running (G := G) H ((G.2.2.1.2 2).2.2 (Int32.toNatClampNeg (nI i + 1))) ((Int32.toInt64 ((G.2.2.1.2 2).2.2 (Int32.toNatClampNeg (nI i + 2))) <<< (Int32.toInt64 32 &&& 63)) ||| (Int32.toInt64 ((G.2.2.1.2 2).2.2 (Int32.toNatClampNeg (nI i + 3))) &&& 4294967295))
  refine ⟨P, c1, fun x μ' p e1 e2 => ?_⟩
  obtain ⟨hx, HM⟩ := c3 x μ' p e1 e2
  refine bk_W_law_573 ⟨vp1, vp2, vp3, m, rfl, ?_⟩
  obtain ⟨tm, P2, r1, r2⟩ := rp_running (G := G) ((G.2.2.1.2 2).2.2 (Int32.toNatClampNeg (nI i + 1))) ((Int32.toInt64 ((G.2.2.1.2 2).2.2 (Int32.toNatClampNeg (nI i + 2))) <<< (Int32.toInt64 32 &&& 63)) ||| (Int32.toInt64 ((G.2.2.1.2 2).2.2 (Int32.toNatClampNeg (nI i + 3))) &&& 4294967295)) HM hi
  refine ⟨tm, P2, r1, fun y μ2 p2 f1 f2 => ?_⟩
  obtain ⟨hy, HI⟩ := r2 y μ2 p2 f1 f2
  refine bk_W_law_602 ⟨fun _ => ?_, fun ne => absurd (hx.trans hy.symm) ne⟩
  rw [show nI i + 6 = nI (i + 6) from nI_add i 6]
  exact ih _ _ HI
theorem lw_used {i : Nat} {σ : ss_S} {μ : mj_MM} (H : LI i h m σ μ) (hi : i ≤ 3073) (vp1 : vp_in (nI i + 1) (G.2.2.1.2 2).2.1) (vp2 : vp_in (nI i + 2) (G.2.2.1.2 2).2.1) (vp3 : vp_in (nI i + 3) (G.2.2.1.2 2).2.1) (vp4 : vp_in (nI i + 4) (G.2.2.1.2 2).2.1) (vp5 : vp_in (nI i + 5) (G.2.2.1.2 2).2.1) (ih : ∀ σ μ, LI (i + 6) h m σ μ → lwJ G h m 28 (i + 6) [] μ) : ∃ P : Int64 → mj_MM → Prop, mj_M G my_T_used mY_T_used [va_rf (some h), .int ((G.2.2.1.2 2).2.2 (Int32.toNatClampNeg (nI i + 1)))] (mj_nc μ) (mj_ns μ) μ (mj_XL P) ∧ ∀ (x : Int64) (μ' : mj_MM), P x μ' → mj_nc μ' = mj_nc μ → mj_ns μ' = mj_ns μ → lwJ G h m 616 i [.long x] μ' := by
  obtain ⟨P, c1, c3⟩ := op_used (G := G) H ((G.2.2.1.2 2).2.2 (Int32.toNatClampNeg (nI i + 1)))
  refine ⟨P, c1, fun x μ' p e1 e2 => ?_⟩
  obtain ⟨hx, HM⟩ := c3 x μ' p e1 e2
  refine bk_W_law_616 ⟨vp1, m, rfl, ?_⟩
  obtain ⟨tm, P2, r1, r2⟩ := rp_used (G := G) ((G.2.2.1.2 2).2.2 (Int32.toNatClampNeg (nI i + 1))) HM hi
  refine ⟨tm, P2, r1, fun y μ2 p2 f1 f2 => ?_⟩
  obtain ⟨hy, HI⟩ := r2 y μ2 p2 f1 f2
  refine bk_W_law_625 ⟨fun _ => ?_, fun ne => absurd (hx.trans hy.symm) ne⟩
  rw [show nI i + 6 = nI (i + 6) from nI_add i 6]
  exact ih _ _ HI
theorem lw_state {i : Nat} {σ : ss_S} {μ : mj_MM} (H : LI i h m σ μ) (hi : i ≤ 3073) (vp1 : vp_in (nI i + 1) (G.2.2.1.2 2).2.1) (vp2 : vp_in (nI i + 2) (G.2.2.1.2 2).2.1) (vp3 : vp_in (nI i + 3) (G.2.2.1.2 2).2.1) (vp4 : vp_in (nI i + 4) (G.2.2.1.2 2).2.1) (vp5 : vp_in (nI i + 5) (G.2.2.1.2 2).2.1) (ih : ∀ σ μ, LI (i + 6) h m σ μ → lwJ G h m 28 (i + 6) [] μ) : ∃ P : Int32 → mj_MM → Prop, mj_M G my_T_state mY_T_state [va_rf (some h), .int ((G.2.2.1.2 2).2.2 (Int32.toNatClampNeg (nI i + 1)))] (mj_nc μ) (mj_ns μ) μ (mj_XI P) ∧ ∀ (x : Int32) (μ' : mj_MM), P x μ' → mj_nc μ' = mj_nc μ → mj_ns μ' = mj_ns μ → lwJ G h m 640 i [.int x] μ' := by
  obtain ⟨P, c1, c3⟩ := op_state (G := G) H ((G.2.2.1.2 2).2.2 (Int32.toNatClampNeg (nI i + 1)))
  refine ⟨P, c1, fun x μ' p e1 e2 => ?_⟩
  obtain ⟨hx, HM⟩ := c3 x μ' p e1 e2
  refine bk_W_law_640 ⟨vp1, m, rfl, ?_⟩
  obtain ⟨tm, P2, r1, r2⟩ := rp_state (G := G) ((G.2.2.1.2 2).2.2 (Int32.toNatClampNeg (nI i + 1))) HM hi
  refine ⟨tm, P2, r1, fun y μ2 p2 f1 f2 => ?_⟩
  obtain ⟨hy, HI⟩ := r2 y μ2 p2 f1 f2
  refine bk_W_law_649 ⟨fun _ => ?_, fun ne => absurd (hx.trans hy.symm) ne⟩
  rw [show nI i + 6 = nI (i + 6) from nI_add i 6]
  exact ih _ _ HI
theorem lw_event {i : Nat} {σ : ss_S} {μ : mj_MM} (H : LI i h m σ μ) (hi : i ≤ 3073) (vp1 : vp_in (nI i + 1) (G.2.2.1.2 2).2.1) (vp2 : vp_in (nI i + 2) (G.2.2.1.2 2).2.1) (vp3 : vp_in (nI i + 3) (G.2.2.1.2 2).2.1) (vp4 : vp_in (nI i + 4) (G.2.2.1.2 2).2.1) (vp5 : vp_in (nI i + 5) (G.2.2.1.2 2).2.1) (ih : ∀ σ μ, LI (i + 6) h m σ μ → lwJ G h m 28 (i + 6) [] μ) : ∃ P : Int32 → mj_MM → Prop, mj_M G my_T_event mY_T_event [va_rf (some h), .int ((G.2.2.1.2 2).2.2 (Int32.toNatClampNeg (nI i + 1))), .int ((G.2.2.1.2 2).2.2 (Int32.toNatClampNeg (nI i + 2)))] (mj_nc μ) (mj_ns μ) μ (mj_XI P) ∧ ∀ (x : Int32) (μ' : mj_MM), P x μ' → mj_nc μ' = mj_nc μ → mj_ns μ' = mj_ns μ → lwJ G h m 668 i [.int x] μ' := by
  obtain ⟨P, c1, c3⟩ := op_event (G := G) H hi ((G.2.2.1.2 2).2.2 (Int32.toNatClampNeg (nI i + 1))) ((G.2.2.1.2 2).2.2 (Int32.toNatClampNeg (nI i + 2)))
  refine ⟨P, c1, fun x μ' p e1 e2 => ?_⟩
  obtain ⟨hx, HM⟩ := c3 x μ' p e1 e2
  refine bk_W_law_668 ⟨vp1, vp2, m, rfl, ?_⟩
  obtain ⟨tm, P2, r1, r2⟩ := rp_event (G := G) ((G.2.2.1.2 2).2.2 (Int32.toNatClampNeg (nI i + 1))) ((G.2.2.1.2 2).2.2 (Int32.toNatClampNeg (nI i + 2))) HM hi
  refine ⟨tm, P2, r1, fun y μ2 p2 f1 f2 => ?_⟩
  obtain ⟨hy, HI⟩ := r2 y μ2 p2 f1 f2
  refine bk_W_law_682 ⟨fun _ => ?_, fun ne => absurd (hx.trans hy.symm) ne⟩
  rw [show nI i + 6 = nI (i + 6) from nI_add i 6]
  exact ih _ _ HI
theorem lw_events {i : Nat} {σ : ss_S} {μ : mj_MM} (H : LI i h m σ μ) (hi : i ≤ 3073) (vp1 : vp_in (nI i + 1) (G.2.2.1.2 2).2.1) (vp2 : vp_in (nI i + 2) (G.2.2.1.2 2).2.1) (vp3 : vp_in (nI i + 3) (G.2.2.1.2 2).2.1) (vp4 : vp_in (nI i + 4) (G.2.2.1.2 2).2.1) (vp5 : vp_in (nI i + 5) (G.2.2.1.2 2).2.1) (ih : ∀ σ μ, LI (i + 6) h m σ μ → lwJ G h m 28 (i + 6) [] μ) : ∃ P : Int32 → mj_MM → Prop, mj_M G my_T_events mY_T_events [va_rf (some h), .int ((G.2.2.1.2 2).2.2 (Int32.toNatClampNeg (nI i + 1)))] (mj_nc μ) (mj_ns μ) μ (mj_XI P) ∧ ∀ (x : Int32) (μ' : mj_MM), P x μ' → mj_nc μ' = mj_nc μ → mj_ns μ' = mj_ns μ → lwJ G h m 696 i [.int x] μ' := by
  obtain ⟨P, c1, c3⟩ := op_events (G := G) H ((G.2.2.1.2 2).2.2 (Int32.toNatClampNeg (nI i + 1)))
  refine ⟨P, c1, fun x μ' p e1 e2 => ?_⟩
  obtain ⟨hx, HM⟩ := c3 x μ' p e1 e2
  refine bk_W_law_696 ⟨vp1, m, rfl, ?_⟩
  obtain ⟨tm, P2, r1, r2⟩ := rp_events (G := G) ((G.2.2.1.2 2).2.2 (Int32.toNatClampNeg (nI i + 1))) HM hi
  refine ⟨tm, P2, r1, fun y μ2 p2 f1 f2 => ?_⟩
  obtain ⟨hy, HI⟩ := r2 y μ2 p2 f1 f2
  refine bk_W_law_705 ⟨fun _ => ?_, fun ne => absurd (hx.trans hy.symm) ne⟩
  rw [show nI i + 6 = nI (i + 6) from nI_add i 6]
  exact ih _ _ HI
theorem lw_code {i : Nat} {σ : ss_S} {μ : mj_MM} (H : LI i h m σ μ) (hi : i ≤ 3073) (vp1 : vp_in (nI i + 1) (G.2.2.1.2 2).2.1) (vp2 : vp_in (nI i + 2) (G.2.2.1.2 2).2.1) (vp3 : vp_in (nI i + 3) (G.2.2.1.2 2).2.1) (vp4 : vp_in (nI i + 4) (G.2.2.1.2 2).2.1) (vp5 : vp_in (nI i + 5) (G.2.2.1.2 2).2.1) (ih : ∀ σ μ, LI (i + 6) h m σ μ → lwJ G h m 28 (i + 6) [] μ) : ∃ P : Int32 → mj_MM → Prop, mj_M G my_T_code mY_T_code [va_rf (some h), .int ((G.2.2.1.2 2).2.2 (Int32.toNatClampNeg (nI i + 1))), .int ((G.2.2.1.2 2).2.2 (Int32.toNatClampNeg (nI i + 2)))] (mj_nc μ) (mj_ns μ) μ (mj_XI P) ∧ ∀ (x : Int32) (μ' : mj_MM), P x μ' → mj_nc μ' = mj_nc μ → mj_ns μ' = mj_ns μ → lwJ G h m 724 i [.int x] μ' := by
  obtain ⟨P, c1, c3⟩ := op_code (G := G) H ((G.2.2.1.2 2).2.2 (Int32.toNatClampNeg (nI i + 1))) ((G.2.2.1.2 2).2.2 (Int32.toNatClampNeg (nI i + 2)))
  refine ⟨P, c1, fun x μ' p e1 e2 => ?_⟩
  obtain ⟨hx, HM⟩ := c3 x μ' p e1 e2
  refine bk_W_law_724 ⟨vp1, vp2, m, rfl, ?_⟩
  obtain ⟨tm, P2, r1, r2⟩ := rp_code (G := G) ((G.2.2.1.2 2).2.2 (Int32.toNatClampNeg (nI i + 1))) ((G.2.2.1.2 2).2.2 (Int32.toNatClampNeg (nI i + 2))) HM hi
  refine ⟨tm, P2, r1, fun y μ2 p2 f1 f2 => ?_⟩
  obtain ⟨hy, HI⟩ := r2 y μ2 p2 f1 f2
  refine bk_W_law_738 ⟨fun _ => ?_, fun ne => absurd (hx.trans hy.symm) ne⟩
  rw [show nI i + 6 = nI (i + 6) from nI_add i 6]
  exact ih _ _ HI
theorem lw_order {i : Nat} {σ : ss_S} {μ : mj_MM} (H : LI i h m σ μ) (hi : i ≤ 3073) (vp1 : vp_in (nI i + 1) (G.2.2.1.2 2).2.1) (vp2 : vp_in (nI i + 2) (G.2.2.1.2 2).2.1) (vp3 : vp_in (nI i + 3) (G.2.2.1.2 2).2.1) (vp4 : vp_in (nI i + 4) (G.2.2.1.2 2).2.1) (vp5 : vp_in (nI i + 5) (G.2.2.1.2 2).2.1) (ih : ∀ σ μ, LI (i + 6) h m σ μ → lwJ G h m 28 (i + 6) [] μ) : ∃ P : Int32 → mj_MM → Prop, mj_M G my_T_order mY_T_order [va_rf (some h), .int ((G.2.2.1.2 2).2.2 (Int32.toNatClampNeg (nI i + 1))), .int ((G.2.2.1.2 2).2.2 (Int32.toNatClampNeg (nI i + 2)))] (mj_nc μ) (mj_ns μ) μ (mj_XI P) ∧ ∀ (x : Int32) (μ' : mj_MM), P x μ' → mj_nc μ' = mj_nc μ → mj_ns μ' = mj_ns μ → lwJ G h m 757 i [.int x] μ' := by
  obtain ⟨P, c1, c3⟩ := op_order (G := G) H ((G.2.2.1.2 2).2.2 (Int32.toNatClampNeg (nI i + 1))) ((G.2.2.1.2 2).2.2 (Int32.toNatClampNeg (nI i + 2)))
  refine ⟨P, c1, fun x μ' p e1 e2 => ?_⟩
  obtain ⟨hx, HM⟩ := c3 x μ' p e1 e2
  refine bk_W_law_757 ⟨vp1, vp2, m, rfl, ?_⟩
  obtain ⟨tm, P2, r1, r2⟩ := rp_order (G := G) ((G.2.2.1.2 2).2.2 (Int32.toNatClampNeg (nI i + 1))) ((G.2.2.1.2 2).2.2 (Int32.toNatClampNeg (nI i + 2))) HM hi
  refine ⟨tm, P2, r1, fun y μ2 p2 f1 f2 => ?_⟩
  obtain ⟨hy, HI⟩ := r2 y μ2 p2 f1 f2
  refine bk_W_law_771 ⟨fun _ => ?_, fun ne => absurd (hx.trans hy.symm) ne⟩
  rw [show nI i + 6 = nI (i + 6) from nI_add i 6]
  exact ih _ _ HI
theorem lw_spin {i : Nat} {σ : ss_S} {μ : mj_MM} (H : LI i h m σ μ) (hi : i ≤ 3073) (vp1 : vp_in (nI i + 1) (G.2.2.1.2 2).2.1) (vp2 : vp_in (nI i + 2) (G.2.2.1.2 2).2.1) (vp3 : vp_in (nI i + 3) (G.2.2.1.2 2).2.1) (vp4 : vp_in (nI i + 4) (G.2.2.1.2 2).2.1) (vp5 : vp_in (nI i + 5) (G.2.2.1.2 2).2.1) (ih : ∀ σ μ, LI (i + 6) h m σ μ → lwJ G h m 28 (i + 6) [] μ) : ∃ P : Int32 → mj_MM → Prop, mj_M G my_T_spin mY_T_spin [va_rf (some h), .int ((G.2.2.1.2 2).2.2 (Int32.toNatClampNeg (nI i + 1))), .int ((G.2.2.1.2 2).2.2 (Int32.toNatClampNeg (nI i + 2)))] (mj_nc μ) (mj_ns μ) μ (mj_XI P) ∧ ∀ (x : Int32) (μ' : mj_MM), P x μ' → mj_nc μ' = mj_nc μ → mj_ns μ' = mj_ns μ → lwJ G h m 790 i [.int x] μ' := by
  obtain ⟨P, c1, c3⟩ := op_spin (G := G) H ((G.2.2.1.2 2).2.2 (Int32.toNatClampNeg (nI i + 1))) ((G.2.2.1.2 2).2.2 (Int32.toNatClampNeg (nI i + 2)))
  refine ⟨P, c1, fun x μ' p e1 e2 => ?_⟩
  obtain ⟨hx, HM⟩ := c3 x μ' p e1 e2
  refine bk_W_law_790 ⟨vp1, vp2, m, rfl, ?_⟩
  obtain ⟨tm, P2, r1, r2⟩ := rp_spin (G := G) ((G.2.2.1.2 2).2.2 (Int32.toNatClampNeg (nI i + 1))) ((G.2.2.1.2 2).2.2 (Int32.toNatClampNeg (nI i + 2))) HM hi
  refine ⟨tm, P2, r1, fun y μ2 p2 f1 f2 => ?_⟩
  obtain ⟨hy, HI⟩ := r2 y μ2 p2 f1 f2
  refine bk_W_law_804 ⟨fun _ => ?_, fun ne => absurd (hx.trans hy.symm) ne⟩
  rw [show nI i + 6 = nI (i + 6) from nI_add i 6]
  exact ih _ _ HI
theorem lw_holder {i : Nat} {σ : ss_S} {μ : mj_MM} (H : LI i h m σ μ) (hi : i ≤ 3073) (vp1 : vp_in (nI i + 1) (G.2.2.1.2 2).2.1) (vp2 : vp_in (nI i + 2) (G.2.2.1.2 2).2.1) (vp3 : vp_in (nI i + 3) (G.2.2.1.2 2).2.1) (vp4 : vp_in (nI i + 4) (G.2.2.1.2 2).2.1) (vp5 : vp_in (nI i + 5) (G.2.2.1.2 2).2.1) (ih : ∀ σ μ, LI (i + 6) h m σ μ → lwJ G h m 28 (i + 6) [] μ) : ∃ P : Int32 → mj_MM → Prop, mj_M G my_T_holder mY_T_holder [va_rf (some h), .int ((G.2.2.1.2 2).2.2 (Int32.toNatClampNeg (nI i + 1)))] (mj_nc μ) (mj_ns μ) μ (mj_XI P) ∧ ∀ (x : Int32) (μ' : mj_MM), P x μ' → mj_nc μ' = mj_nc μ → mj_ns μ' = mj_ns μ → lwJ G h m 818 i [.int x] μ' := by
  obtain ⟨P, c1, c3⟩ := op_holder (G := G) H ((G.2.2.1.2 2).2.2 (Int32.toNatClampNeg (nI i + 1)))
  refine ⟨P, c1, fun x μ' p e1 e2 => ?_⟩
  obtain ⟨hx, HM⟩ := c3 x μ' p e1 e2
  refine bk_W_law_818 ⟨vp1, m, rfl, ?_⟩
  obtain ⟨tm, P2, r1, r2⟩ := rp_holder (G := G) ((G.2.2.1.2 2).2.2 (Int32.toNatClampNeg (nI i + 1))) HM hi
  refine ⟨tm, P2, r1, fun y μ2 p2 f1 f2 => ?_⟩
  obtain ⟨hy, HI⟩ := r2 y μ2 p2 f1 f2
  refine bk_W_law_827 ⟨fun _ => ?_, fun ne => absurd (hx.trans hy.symm) ne⟩
  rw [show nI i + 6 = nI (i + 6) from nI_add i 6]
  exact ih _ _ HI
theorem lw_task0 {i : Nat} {σ : ss_S} {μ : mj_MM} (H : LI i h m σ μ) (hi : i ≤ 3073) (vp1 : vp_in (nI i + 1) (G.2.2.1.2 2).2.1) (vp2 : vp_in (nI i + 2) (G.2.2.1.2 2).2.1) (vp3 : vp_in (nI i + 3) (G.2.2.1.2 2).2.1) (vp4 : vp_in (nI i + 4) (G.2.2.1.2 2).2.1) (vp5 : vp_in (nI i + 5) (G.2.2.1.2 2).2.1) (ih : ∀ σ μ, LI (i + 6) h m σ μ → lwJ G h m 28 (i + 6) [] μ) (hz : ((G.2.2.1.2 2).2.2 (Int32.toNatClampNeg (nI i + 4))) = 0) : ∃ (N' S' : Nat) (P : Int32 → mj_MM → Prop), mj_M G my_T_task mY_T_task [va_rf (some h), .int ((G.2.2.1.2 2).2.2 (Int32.toNatClampNeg (nI i + 1))), .int ((G.2.2.1.2 2).2.2 (Int32.toNatClampNeg (nI i + 2))), .int ((G.2.2.1.2 2).2.2 (Int32.toNatClampNeg (nI i + 3))), .int 0] N' S' μ (mj_XI P) ∧ (N' ≤ 600000 ∧ S' ≤ 7302250) ∧ ∀ (x : Int32) (μ' : mj_MM), P x μ' → mj_nc μ' = N' → mj_ns μ' = S' → lwJ G h m 152 i [.int x] μ' := by
  obtain ⟨N', S', P, c1, c2, c3⟩ := op_task (G := G) H hi ((G.2.2.1.2 2).2.2 (Int32.toNatClampNeg (nI i + 1))) ((G.2.2.1.2 2).2.2 (Int32.toNatClampNeg (nI i + 2))) ((G.2.2.1.2 2).2.2 (Int32.toNatClampNeg (nI i + 3))) 0 (by decide)
  refine ⟨N', S', P, c1, c2, fun x μ' p e1 e2 => ?_⟩
  obtain ⟨hx, HM⟩ := c3 x μ' p e1 e2
  refine bk_W_law_152 ⟨vp1, vp2, vp3, vp4, ⟨fun _ => ⟨m, rfl, ?_⟩, fun z => absurd hz z⟩⟩
  obtain ⟨tm, P2, r1, r2⟩ := rp_task (G := G) ((G.2.2.1.2 2).2.2 (Int32.toNatClampNeg (nI i + 1))) ((G.2.2.1.2 2).2.2 (Int32.toNatClampNeg (nI i + 2))) ((G.2.2.1.2 2).2.2 (Int32.toNatClampNeg (nI i + 3))) 0 (by decide) HM hi
  refine ⟨tm, P2, r1, fun y μ2 p2 f1 f2 => ?_⟩
  obtain ⟨hy, HI⟩ := r2 y μ2 p2 f1 f2
  refine bk_W_law_184 ⟨fun _ => ?_, fun ne => absurd (hx.trans hy.symm) ne⟩
  rw [show nI i + 6 = nI (i + 6) from nI_add i 6]
  exact ih _ _ HI
theorem lw_manner0 {i : Nat} {σ : ss_S} {μ : mj_MM} (H : LI i h m σ μ) (hi : i ≤ 3073) (vp1 : vp_in (nI i + 1) (G.2.2.1.2 2).2.1) (vp2 : vp_in (nI i + 2) (G.2.2.1.2 2).2.1) (vp3 : vp_in (nI i + 3) (G.2.2.1.2 2).2.1) (vp4 : vp_in (nI i + 4) (G.2.2.1.2 2).2.1) (vp5 : vp_in (nI i + 5) (G.2.2.1.2 2).2.1) (ih : ∀ σ μ, LI (i + 6) h m σ μ → lwJ G h m 28 (i + 6) [] μ) (hz : ((G.2.2.1.2 2).2.2 (Int32.toNatClampNeg (nI i + 2))) = 0) : ∃ P : Int32 → mj_MM → Prop, mj_M G my_T_manner mY_T_manner [va_rf (some h), .int ((G.2.2.1.2 2).2.2 (Int32.toNatClampNeg (nI i + 1))), .int 0] (mj_nc μ) (mj_ns μ) μ (mj_XI P) ∧ ∀ (x : Int32) (μ' : mj_MM), P x μ' → mj_nc μ' = mj_nc μ → mj_ns μ' = mj_ns μ → lwJ G h m 284 i [.int x] μ' := by
  obtain ⟨P, c1, c3⟩ := op_manner (G := G) H hi ((G.2.2.1.2 2).2.2 (Int32.toNatClampNeg (nI i + 1))) 0 (by decide)
  refine ⟨P, c1, fun x μ' p e1 e2 => ?_⟩
  obtain ⟨hx, HM⟩ := c3 x μ' p e1 e2
  refine bk_W_law_284 ⟨vp1, vp2, ⟨fun _ => ⟨m, rfl, ?_⟩, fun z => absurd hz z⟩⟩
  obtain ⟨tm, P2, r1, r2⟩ := rp_manner (G := G) ((G.2.2.1.2 2).2.2 (Int32.toNatClampNeg (nI i + 1))) 0 (by decide) HM hi
  refine ⟨tm, P2, r1, fun y μ2 p2 f1 f2 => ?_⟩
  obtain ⟨hy, HI⟩ := r2 y μ2 p2 f1 f2
  refine bk_W_law_306 ⟨fun _ => ?_, fun ne => absurd (hx.trans hy.symm) ne⟩
  rw [show nI i + 6 = nI (i + 6) from nI_add i 6]
  exact ih _ _ HI
theorem lw_task1 {i : Nat} {σ : ss_S} {μ : mj_MM} (H : LI i h m σ μ) (hi : i ≤ 3073) (vp1 : vp_in (nI i + 1) (G.2.2.1.2 2).2.1) (vp2 : vp_in (nI i + 2) (G.2.2.1.2 2).2.1) (vp3 : vp_in (nI i + 3) (G.2.2.1.2 2).2.1) (vp4 : vp_in (nI i + 4) (G.2.2.1.2 2).2.1) (vp5 : vp_in (nI i + 5) (G.2.2.1.2 2).2.1) (ih : ∀ σ μ, LI (i + 6) h m σ μ → lwJ G h m 28 (i + 6) [] μ) (hz : ¬ ((G.2.2.1.2 2).2.2 (Int32.toNatClampNeg (nI i + 4))) = 0) : ∃ (N' S' : Nat) (P : Int32 → mj_MM → Prop), mj_M G my_T_task mY_T_task [va_rf (some h), .int ((G.2.2.1.2 2).2.2 (Int32.toNatClampNeg (nI i + 1))), .int ((G.2.2.1.2 2).2.2 (Int32.toNatClampNeg (nI i + 2))), .int ((G.2.2.1.2 2).2.2 (Int32.toNatClampNeg (nI i + 3))), .int 1] N' S' μ (mj_XI P) ∧ (N' ≤ 600000 ∧ S' ≤ 7302250) ∧ ∀ (x : Int32) (μ' : mj_MM), P x μ' → mj_nc μ' = N' → mj_ns μ' = S' → lwJ G h m 152 i [.int x] μ' := by
  obtain ⟨N', S', P, c1, c2, c3⟩ := op_task (G := G) H hi ((G.2.2.1.2 2).2.2 (Int32.toNatClampNeg (nI i + 1))) ((G.2.2.1.2 2).2.2 (Int32.toNatClampNeg (nI i + 2))) ((G.2.2.1.2 2).2.2 (Int32.toNatClampNeg (nI i + 3))) 1 (by decide)
  refine ⟨N', S', P, c1, c2, fun x μ' p e1 e2 => ?_⟩
  obtain ⟨hx, HM⟩ := c3 x μ' p e1 e2
  refine bk_W_law_152 ⟨vp1, vp2, vp3, vp4, ⟨fun z => absurd z hz, fun _ => ⟨m, rfl, ?_⟩⟩⟩
  obtain ⟨tm, P2, r1, r2⟩ := rp_task (G := G) ((G.2.2.1.2 2).2.2 (Int32.toNatClampNeg (nI i + 1))) ((G.2.2.1.2 2).2.2 (Int32.toNatClampNeg (nI i + 2))) ((G.2.2.1.2 2).2.2 (Int32.toNatClampNeg (nI i + 3))) 1 (by decide) HM hi
  refine ⟨tm, P2, r1, fun y μ2 p2 f1 f2 => ?_⟩
  obtain ⟨hy, HI⟩ := r2 y μ2 p2 f1 f2
  refine bk_W_law_184 ⟨fun _ => ?_, fun ne => absurd (hx.trans hy.symm) ne⟩
  rw [show nI i + 6 = nI (i + 6) from nI_add i 6]
  exact ih _ _ HI
theorem lw_manner1 {i : Nat} {σ : ss_S} {μ : mj_MM} (H : LI i h m σ μ) (hi : i ≤ 3073) (vp1 : vp_in (nI i + 1) (G.2.2.1.2 2).2.1) (vp2 : vp_in (nI i + 2) (G.2.2.1.2 2).2.1) (vp3 : vp_in (nI i + 3) (G.2.2.1.2 2).2.1) (vp4 : vp_in (nI i + 4) (G.2.2.1.2 2).2.1) (vp5 : vp_in (nI i + 5) (G.2.2.1.2 2).2.1) (ih : ∀ σ μ, LI (i + 6) h m σ μ → lwJ G h m 28 (i + 6) [] μ) (hz : ¬ ((G.2.2.1.2 2).2.2 (Int32.toNatClampNeg (nI i + 2))) = 0) : ∃ P : Int32 → mj_MM → Prop, mj_M G my_T_manner mY_T_manner [va_rf (some h), .int ((G.2.2.1.2 2).2.2 (Int32.toNatClampNeg (nI i + 1))), .int 1] (mj_nc μ) (mj_ns μ) μ (mj_XI P) ∧ ∀ (x : Int32) (μ' : mj_MM), P x μ' → mj_nc μ' = mj_nc μ → mj_ns μ' = mj_ns μ → lwJ G h m 284 i [.int x] μ' := by
  obtain ⟨P, c1, c3⟩ := op_manner (G := G) H hi ((G.2.2.1.2 2).2.2 (Int32.toNatClampNeg (nI i + 1))) 1 (by decide)
  refine ⟨P, c1, fun x μ' p e1 e2 => ?_⟩
  obtain ⟨hx, HM⟩ := c3 x μ' p e1 e2
  refine bk_W_law_284 ⟨vp1, vp2, ⟨fun z => absurd z hz, fun _ => ⟨m, rfl, ?_⟩⟩⟩
  obtain ⟨tm, P2, r1, r2⟩ := rp_manner (G := G) ((G.2.2.1.2 2).2.2 (Int32.toNatClampNeg (nI i + 1))) 1 (by decide) HM hi
  refine ⟨tm, P2, r1, fun y μ2 p2 f1 f2 => ?_⟩
  obtain ⟨hy, HI⟩ := r2 y μ2 p2 f1 f2
  refine bk_W_law_306 ⟨fun _ => ?_, fun ne => absurd (hx.trans hy.symm) ne⟩
  rw [show nI i + 6 = nI (i + 6) from nI_add i 6]
  exact ih _ _ HI
theorem lw_loop (hG : gS G) (hL : (G.2.2.1.2 2).2.1 ≤ 3073) : ∀ n i σ μ, (G.2.2.1.2 2).2.1 + 6 ≤ n + i → 1 ≤ i → i ≤ (G.2.2.1.2 2).2.1 + 6 → LI i h m σ μ → lwJ G h m 28 i [] μ := by
  intro n
  induction n using Nat.strongRecOn with
  | _ n IH =>
    intro i σ μ hn h1 h2 H
    refine bk_W_law_28 ⟨fun _ => rfl, fun hlt => ?_⟩
    have hl : i + 6 ≤ (G.2.2.1.2 2).2.1 := by
      refine Nat.le_of_not_lt (fun hh => hlt ?_)
      rw [mj_iLT, nI_toInt (by omega)]
      by_cases h6 : 6 ≤ (G.2.2.1.2 2).2.1
      · rw [show (6 : Int32) = nI 6 from rfl, nI_subN h6, nI_toInt (by omega)]
        omega
      · have d : ∀ k, k < 6 → (nI k - 6).toInt < 0 := by decide
        have := d (G.2.2.1.2 2).2.1 (by omega)
        omega
    have ih : ∀ σ μ, LI (i + 6) h m σ μ → lwJ G h m 28 (i + 6) [] μ := fun σ' μ' H' => IH (n - 6) (by omega) (i + 6) σ' μ' (by omega) (by omega) (by omega) H'
    have vp : ∀ j, j < 6 → vp_in (nI i + nI j) (G.2.2.1.2 2).2.1 := fun j hj => by
      rw [nI_add]
      exact vp_in_nI (by omega) (by omega)
    have vp1 : vp_in (nI i + 1) (G.2.2.1.2 2).2.1 := vp 1 (by decide)
    have vp2 : vp_in (nI i + 2) (G.2.2.1.2 2).2.1 := vp 2 (by decide)
    have vp3 : vp_in (nI i + 3) (G.2.2.1.2 2).2.1 := vp 3 (by decide)
    have vp4 : vp_in (nI i + 4) (G.2.2.1.2 2).2.1 := vp 4 (by decide)
    have vp5 : vp_in (nI i + 5) (G.2.2.1.2 2).2.1 := vp 5 (by decide)
    have hi : i ≤ 3073 := by omega
    refine ⟨vp_in_nI (by omega) (by omega), fun _ => ⟨vp1, vp2, vp3, vp4, fun z => ⟨h, rfl, H.t, lw_task0 H hi vp1 vp2 vp3 vp4 vp5 ih z⟩, fun z => ⟨h, rfl, H.t, lw_task1 H hi vp1 vp2 vp3 vp4 vp5 ih z⟩⟩, fun _ => ⟨vp1, vp2, vp3, vp4, h, rfl, H.t, lw_part H hi vp1 vp2 vp3 vp4 vp5 ih hG⟩, fun _ => ⟨vp1, vp2, fun z => ⟨h, rfl, H.t, lw_manner0 H hi vp1 vp2 vp3 vp4 vp5 ih z⟩, fun z => ⟨h, rfl, H.t, lw_manner1 H hi vp1 vp2 vp3 vp4 vp5 ih z⟩⟩, fun _ => ⟨vp1, vp2, vp3, h, rfl, H.t, lw_activate H hi vp1 vp2 vp3 vp4 vp5 ih⟩, fun _ => ⟨vp1, vp2, vp3, vp4, vp5, h, rfl, H.t, lw_interrupt H hi vp1 vp2 vp3 vp4 vp5 ih⟩, fun _ => ⟨vp1, vp2, h, rfl, H.t, lw_run H hi vp1 vp2 vp3 vp4 vp5 ih⟩, fun _ => ⟨h, rfl, H.t, lw_now H hi vp1 vp2 vp3 vp4 vp5 ih⟩, fun _ => ⟨vp1, vp2, vp3, h, rfl, H.t, lw_running H hi vp1 vp2 vp3 vp4 vp5 ih⟩, fun _ => ⟨vp1, h, rfl, H.t, lw_used H hi vp1 vp2 vp3 vp4 vp5 ih⟩, fun _ => ⟨vp1, h, rfl, H.t, lw_state H hi vp1 vp2 vp3 vp4 vp5 ih⟩, fun _ => ⟨vp1, vp2, h, rfl, H.t, lw_event H hi vp1 vp2 vp3 vp4 vp5 ih⟩, fun _ => ⟨vp1, h, rfl, H.t, lw_events H hi vp1 vp2 vp3 vp4 vp5 ih⟩, fun _ => ⟨vp1, vp2, h, rfl, H.t, lw_code H hi vp1 vp2 vp3 vp4 vp5 ih⟩, fun _ => ⟨vp1, vp2, h, rfl, H.t, lw_order H hi vp1 vp2 vp3 vp4 vp5 ih⟩, fun _ => ⟨vp1, vp2, h, rfl, H.t, lw_spin H hi vp1 vp2 vp3 vp4 vp5 ih⟩, fun _ => ⟨vp1, h, rfl, H.t, lw_holder H hi vp1 vp2 vp3 vp4 vp5 ih⟩, fun _ => ?_⟩
    rw [show nI i + 6 = nI (i + 6) from nI_add i 6]
    exact ih σ μ (H.mono (by omega))
end LC
