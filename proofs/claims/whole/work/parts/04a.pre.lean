theorem mj_ci (x : Int32) : (Value.int x).category = 1 := rfl
theorem mj_cl (x : Int64) : (Value.long x).category = 2 := rfl
theorem mj_new0I (μ : mj_MM) (a t n k j : Nat) : mj_i (mj_new μ a t n k) a j = 0 := by simp [mj_i, mj_new, mj_w]
theorem mj_new0R (μ : mj_MM) (a t n k j : Nat) : mj_r (mj_new μ a t n k) a j = none := by simp [mj_r, mj_new, mj_w]
theorem mj_new0L (μ : mj_MM) (a t n k j : Nat) : mj_l (mj_new μ a t n k) a j = 0 := by simp [mj_l, mj_new, mj_w]
theorem mj_sI (μ : mj_MM) (a k : Nat) (x : Int32) : mj_i (mj_pI μ a k x) a k = x := mj_u_self _ _ _ _
theorem mj_sR (μ : mj_MM) (a k : Nat) (x : Option Nat) : mj_r (mj_pR μ a k x) a k = x := mj_u_self _ _ _ _
theorem mj_sL (μ : mj_MM) (a k : Nat) (x : Int64) : mj_l (mj_pL μ a k x) a k = x := mj_u_self _ _ _ _
section MJ4
variable {G : mj_G} {Y : mj_Y} {Ex : Option Value → mj_MM → Prop} {N S pc : Nat} {lv : List (Nat × Value)} {st : List Value} {μ : mj_MM}
theorem mj_istn {k : Fin 4} {i : Nat} {x : Int32} {lv' : List (Nat × Value)} (hdg : decode Y.2.1 pc = .ok (.istore_n k, 1)) (hi : (k : Nat) = i) (hn : i < Y.2.2.1) (hv : (i, Value.int x) :: lv.filter (fun q => !(q.1 == i) && !(q.1 + 1 == i && q.2.category == 2)) = lv') (kk : mj_J G Y Ex N S (pc + 1) lv' st μ) : mj_J G Y Ex N S pc lv (.int x :: st) μ := by
  subst hi
  exact mj_istore_n hdg hn hv kk
theorem mj_lstn {k : Fin 4} {i : Nat} {x : Int64} {lv' : List (Nat × Value)} (hdg : decode Y.2.1 pc = .ok (.lstore_n k, 1)) (hi : (k : Nat) = i) (hn : i + 1 < Y.2.2.1) (hv : (i, Value.long x) :: lv.filter (fun q => !(q.1 == i) && (!(q.1 == i + 1) && !(q.1 + 1 == i && q.2.category == 2))) = lv') (kk : mj_J G Y Ex N S (pc + 1) lv' st μ) : mj_J G Y Ex N S pc lv (.long x :: st) μ := by
  subst hi
  exact mj_lstore_n hdg hn hv kk
theorem mj_astn {k : Fin 4} {i : Nat} {r : Option Nat} {lv' : List (Nat × Value)} (hdg : decode Y.2.1 pc = .ok (.astore_n k, 1)) (hi : (k : Nat) = i) (hn : i < Y.2.2.1) (hv : (i, va_rf r) :: lv.filter (fun q => !(q.1 == i) && !(q.1 + 1 == i && q.2.category == 2)) = lv') (kk : mj_J G Y Ex N S (pc + 1) lv' st μ) : mj_J G Y Ex N S pc lv (va_rf r :: st) μ := by
  subst hi
  exact mj_astore_n hdg hn hv kk
end MJ4
theorem mj_ne {μ : mj_MM} {a b s t : Nat} (ha : mj_t μ a = s) (hb : mj_t μ b = t) (h : s ≠ t) : a ≠ b := fun e => h (by rw [← ha, ← hb, e])
theorem mj_ki {μ : mj_MM} {a b i k : Nat} {x : Int32} (h : b ≠ a) : mj_i (mj_pI μ a i x) b k = mj_i μ b k := mj_u_apart _ x h
theorem mj_kr {μ : mj_MM} {a b i k : Nat} {x : Option Nat} (h : b ≠ a) : mj_r (mj_pR μ a i x) b k = mj_r μ b k := mj_u_apart _ x h
theorem mj_kl {μ : mj_MM} {a b i k : Nat} {x : Int64} (h : b ≠ a) : mj_l (mj_pL μ a i x) b k = mj_l μ b k := mj_u_apart _ x h
