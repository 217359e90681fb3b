/-! How the class's objects (c) stand for the numbers (σ) -/
def enc (v : Nat) : Nat := if v = 0 then 0 else v + 1
/-- the first part of t's row from k on: its index and one -/
def nxd (p : Nat → Nat) (t : Nat) : Nat → Nat → Nat
  | 0, _ => 0
  | d + 1, k => if p k = t then k + 1 else nxd p t d (k + 1)
def nx (p : Nat → Nat) (n t k : Nat) : Nat := nxd p t (n - k) k
/-- the m-th part of t's row -/
def nthd (p : Nat → Nat) (t : Nat) : Nat → Nat → Nat → Nat
  | 0, _, _ => 0
  | d + 1, k, m => if p k = t then (if m = 0 then k + 1 else nthd p t d (k + 1) (m - 1)) else nthd p t d (k + 1) m
def pq (p : Nat → Nat) (n t m : Nat) : Nat := nthd p t n 0 m
/-- a core's tasks -/
def onl (s : Nat → Nat) (k : Nat) : Nat → List Nat
  | 0 => []
  | n + 1 => if s (n + 1) = k then onl s k n ++ [n + 1] else onl s k n
/-- how many of the first n locks a task has -/
def lcn (o : Nat → Nat) (t : Nat) : Nat → Nat
  | 0 => 0
  | l + 1 => if o (l + 1) = t then lcn o t l + 1 else lcn o t l
/-- a resource's ceiling out of the first n parts -/
def cfc (p2 p8 p9 p10 : Nat → Nat) (r : Nat) : Nat → Nat
  | 0 => 0
  | k + 1 => if p9 k = 6 ∧ p10 k = r ∧ cfc p2 p8 p9 p10 r k < p2 (p8 k) then p2 (p8 k) else cfc p2 p8 p9 p10 r k
/-- who ran before; switches of a core, of all cores before a time, at a time before a core -/
def wbef (w : Nat → Nat) (k t : Nat) : Nat := if t = 0 then 0 else w (50000 * k + t - 1)
def wsw (w : Nat → Nat) (k t : Nat) : Nat := if w (50000 * k + t) = wbef w k t then 0 else 1
def wk (w : Nat → Nat) (k : Nat) : Nat → Nat
  | 0 => 0
  | t + 1 => wk w k t + wsw w k t
def wc (w : Nat → Nat) (t : Nat) : Nat → Nat
  | 0 => 0
  | k + 1 => wc w t k + wsw w k t
def wa (w : Nat → Nat) (C : Nat) : Nat → Nat
  | 0 => 0
  | t + 1 => wa w C t + wc w t C
def rb (B : cl_B) (σ : ss_S) : Prop :=
  cL B 0 0 ∧ cL B 3 0 ∧ (cL B 10 0 ∧ cL B 10 1 ∧ cL B 10 2 ∧ cL B 10 3) ∧ (cN B 10 0 = 101 ∧ cN B 10 1 = σ 0 0 ∧ cN B 10 2 = 33 ∧ cN B 10 3 = 17) ∧ (∀ k, cL B 1 k ↔ k < σ 0 0) ∧ (∀ l, cL B 4 l ↔ l < 17) ∧ (∀ r, cL B 7 r ↔ r < 33) ∧ (∀ t, cL B 8 t ↔ 1 ≤ t ∧ t ≤ σ 1 0) ∧
  (∀ k, cL B 6 k ↔ k < σ 7 0 ∨ (1001 ≤ k ∧ k ≤ 1000 + σ 1 0)) ∧ (∀ k, cL B 9 k ↔ k < σ 32 0) ∧ (∀ k, cL B 2 k ↔ k < σ 35 0) ∧ ∀ j, cL B 5 j ↔ j < σ 0 0 + 2
def r1 (σ : ss_S) (c : cc_S) : Prop :=
  (c 0 0 0 = 1 ∧ c 0 1 0 = 2 ∧ c 0 2 0 = 3 ∧ c 0 3 0 = 4 ∧ c 0 4 0 = 1 ∧ c 0 5 0 = 1 ∧ c 0 6 0 = 2) ∧ (c 0 8 0 = σ 32 0 ∧ c 0 9 0 = σ 1 0 ∧ c 0 10 0 = σ 7 0 ∧ c 0 11 0 = σ 21 0 ∧ c 0 12 0 = σ 43 0) ∧
  (∀ t, c 10 0 t = if 1 ≤ t ∧ t ≤ σ 1 0 then t + 1 else 0) ∧ (∀ k, k < σ 0 0 → c 10 1 k = k + 1) ∧ (∀ r, r < 33 → c 10 2 r = r + 1) ∧ ∀ l, l < 17 → c 10 3 l = l + 1
def r2 (σ : ss_S) (c : cc_S) : Prop := ∀ t, 1 ≤ t ∧ t ≤ σ 1 0 → c 8 0 t = t ∧ c 8 1 t = σ 2 t ∧ c 8 2 t = σ 3 t + 1 ∧ c 8 3 t = σ 4 t ∧ c 8 4 t = σ 5 t ∧ c 8 5 t = σ 6 t ∧ c 8 6 t = 1000 + t + 1 ∧ σ 3 t < σ 0 0
def r3a (σ : ss_S) (c : cc_S) : Prop := ∀ t, 1 ≤ t ∧ t ≤ σ 1 0 → c 8 9 t = σ 11 t
def r3b (σ : ss_S) (c : cc_S) : Prop := ∀ t, 1 ≤ t ∧ t ≤ σ 1 0 → c 8 10 t = σ 12 t
def r3c (σ : ss_S) (c : cc_S) : Prop := ∀ t, 1 ≤ t ∧ t ≤ σ 1 0 → c 8 11 t = σ 13 t
def r3d (σ : ss_S) (c : cc_S) : Prop := ∀ t, 1 ≤ t ∧ t ≤ σ 1 0 → c 8 12 t = σ 17 t
def r3e (σ : ss_S) (c : cc_S) : Prop := ∀ t, 1 ≤ t ∧ t ≤ σ 1 0 → c 8 13 t = σ 18 t
def r3f (σ : ss_S) (c : cc_S) : Prop := ∀ t, 1 ≤ t ∧ t ≤ σ 1 0 → c 8 14 t = σ 20 t
def r3 (σ : ss_S) (c : cc_S) : Prop := r3a σ c ∧ r3b σ c ∧ r3c σ c ∧ r3d σ c ∧ r3e σ c ∧ r3f σ c
def r4 (σ : ss_S) (c : cc_S) : Prop := ∀ k, k < σ 0 0 → c 1 0 k = k ∧ c 1 1 k = k + 2 + 1 ∧ ch (c 8 17) (c 1 2 k) (onl (σ 3) k (σ 1 0)) ∧ c 1 3 k = (match (onl (σ 3) k (σ 1 0)).getLast? with | none => 0 | some t => t + 1)
def r5 (σ : ss_S) (c : cc_S) : Prop :=
  (∀ t, 1 ≤ t ∧ t ≤ σ 1 0 → (σ 11 t = 2 ↔ c 1 4 (σ 3 t) = t + 1)) ∧ (∀ k, k < σ 0 0 → c 1 4 k = 0 ∨ ∃ t, (1 ≤ t ∧ t ≤ σ 1 0) ∧ c 1 4 k = t + 1 ∧ σ 3 t = k) ∧
  (∀ k, k < σ 0 0 → c 1 4 k = 0 → c 1 6 k = 0) ∧ (∀ t, 1 ≤ t ∧ t ≤ σ 1 0 → σ 11 t = 2 → c 1 6 (σ 3 t) = σ 19 t) ∧ ∀ t, 1 ≤ t ∧ t ≤ σ 1 0 → σ 11 t ≠ 2 → σ 19 t = 0
def r6 (σ : ss_S) (c : cc_S) : Prop :=
  (∀ k, k < σ 7 0 → c 6 0 k = σ 9 k ∧ c 6 1 k = σ 10 k ∧ c 6 2 k = nx (σ 8) (σ 7 0) (σ 8 k) (k + 1) ∧ 1 ≤ σ 8 k ∧ σ 8 k ≤ σ 1 0 ∧ an_good (σ 9 k) (σ 10 k)) ∧ ∀ t, 1 ≤ t ∧ t ≤ σ 1 0 → c 6 0 (1000 + t) = 0 ∧ c 6 1 (1000 + t) = 1 ∧ c 6 2 (1000 + t) = nx (σ 8) (σ 7 0) t 0
def r7a (t1 : Nat) (σ : ss_S) (c : cc_S) : Prop := ∀ t, 1 ≤ t ∧ t ≤ σ 1 0 → t ≠ t1 → σ 11 t ≠ 0 → c 8 7 t = if σ 16 t = 0 then pq (σ 8) (σ 7 0) t (σ 14 t) else 1000 + t + 1
def r7b (σ : ss_S) (c : cc_S) : Prop := ∀ t, 1 ≤ t ∧ t ≤ σ 1 0 → (σ 11 t = 0 ∨ σ 16 t ≠ 0 ∨ σ 15 t = 0) → c 8 8 t = 0
def r7c (σ : ss_S) (c : cc_S) : Prop := ∀ t, 1 ≤ t ∧ t ≤ σ 1 0 → σ 11 t ≠ 0 → σ 16 t = 0 → σ 15 t ≠ 0 → 2 ≤ σ 15 t ∧ ∃ k, pq (σ 8) (σ 7 0) t (σ 14 t) = k + 1 ∧ σ 9 k = 0 ∧ c 8 8 t + σ 15 t = σ 10 k + 1
def r7 (t1 : Nat) (σ : ss_S) (c : cc_S) : Prop := r7a t1 σ c ∧ r7b σ c ∧ r7c σ c
def r8 (σ : ss_S) (c : cc_S) : Prop :=
  (∀ r, 1 ≤ r → r ≤ 32 → c 7 1 r = enc (σ 22 r) ∧ (σ 22 r ≠ 0 → σ 22 r ≤ σ 1 0)) ∧ (∀ r, σ 23 r ≤ σ 28 0) ∧ ∀ t, 1 ≤ t ∧ t ≤ σ 1 0 → ∃ L, ch (c 7 2) (c 8 15 t) L ∧ (∀ r, r ∈ L ↔ (1 ≤ r ∧ r ≤ 32) ∧ σ 22 r = t) ∧ L.Pairwise (fun a b => σ 23 b < σ 23 a)
def r9a (t0 : Nat) (σ : ss_S) (c : cc_S) : Prop := ∀ t, 1 ≤ t ∧ t ≤ σ 1 0 → t ≠ t0 → c 8 16 t = lcn (σ 25) t 16
def r9b (σ : ss_S) (c : cc_S) : Prop := c 4 0 0 = 0 ∧ (∀ l, 1 ≤ l → l ≤ 16 → c 4 0 l = enc (σ 25 l) ∧ (σ 25 l ≠ 0 → σ 25 l ≤ σ 1 0))
def r9c (σ : ss_S) (c : cc_S) : Prop :=
  (∀ t, σ 27 t ≤ σ 28 0) ∧ (∀ l, 1 ≤ l → l ≤ 16 → ∃ L, ch (c 8 18) (c 4 1 l) L ∧ (∀ t, t ∈ L ↔ (1 ≤ t ∧ t ≤ σ 1 0) ∧ σ 26 t = l) ∧ L.Pairwise (fun a b => σ 27 a < σ 27 b)) ∧ ∀ t, 1 ≤ t ∧ t ≤ σ 1 0 → σ 26 t = 0 → c 8 18 t = 0
def r9d (σ : ss_S) : Prop := ∀ t, 1 ≤ t ∧ t ≤ σ 1 0 → σ 26 t ≠ 0 → σ 26 t ≤ 16 ∧ σ 11 t ≠ 0 ∧ σ 16 t = 0 ∧ σ 15 t = 0 ∧ σ 25 (σ 26 t) ≠ 0 ∧ σ 25 (σ 26 t) ≠ t ∧ ∃ k, pq (σ 8) (σ 7 0) t (σ 14 t) = k + 1 ∧ σ 9 k = 8 ∧ σ 10 k = σ 26 t
def r9 (t0 : Nat) (σ : ss_S) (c : cc_S) : Prop := r9a t0 σ c ∧ r9b σ c ∧ r9c σ c ∧ r9d σ
def r10 (σ : ss_S) (c : cc_S) : Prop :=
  (∀ k, k < σ 35 0 → c 2 0 k = σ 36 k ∧ c 2 1 k = σ 37 k ∧ c 2 2 k = σ 38 k) ∧ c 3 1 0 = σ 35 0 ∧ c 3 2 0 = enc (σ 29 0) ∧ (σ 29 0 ≠ 0 → c 3 3 0 = σ 30 0 ∧ σ 29 0 ≤ σ 1 0 ∧ σ 3 (σ 29 0) = 0) ∧
  ∃ L, ch (c 2 3) (c 3 0 0) L ∧ (∀ k, k ∈ L ↔ k < σ 35 0 ∧ 0 < σ 38 k) ∧ L.Pairwise (fun a b => σ 36 b < σ 36 a ∨ (σ 36 a = σ 36 b ∧ a < b))
def r11 (e : Nat) (σ : ss_S) (c : cc_S) : Prop :=
  (∀ k, k < σ 32 0 → c 9 0 k = σ 33 k + 1 ∧ c 9 1 k = σ 34 k ∧ (1 ≤ σ 33 k ∧ σ 33 k ≤ σ 1 0)) ∧ ∃ L, ch (c 9 2) (c 0 7 0) L ∧ (∀ k, k ∈ L ↔ k < σ 32 0 ∧ (σ 43 0 < σ 34 k ∨ (σ 34 k = σ 43 0 ∧ e ≤ k))) ∧ L.Pairwise (fun a b => σ 34 a < σ 34 b ∨ (σ 34 a = σ 34 b ∧ a < b))
def r12 (σ : ss_S) (c : cc_S) : Prop := c 5 1 0 = 1000 ∧ c 5 2 0 = σ 39 0 ∧ ∀ i, i < σ 39 0 → i < 1000 → c 20 0 i = σ 40 i * 2 ^ 40 + σ 41 i * 2 ^ 20 + σ 42 i ∧ σ 40 i < 2 ^ 20 ∧ σ 41 i < 2 ^ 20 ∧ σ 42 i < 2 ^ 20
def r13 (σ : ss_S) (c : cc_S) : Prop :=
  (c 5 1 1 = 50000 * σ 0 0 ∧ c 5 2 1 = wa (σ 44) (σ 0 0) (σ 43 0)) ∧ (∀ k, k < σ 0 0 → c 5 1 (k + 2) = 50000 ∧ c 5 2 (k + 2) = wk (σ 44) k (σ 43 0) ∧ c 1 5 k = wbef (σ 44) k (σ 43 0)) ∧
  (∀ k t, k < σ 0 0 → t < σ 43 0 → σ 44 (50000 * k + t) < 1100 ∧ (wsw (σ 44) k t = 1 → c 20 1 (wa (σ 44) (σ 0 0) t + wc (σ 44) t k) = t * 2 ^ 40 + k * 2 ^ 20 + σ 44 (50000 * k + t) ∧ c 20 (k + 2) (wk (σ 44) k t) = t * 2 ^ 40 + σ 44 (50000 * k + t) * 2 ^ 20))
def r14 (σ : ss_S) : Prop := sp_V σ ∧ (∀ t, 1 ≤ t ∧ t ≤ σ 1 0 → σ 13 t + 1 ≤ σ 4 t ∧ σ 4 t ≤ 100) ∧ ∀ t, σ 1 0 < t → σ 11 t = 0 ∧ σ 12 t = 0 ∧ σ 13 t = 0 ∧ σ 14 t = 0 ∧ σ 16 t = 0 ∧ σ 17 t = 0 ∧ σ 18 t = 0 ∧ σ 19 t = 0 ∧ σ 20 t = 0 ∧ σ 26 t = 0 ∧ σ 27 t = 0
def r15 (σ : ss_S) (c : cc_S) : Prop := ∀ r, 1 ≤ r → r ≤ 32 → c 7 0 r = cfc (σ 2) (σ 8) (σ 9) (σ 10) r (σ 7 0)
def r16 (B : cl_B) (c : cc_S) : Prop := ∀ K p i, K < 10 → ¬ cL B K i → c K p i = 0
def REP (B : cl_B) (e t0 t1 : Nat) (σ : ss_S) (c : cc_S) : Prop :=
  rb B σ ∧ r1 σ c ∧ r2 σ c ∧ r3 σ c ∧ r4 σ c ∧ r5 σ c ∧ r6 σ c ∧ r7 t1 σ c ∧ r8 σ c ∧ r9 t0 σ c ∧ r10 σ c ∧ r11 e σ c ∧ r12 σ c ∧ r13 σ c ∧ r14 σ ∧ r15 σ c ∧ r16 B c
def CR (B : cl_B) (e t0 t1 : Nat) (σ : ss_S) (μ0 μ : mj_MM) : Prop := ∃ c, cl_Q B c μ0 μ ∧ REP B e t0 t1 σ c
section RE
variable {B : cl_B} {e t0 t1 : Nat} {σ : ss_S} {c : cc_S} {μ0 μ : mj_MM}
theorem REP.b (h : REP B e t0 t1 σ c) : rb B σ := h.1
theorem REP.h1 (h : REP B e t0 t1 σ c) : r1 σ c := h.2.1
theorem REP.h2 (h : REP B e t0 t1 σ c) : r2 σ c := h.2.2.1
theorem REP.h3 (h : REP B e t0 t1 σ c) : r3 σ c := h.2.2.2.1
theorem REP.h4 (h : REP B e t0 t1 σ c) : r4 σ c := h.2.2.2.2.1
theorem REP.h5 (h : REP B e t0 t1 σ c) : r5 σ c := h.2.2.2.2.2.1
theorem REP.h6 (h : REP B e t0 t1 σ c) : r6 σ c := h.2.2.2.2.2.2.1
theorem REP.h7 (h : REP B e t0 t1 σ c) : r7 t1 σ c := h.2.2.2.2.2.2.2.1
theorem REP.h8 (h : REP B e t0 t1 σ c) : r8 σ c := h.2.2.2.2.2.2.2.2.1
theorem REP.h9 (h : REP B e t0 t1 σ c) : r9 t0 σ c := h.2.2.2.2.2.2.2.2.2.1
theorem REP.h10 (h : REP B e t0 t1 σ c) : r10 σ c := h.2.2.2.2.2.2.2.2.2.2.1
theorem REP.h11 (h : REP B e t0 t1 σ c) : r11 e σ c := h.2.2.2.2.2.2.2.2.2.2.2.1
theorem REP.h12 (h : REP B e t0 t1 σ c) : r12 σ c := h.2.2.2.2.2.2.2.2.2.2.2.2.1
theorem REP.h13 (h : REP B e t0 t1 σ c) : r13 σ c := h.2.2.2.2.2.2.2.2.2.2.2.2.2.1
theorem REP.h14 (h : REP B e t0 t1 σ c) : r14 σ := h.2.2.2.2.2.2.2.2.2.2.2.2.2.2.1
theorem REP.h15 (h : REP B e t0 t1 σ c) : r15 σ c := h.2.2.2.2.2.2.2.2.2.2.2.2.2.2.2.1
theorem REP.h16 (h : REP B e t0 t1 σ c) : r16 B c := h.2.2.2.2.2.2.2.2.2.2.2.2.2.2.2.2
theorem REP.x (h : REP B e t0 t1 σ c) : cL B 0 0 := h.1.1
theorem REP.u (h : REP B e t0 t1 σ c) : cL B 3 0 := h.1.2.1
theorem REP.k (h : REP B e t0 t1 σ c) {t : Nat} (ht : 1 ≤ t ∧ t ≤ σ 1 0) : cL B 8 t := (h.1.2.2.2.2.2.2.2.1 t).mpr ht
theorem REP.co (h : REP B e t0 t1 σ c) {k : Nat} (hk : k < σ 0 0) : cL B 1 k := (h.1.2.2.2.2.1 k).mpr hk
theorem REP.lo (h : REP B e t0 t1 σ c) {l : Nat} (hl : l < 17) : cL B 4 l := (h.1.2.2.2.2.2.1 l).mpr hl
theorem REP.re (h : REP B e t0 t1 σ c) {r : Nat} (hr : r < 33) : cL B 7 r := (h.1.2.2.2.2.2.2.1 r).mpr hr
theorem REP.p (h : REP B e t0 t1 σ c) {k : Nat} (hk : k < σ 7 0) : cL B 6 k := (h.1.2.2.2.2.2.2.2.2.1 k).mpr (Or.inl hk)
theorem REP.ps (h : REP B e t0 t1 σ c) {t : Nat} (ht : 1 ≤ t ∧ t ≤ σ 1 0) : cL B 6 (1000 + t) := (h.1.2.2.2.2.2.2.2.2.1 (1000 + t)).mpr (Or.inr (by omega))
theorem REP.te (h : REP B e t0 t1 σ c) {k : Nat} (hk : k < σ 32 0) : cL B 9 k := (h.1.2.2.2.2.2.2.2.2.2.1 k).mpr hk
theorem REP.i (h : REP B e t0 t1 σ c) {k : Nat} (hk : k < σ 35 0) : cL B 2 k := (h.1.2.2.2.2.2.2.2.2.2.2.1 k).mpr hk
theorem REP.lg (h : REP B e t0 t1 σ c) {j : Nat} (hj : j < σ 0 0 + 2) : cL B 5 j := (h.1.2.2.2.2.2.2.2.2.2.2.2 j).mpr hj
theorem REP.v (h : REP B e t0 t1 σ c) : sp_V σ := h.h14.1
theorem enc_0 : enc 0 = 0 := rfl
theorem enc_s {v : Nat} (h : v ≠ 0) : enc v = v + 1 := by
  unfold enc
  rw [if_neg h]
theorem enc_eq {v w : Nat} : (enc v = enc w) = (v = w) := by
  unfold enc
  apply propext
  constructor
  · split <;> split <;> omega
  · intro h
    rw [h]
theorem r16.u (h : r16 B c) (K p i v : Nat) (hl : cL B K i ∨ 10 ≤ K) : r16 B (cc_u c K p i v) := by
  intro K' p' i' hK hd
  unfold cc_u
  split
  · split
    · split
      · rename_i g1 g2 g3
        rcases hl with hl | hl
        · rw [g1, g3] at hd
          exact absurd hl hd
        · omega
      · exact h K' p' i' hK hd
    · exact h K' p' i' hK hd
  · exact h K' p' i' hK hd
/-- one number of tasks has changed on both sides -/
theorem eq_u {V : Nat → Prop} {K p f : Nat} (h : ∀ t, V t → c K p t = σ f t) (i v : Nat) : ∀ t, V t → cc_u c K p i v K p t = ss_u σ f i v f t := by
  intro t ht
  rw [cc_ue, ss_ue]
  split
  · rfl
  · exact h t ht
end RE
