/-! What the reference does, over the numbers of a state. Fields: 0 cores, 1 tasks, 2 rank, 3 core, 4 bound, 5 extended, 6 full, 7 parts, 8 partOf, 9 partKind, 10 partV, 11 state, 12 turn, 13 wanted, 14 next, 15 left (and one), 16 starts, 17 events, 18 awaited, 19 yields, 20 used, 21 turns, 22 holder, 23 gotAt, 24 ceiling, 25 owner, 26 spins, 27 spinsSince, 28 orders, 29 offBy, 30 offEnd, 31 offTold, 32 alarms, 33 alarmTask, 34 alarmAt, 35 interrupts, 36 level, 37 comes, 38 rest, 39 codes, 40 codeKind, 41 codeTask, 42 codeAt, 43 now, 44 who -/
/-- all numbers are small -/
def sp_B (σ : ss_S) : Prop := ∀ f i, σ f i < 2 ^ 31
def sp_no (σ : ss_S) (t : Nat) : Prop := t < 1 ∨ σ 1 0 < t
def sp_tell (σ : ss_S) (c t : Nat) : ss_S :=
  if σ 39 0 < 1000 then ss_u (ss_u (ss_u (ss_u σ 40 (σ 39 0) c) 41 (σ 39 0) t) 42 (σ 39 0) (σ 43 0)) 39 0 (σ 39 0 + 1) else ss_u σ 39 0 (σ 39 0 + 1)
def sp_ready (σ : ss_S) (t : Nat) : ss_S := ss_u (ss_u (ss_u σ 21 0 (σ 21 0 + 1)) 12 t (σ 21 0 + 1)) 11 t 1
def sp_begin (σ : ss_S) (t : Nat) : ss_S :=
  if σ 11 t = 0 then ss_u (ss_u (ss_u (ss_u (sp_ready σ t) 17 t 0) 14 t 0) 15 t 2) 16 t 1
  else if 1 + σ 13 t < σ 4 t then ss_u σ 13 t (σ 13 t + 1) else sp_tell σ 1 t
def sp_setOk (σ : ss_S) (t : Nat) : Prop := σ 5 t ≠ 0 ∧ σ 11 t ≠ 0
def sp_set (σ : ss_S) (t e : Nat) : ss_S :=
  if σ 11 t = 3 ∧ ((σ 17 t ||| e) &&& σ 18 t) ≠ 0 then sp_ready (ss_u σ 17 t (σ 17 t ||| e)) t else ss_u σ 17 t (σ 17 t ||| e)
/-- the first spinner for a lock, of the tasks up to n -/
def sp_fst (σ : ss_S) (l : Nat) : Nat → Nat
  | 0 => 0
  | n + 1 => if σ 26 (n + 1) = l ∧ (sp_fst σ l n = 0 ∨ σ 27 (n + 1) < σ 27 (sp_fst σ l n)) then n + 1 else sp_fst σ l n
def sp_unlock (σ : ss_S) (l : Nat) : ss_S :=
  if sp_fst σ l (σ 1 0) = 0 then ss_u σ 25 l 0
  else ss_u (ss_u (ss_u (ss_u σ 25 l 0) 25 l (sp_fst σ l (σ 1 0))) 26 (sp_fst σ l (σ 1 0)) 0) 14 (sp_fst σ l (σ 1 0)) (σ 14 (sp_fst σ l (σ 1 0)) + 1)
def sp_holdR (σ : ss_S) (t : Nat) : Prop := ∃ r, 1 ≤ r ∧ r ≤ 32 ∧ σ 22 r = t
def sp_holdL (σ : ss_S) (t : Nat) : Prop := ∃ l, 1 ≤ l ∧ l ≤ 16 ∧ σ 25 l = t
/-- resources up to n given back -/
def sp_freeR (σ : ss_S) (t : Nat) : Nat → ss_S
  | 0 => σ
  | n + 1 => if σ 22 (n + 1) = t then ss_u (sp_freeR σ t n) 22 (n + 1) 0 else sp_freeR σ t n
/-- locks up to n given on -/
def sp_freeL (σ : ss_S) (t : Nat) : Nat → ss_S
  | 0 => σ
  | n + 1 => if sp_freeL σ t n 25 (n + 1) = t then sp_unlock (sp_freeL σ t n) (n + 1) else sp_freeL σ t n
/-- the n-th part of a task's row, from part k on: its place, or all parts' number -/
def sp_nth (σ : ss_S) (t : Nat) : Nat → Nat → Nat → Option Nat
  | 0, _, _ => none
  | c + 1, k, n => if σ 8 k = t then (if n = 0 then some k else sp_nth σ t c (k + 1) (n - 1)) else sp_nth σ t c (k + 1) n
def sp_next (σ : ss_S) (t : Nat) : Option Nat := sp_nth σ t (σ 7 0) 0 (σ 14 t)
def sp_ht (σ : ss_S) (t : Nat) : Nat → Nat
  | 0 => σ 2 t
  | r + 1 => if σ 22 (r + 1) = t ∧ sp_ht σ t r < σ 24 (r + 1) then σ 24 (r + 1) else sp_ht σ t r
def sp_height (σ : ss_S) (t : Nat) : Nat := sp_ht σ t 32
def sp_run (σ : ss_S) (c : Nat) : Nat → Nat
  | 0 => 0
  | n + 1 => if σ 3 (n + 1) = c ∧ σ 11 (n + 1) = 2 then n + 1 else sp_run σ c n
def sp_running (σ : ss_S) (c : Nat) : Nat := sp_run σ c (σ 1 0)
/-- the best of the READY ones up to n: (best, most + 1) -/
def sp_best (σ : ss_S) (c was : Nat) : Nat → Nat × Nat
  | 0 => (was, if 0 < was then sp_height σ was + 1 else 0)
  | n + 1 => if σ 3 (n + 1) = c ∧ σ 11 (n + 1) = 1 ∧ ((sp_best σ c was n).2 < sp_height σ (n + 1) + 1 ∨ ((sp_best σ c was n).2 = sp_height σ (n + 1) + 1 ∧ (sp_best σ c was n).1 ≠ was ∧ σ 12 (n + 1) < σ 12 (sp_best σ c was n).1))
    then (n + 1, sp_height σ (n + 1) + 1) else sp_best σ c was n
def sp_stays (σ : ss_S) (c : Nat) : Prop := 0 < sp_running σ c ∧ σ 6 (sp_running σ c) = 0 ∧ σ 19 (sp_running σ c) = 0
def sp_choice (σ : ss_S) (c : Nat) : Nat := (sp_best σ c (sp_running σ c) (σ 1 0)).1
def sp_rest (σ : ss_S) (c : Nat) : ss_S := if 0 < sp_running σ c then ss_u (ss_u σ 19 (sp_running σ c) 0) 11 (sp_running σ c) 1 else σ
/-- the interrupt at hand of those up to n: its place and one, or 0 -/
def sp_hand (σ : ss_S) : Nat → Nat
  | 0 => 0
  | n + 1 => if (σ 37 n ≤ σ 43 0 ∧ 0 < σ 38 n ∧ (7 < σ 36 n ∨ σ 29 0 = 0)) ∧ (sp_hand σ n = 0 ∨ σ 36 (sp_hand σ n - 1) < σ 36 n) then n + 1 else sp_hand σ n
def sp_atHand (σ : ss_S) : Nat := sp_hand σ (σ 35 0)
