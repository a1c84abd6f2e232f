/-! the test of a place, and what the kernel reckons over all good squares of the five sizes -/
def sm_okl (n c s : Nat) : Bool := Nat.beq s (c + 2) || (Nat.beq s (c + 1) && Nat.ble (c + 2) n)
theorem sm_okl_iff {n c s : Nat} : sm_okl n c s = true ↔ s = c + 2 ∨ (s = c + 1 ∧ c + 2 ≤ n) := by
  unfold sm_okl
  rw [Bool.or_eq_true, Bool.and_eq_true, Nat.beq_eq, Nat.beq_eq, Nat.ble_eq]
def sm_ok (n p : Nat) (v : List Nat) : Bool :=
  sm_okl n (p % n) (sm_ns (fun j => sm_get v (p - (p / n * n + j))) (p % n + 1)) && sm_okl n (p / n) (sm_ns (fun i => sm_get v (p - (p % n + i * n))) (p / n + 1))
theorem sm_ok_dg {n p : Nat} {v : List Nat} (h : v.length = p + 1) : sm_ok n p v = (sm_okl n (p % n) (sm_ns (fun j => sm_dg v (p / n * n + j)) (p % n + 1)) && sm_okl n (p / n) (sm_ns (fun i => sm_dg v (p % n + i * n)) (p / n + 1))) := by
  unfold sm_ok sm_dg
  rw [h]
  rfl
/-! the edges that are on, by X's test and by Y's; a port is 4 * place + side -/
def sm_in (n : Nat) (dg : Nat → Nat) (r c : Nat) : Nat → Bool
  | 0 => Nat.beq (sm_ns (fun i => dg (c + i * n)) r) (r + 1)
  | 1 => Nat.beq (sm_ns (fun j => dg (r * n + j)) (c + 1)) (c + 2)
  | 2 => Nat.beq (sm_ns (fun i => dg (c + i * n)) (r + 1)) (r + 1)
  | _ => Nat.beq (sm_ns (fun j => dg (r * n + j)) c) c
def sm_onX (n : Nat) (dg : Nat → Nat) (t : Nat) : Bool := sm_in n dg (t / 4 / n) (t / 4 % n) (t % 4) == Nat.beq ((t / 4 / n + t / 4 % n) % 2) 0
def sm_lo (n : Nat) (dg : Nat → Nat) (r c : Nat) : Nat → Bool
  | 0 => Nat.beq r 0 || Nat.beq (sm_ns (fun i => dg (c + i * n)) r) r
  | 1 => Nat.beq (sm_ns (fun j => dg (r * n + j)) (c + 1)) (c + 1)
  | 2 => Nat.beq (sm_ns (fun i => dg (c + i * n)) (r + 1)) (r + 2)
  | _ => Nat.ble 1 c && Nat.beq (sm_ns (fun j => dg (r * n + j)) c) (c + 1)
def sm_onY (n : Nat) (dg : Nat → Nat) (r c s : Nat) : Bool := sm_lo n dg r c s == Nat.beq ((r + c) % 2) 1
/-- the first side that is on and isn't port t, of the place with ports from f on; k sides are left -/
def sm_way (on : Nat → Bool) (f t : Nat) : Nat → Nat
  | 0 => t
  | k + 1 => bif !(Nat.beq (f + (3 - k)) t) && on (f + (3 - k)) then f + (3 - k) else sm_way on f t k
/-- 0 at an edge between two places, else the outer edge's number and 1 -/
def sm_out (n t : Nat) : Nat :=
  match t % 4 with
  | 0 => bif Nat.beq (t / 4 / n) 0 then t / 4 % n + 1 else 0
  | 1 => bif Nat.beq (t / 4 % n + 1) n then n + t / 4 / n + 1 else 0
  | 2 => bif Nat.beq (t / 4 / n + 1) n then 2 * n + (n - 1 - t / 4 % n) + 1 else 0
  | _ => bif Nat.beq (t / 4 % n) 0 then 3 * n + (n - 1 - t / 4 / n) + 1 else 0
def sm_acr (n t : Nat) : Nat :=
  match t % 4 with
  | 0 => (t / 4 - n) * 4 + 2
  | 1 => (t / 4 + 1) * 4 + 3
  | 2 => (t / 4 + n) * 4
  | _ => (t / 4 - 1) * 4 + 1
def sm_op (n e : Nat) : Nat :=
  match e / n with
  | 0 => e % n * 4
  | 1 => (e % n * n + (n - 1)) * 4 + 1
  | 2 => ((n - 1) * n + (n - 1 - e % n)) * 4 + 2
  | _ => (n - 1 - e % n) * n * 4 + 3
def sm_wy (on : Nat → Bool) (t : Nat) : Nat := sm_way on (t - t % 4) t 4
def sm_fc {α : Type} (m : Nat) (f : Nat → α) : α :=
  match m with
  | 0 => f 0
  | m + 1 => f (m + 1)
theorem sm_fc_eq {α : Type} (m : Nat) (f : Nat → α) : sm_fc m f = f m := by
  cases m <;> rfl
def sm_end (on : Nat → Bool) (n : Nat) : Nat → Nat → Nat
  | 0, _ => 0
  | f + 1, t => sm_fc (sm_wy on t) (fun o =>
    match sm_out n o with
    | 0 => sm_end on n f (sm_acr n o)
    | e + 1 => e + 1)
/-- Y's walk from port t with the mask m of places passed: the end, and the mask behind it -/
def sm_fol (on : Nat → Bool) (n start : Nat) : Nat → Nat → Nat → Nat × Nat
  | 0, _, m => (0, m)
  | f + 1, t, m => sm_fc (sm_wy on t) (fun o =>
    match sm_out n o with
    | 0 => bif Nat.beq (sm_acr n o / 4) start then (0, m ||| 2 ^ (t / 4)) else sm_fol on n start f (sm_acr n o) (m ||| 2 ^ (t / 4))
    | e + 1 => (e + 1, m ||| 2 ^ (t / 4)))
/-- the mask of the places passed from the k outer edges from e on -/
def sm_rm (on : Nat → Bool) (n : Nat) : Nat → Nat → Nat → Nat
  | 0, _, m => m
  | k + 1, e, m => bif on (sm_op n e) then sm_rm on n k (e + 1) (sm_fol on n (sm_op n e / 4) 30 (sm_op n e) m).2 else sm_rm on n k (e + 1) m
/-- Y's count of rings: k places from d on are to be seen -/
def sm_ry (on : Nat → Bool) (n : Nat) : Nat → Nat → Nat → Nat → Nat
  | 0, _, c, _ => c
  | k + 1, d, c, m => sm_fc m (fun m => bif Nat.testBit m d then sm_ry on n k (d + 1) c m else sm_ry on n k (d + 1) (c + 1) (sm_fol on n d 30 (sm_way on (4 * d) (4 * d + 4) 4) m).2)
def sm_fr (on : Nat → Bool) (n d : Nat) : Nat → Nat → Bool
  | 0, _ => false
  | f + 1, t => sm_fc (sm_wy on t) (fun o =>
    match sm_out n o with
    | 0 => bif Nat.ble (sm_acr n o / 4 + 1) d then false else bif Nat.beq (sm_acr n o / 4) d then true else sm_fr on n d f (sm_acr n o)
    | _ + 1 => false)
def sm_f0 (on : Nat → Bool) (d : Nat) : Nat := bif on (d * 4) then d * 4 else sm_wy on (d * 4)
def sm_rx (on : Nat → Bool) (n : Nat) : Nat → Nat
  | 0 => 0
  | d + 1 => bif sm_fr on n d (n * n) (sm_f0 on d) then sm_rx on n d + 1 else sm_rx on n d
def sm_all (P : Nat → Bool) : Nat → Bool
  | 0 => true
  | k + 1 => P k && sm_all P k
theorem sm_all_lt {P : Nat → Bool} : ∀ {k : Nat}, sm_all P k = true → ∀ i, i < k → P i = true
  | 0, _, i, hi => absurd hi (by omega)
  | k + 1, h, i, hi => by
    rw [sm_all, Bool.and_eq_true] at h
    by_cases e : i = k
    · subst e
      exact h.1
    · exact sm_all_lt h.2 i (by omega)
def sm_mk (f : Nat → Bool) : Nat → Nat
  | 0 => 0
  | t + 1 => sm_mk f t + (bif f t then 2 ^ t else 0)
def sm_cd : List Nat → Nat
  | [] => 0
  | e :: w => e + 4 * sm_cd w
def sm_dc (a code q : Nat) : Nat := Nat.land (Nat.shiftRight code (2 * (a - 1 - q))) 3
def sm_chkM (n a : Nat) (dg : Nat → Nat) (m : Nat) : Bool :=
  sm_all (fun t => (Nat.testBit m t == sm_onX n dg t) && (Nat.testBit m t == sm_onY n dg (t / 4 / n) (t / 4 % n) (t % 4))) (4 * a) &&
  (sm_all (fun e => bif Nat.testBit m (sm_op n e) then Nat.beq (sm_end (Nat.testBit m) n a (sm_op n e)) (sm_fol (Nat.testBit m) n (sm_op n e / 4) 30 (sm_op n e) 0).1 && Nat.ble (sm_end (Nat.testBit m) n a (sm_op n e)) (4 * n) else true) (4 * n) &&
  (Nat.beq (sm_rx (Nat.testBit m) n a) (sm_ry (Nat.testBit m) n a 0 0 (sm_rm (Nat.testBit m) n (4 * n) 0 0)) &&
  sm_all (fun d => Nat.testBit m (4 * d) || Nat.testBit m (4 * d + 1) || Nat.testBit m (4 * d + 2) || Nat.testBit m (4 * d + 3)) a))
def sm_chkD (n a : Nat) (v : List Nat) (code : Nat) : Bool :=
  sm_all (fun q => Nat.beq (sm_dc a code q) (sm_get v (a - 1 - q))) a && sm_fc (sm_mk (sm_onX n (sm_dc a code)) (4 * a)) (sm_chkM n a (sm_dc a code))
def sm_chk (n a : Nat) (v : List Nat) : Bool := sm_fc (sm_cd v) (sm_chkD n a v)
theorem sm_st1 : Nat.ble (sm_st (sm_ok 1) 1 0 []) 1000000 = true := by decide +kernel
theorem sm_st2 : Nat.ble (sm_st (sm_ok 2) 4 0 []) 1000000 = true := by decide +kernel
theorem sm_st3 : Nat.ble (sm_st (sm_ok 3) 9 0 []) 1000000 = true := by decide +kernel
theorem sm_st4 : Nat.ble (sm_st (sm_ok 4) 16 0 []) 1000000 = true := by decide +kernel
theorem sm_st5 : Nat.ble (sm_st (sm_ok 5) 25 0 []) 1000000 = true := by decide +kernel
theorem sm_ln1 : Nat.ble (sm_gen (sm_ok 1) 1 0 []).length 429 = true := by decide +kernel
theorem sm_ln2 : Nat.ble (sm_gen (sm_ok 2) 4 0 []).length 429 = true := by decide +kernel
theorem sm_ln3 : Nat.ble (sm_gen (sm_ok 3) 9 0 []).length 429 = true := by decide +kernel
theorem sm_ln4 : Nat.ble (sm_gen (sm_ok 4) 16 0 []).length 429 = true := by decide +kernel
theorem sm_ln5 : Nat.ble (sm_gen (sm_ok 5) 25 0 []).length 429 = true := by decide +kernel
theorem sm_ck1 : (sm_gen (sm_ok 1) 1 0 []).all (sm_chk 1 1) = true := by decide +kernel
theorem sm_ck2 : (sm_gen (sm_ok 2) 4 0 []).all (sm_chk 2 4) = true := by decide +kernel
theorem sm_ck3 : (sm_gen (sm_ok 3) 9 0 []).all (sm_chk 3 9) = true := by decide +kernel
theorem sm_ck4 : (sm_gen (sm_ok 4) 16 0 []).all (sm_chk 4 16) = true := by decide +kernel
