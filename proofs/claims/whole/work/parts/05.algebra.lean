/-! sums over the 5 by 5 places of Y against X's sums over n by n -/
theorem sm_sum_zero {g : Nat → Int32} : ∀ {m : Nat}, (∀ i, i < m → g i = 0) → sm_sum g m = 0
  | 0, _ => rfl
  | m + 1, H => by
    show sm_sum g m + g m = 0
    rw [sm_sum_zero (fun i hi => H i (by omega)), H m (by omega)]
    rfl
theorem sm_sum_five (g : Nat → Int32) : ∀ a : Nat, sm_sum g (5 * a) = sm_sum (fun i => sm_sum (fun j => g (5 * i + j)) 5) a
  | 0 => rfl
  | a + 1 => by
    show sm_sum g (5 * a) + g (5 * a) + g (5 * a + 1) + g (5 * a + 2) + g (5 * a + 3) + g (5 * a + 4) = sm_sum (fun i => sm_sum (fun j => g (5 * i + j)) 5) a + (0 + g (5 * a + 0) + g (5 * a + 1) + g (5 * a + 2) + g (5 * a + 3) + g (5 * a + 4))
    rw [sm_sum_five g a, Int32.zero_add]
    simp only [Int32.add_assoc]
    rfl
theorem sm_sum_if {g : Nat → Int32} {b : Nat} : ∀ {m : Nat}, b ≤ m → sm_sum (fun j => if j < b then g j else 0) m = sm_sum g b
  | 0, h => by
    rw [show b = 0 by omega]
    rfl
  | m + 1, h => by
    by_cases e : b ≤ m
    · show sm_sum (fun j => if j < b then g j else 0) m + (if m < b then g m else 0) = sm_sum g b
      rw [sm_sum_if e, if_neg (by omega), Int32.add_zero]
    · rw [show b = m + 1 by omega]
      apply sm_sum_congr
      intro i hi
      rw [if_pos hi]
theorem sm_sum_mul (x : Int32) (g : Nat → Int32) : ∀ m : Nat, sm_sum (fun j => x * g j) m = x * sm_sum g m
  | 0 => (Int32.mul_zero).symm
  | m + 1 => by
    show sm_sum (fun j => x * g j) m + x * g m = x * (sm_sum g m + g m)
    rw [sm_sum_mul x g m, Int32.mul_add]
theorem sm_sum_from (h : Nat → Int32) (a : Nat) : ∀ m : Nat, sm_sum (fun s => if a ≤ s then h s else 0) m = sm_sum (fun t => h (a + t)) (m - a)
  | 0 => by
    rw [Nat.zero_sub]
    rfl
  | m + 1 => by
    show sm_sum (fun s => if a ≤ s then h s else 0) m + (if a ≤ m then h m else 0) = _
    rw [sm_sum_from h a m]
    by_cases e : a ≤ m
    · rw [if_pos e, show m + 1 - a = (m - a) + 1 by omega]
      show _ = sm_sum (fun t => h (a + t)) (m - a) + h (a + (m - a))
      rw [show a + (m - a) = m by omega]
    · rw [if_neg e, show m + 1 - a = m - a by omega, Int32.add_zero]
/-- the corner sum, rows of n -/
def sm_C (e : Nat → Int32) (n r c : Nat) : Int32 := sm_sum (fun i => sm_sum (fun j => e (i * n + j)) (c + 1)) (r + 1)
theorem sm_div5 {i j : Nat} (h : j < 5) : (5 * i + j) / 5 = i := by omega
theorem sm_mod5 {i j : Nat} (h : j < 5) : (5 * i + j) % 5 = j := by omega
theorem sm_corner {e f : Nat → Int32} {n r c : Nat} (hn : n ≤ 5) (hr : r < n) (hc : c < n) (hf : ∀ i j, i < n → j < n → f (5 * i + j) = e (i * n + j)) :
    sm_sum (fun p => if p / 5 ≤ r ∧ p % 5 ≤ c then f p else 0) 25 = sm_C e n r c := by
  rw [show (25 : Nat) = 5 * 5 from rfl, sm_sum_five]
  have h1 : ∀ i, i < 5 → sm_sum (fun j => if (5 * i + j) / 5 ≤ r ∧ (5 * i + j) % 5 ≤ c then f (5 * i + j) else 0) 5 = if i < r + 1 then sm_sum (fun j => e (i * n + j)) (c + 1) else 0 := by
    intro i hi
    by_cases hir : i < r + 1
    · rw [if_pos hir, ← sm_sum_if (g := fun j => e (i * n + j)) (b := c + 1) (m := 5) (by omega)]
      apply sm_sum_congr
      intro j hj
      show (if (5 * i + j) / 5 ≤ r ∧ (5 * i + j) % 5 ≤ c then f (5 * i + j) else 0) = if j < c + 1 then e (i * n + j) else 0
      rw [sm_div5 hj, sm_mod5 hj]
      by_cases hjc : j < c + 1
      · rw [if_pos hjc, if_pos ⟨by omega, by omega⟩, hf i j (by omega) (by omega)]
      · rw [if_neg hjc, if_neg (by omega)]
    · rw [if_neg hir]
      apply sm_sum_zero
      intro j hj
      show (if (5 * i + j) / 5 ≤ r ∧ (5 * i + j) % 5 ≤ c then f (5 * i + j) else 0) = 0
      rw [sm_div5 hj, if_neg (by omega)]
  rw [sm_sum_congr h1, sm_sum_if (g := fun i => sm_sum (fun j => e (i * n + j)) (c + 1)) (b := r + 1) (m := 5) (by omega)]
  rfl
/-- what lies below and to the left -/
def sm_B (e : Nat → Int32) (n r c : Nat) : Int32 := sm_sum (fun t => sm_sum (fun d => e ((r + 1 + t) * n + d)) c) (n - (r + 1))
def sm_I (e : Nat → Int32) (n : Nat) : Int32 := sm_sum (fun r => sm_sum (fun c => e (r * n + c) * sm_B e n r c) n) n
def sm_inP (n p q : Nat) : Prop := (p / 5 < n ∧ p % 5 < n) ∧ (q / 5 < n ∧ q % 5 < n) ∧ p / 5 < q / 5 ∧ q % 5 < p % 5
theorem sm_inv_q {e f : Nat → Int32} {n i j : Nat} (hn : n ≤ 5) (hi : i < n) (hj : j < n) (hf : ∀ i j, i < n → j < n → f (5 * i + j) = e (i * n + j)) (T : Nat → Int32)
    (hT : ∀ q, (sm_inP n (5 * i + j) q → T q = f (5 * i + j) * f q) ∧ (¬ sm_inP n (5 * i + j) q → T q = 0)) :
    sm_sum T 25 = e (i * n + j) * sm_B e n i j := by
  rw [show (25 : Nat) = 5 * 5 from rfl, sm_sum_five]
  have h1 : ∀ s, s < 5 → sm_sum (fun d => T (5 * s + d)) 5 = if i + 1 ≤ s then (if s < n then e (i * n + j) * sm_sum (fun d => e (s * n + d)) j else 0) else 0 := by
    intro s hs
    by_cases a : i + 1 ≤ s ∧ s < n
    · rw [if_pos a.1, if_pos a.2, ← sm_sum_mul, ← sm_sum_if (g := fun d => e (i * n + j) * e (s * n + d)) (b := j) (m := 5) (by omega)]
      apply sm_sum_congr
      intro d hd
      show T (5 * s + d) = if d < j then e (i * n + j) * e (s * n + d) else 0
      by_cases b : d < j
      · rw [if_pos b, (hT _).1, hf i j hi hj, hf s d (by omega) (by omega)]
        unfold sm_inP
        rw [sm_div5 (by omega), sm_mod5 (by omega), sm_div5 hd, sm_mod5 hd]
        omega
      · rw [if_neg b, (hT _).2]
        unfold sm_inP
        rw [sm_div5 (by omega), sm_mod5 (by omega), sm_div5 hd, sm_mod5 hd]
        omega
    · have : (if i + 1 ≤ s then (if s < n then e (i * n + j) * sm_sum (fun d => e (s * n + d)) j else 0) else 0) = 0 := by
        by_cases b : i + 1 ≤ s
        · rw [if_pos b, if_neg (by omega)]
        · rw [if_neg b]
      rw [this]
      apply sm_sum_zero
      intro d hd
      show T (5 * s + d) = 0
      apply (hT _).2
      unfold sm_inP
      rw [sm_div5 (by omega), sm_mod5 (by omega), sm_div5 hd, sm_mod5 hd]
      omega
  rw [sm_sum_congr h1, sm_sum_from (fun s => if s < n then e (i * n + j) * sm_sum (fun d => e (s * n + d)) j else 0) (i + 1) 5]
  unfold sm_B
  rw [← sm_sum_mul, ← sm_sum_if (g := fun t => e (i * n + j) * sm_sum (fun d => e ((i + 1 + t) * n + d)) j) (b := n - (i + 1)) (m := 5 - (i + 1)) (by omega)]
  apply sm_sum_congr
  intro t ht
  show (if i + 1 + t < n then e (i * n + j) * sm_sum (fun d => e ((i + 1 + t) * n + d)) j else 0) = if t < n - (i + 1) then e (i * n + j) * sm_sum (fun d => e ((i + 1 + t) * n + d)) j else 0
  by_cases b : t < n - (i + 1)
  · rw [if_pos b, if_pos (by omega)]
  · rw [if_neg b, if_neg (by omega)]
theorem sm_inv {e f : Nat → Int32} {n : Nat} (hn : n ≤ 5) (hf : ∀ i j, i < n → j < n → f (5 * i + j) = e (i * n + j)) (T : Nat → Nat → Int32)
    (hT : ∀ p q, (sm_inP n p q → T p q = f p * f q) ∧ (¬ sm_inP n p q → T p q = 0)) :
    sm_sum (fun p => sm_sum (T p) 25) 25 = sm_I e n := by
  rw [show sm_sum (fun p => sm_sum (T p) 25) 25 = sm_sum (fun p => sm_sum (T p) 25) (5 * 5) from rfl, sm_sum_five]
  have h1 : ∀ i, i < 5 → sm_sum (fun j => sm_sum (T (5 * i + j)) 25) 5 = if i < n then sm_sum (fun c => e (i * n + c) * sm_B e n i c) n else 0 := by
    intro i hi
    by_cases a : i < n
    · rw [if_pos a, ← sm_sum_if (g := fun c => e (i * n + c) * sm_B e n i c) (b := n) (m := 5) hn]
      apply sm_sum_congr
      intro j hj
      show sm_sum (T (5 * i + j)) 25 = if j < n then e (i * n + j) * sm_B e n i j else 0
      by_cases b : j < n
      · rw [if_pos b]
        exact sm_inv_q hn a b hf (T (5 * i + j)) (hT (5 * i + j))
      · rw [if_neg b]
        apply sm_sum_zero
        intro q _
        apply (hT _ _).2
        unfold sm_inP
        rw [sm_div5 hj, sm_mod5 hj]
        omega
    · rw [if_neg a]
      apply sm_sum_zero
      intro j hj
      apply sm_sum_zero
      intro q _
      apply (hT _ _).2
      unfold sm_inP
      rw [sm_div5 hj, sm_mod5 hj]
      omega
  rw [sm_sum_congr h1, sm_sum_if (g := fun i => sm_sum (fun c => e (i * n + c) * sm_B e n i c) n) (b := n) (m := 5) hn]
  rfl
/-! a square is known by its corner sums -/
def sm_up (D : Nat → Nat → Int32) (r c : Nat) : Int32 := if 1 ≤ r then D (r - 1) c else 0
def sm_df (D : Nat → Nat → Int32) (r c : Nat) : Int32 := D r c - sm_up D r c - (if 1 ≤ c then D r (c - 1) else 0) + (if 1 ≤ c then sm_up D r (c - 1) else 0)
theorem sm_row {e : Nat → Int32} {n : Nat} {D : Nat → Nat → Int32} {r : Nat} (h : ∀ c, c < n → e (r * n + c) = sm_df D r c) :
    ∀ c, c < n → sm_sum (fun j => e (r * n + j)) (c + 1) = D r c - sm_up D r c
  | 0, hc => by
    show 0 + e (r * n + 0) = _
    rw [h 0 hc]
    unfold sm_df
    rw [if_neg (by omega), if_neg (by omega)]
    grind
  | c + 1, hc => by
    show sm_sum (fun j => e (r * n + j)) (c + 1) + e (r * n + (c + 1)) = _
    rw [sm_row h c (by omega), h (c + 1) hc]
    unfold sm_df
    rw [if_pos (by omega), if_pos (by omega), Nat.add_sub_cancel]
    grind
theorem sm_C_of {e : Nat → Int32} {n : Nat} {D : Nat → Nat → Int32} (h : ∀ r c, r < n → c < n → e (r * n + c) = sm_df D r c) :
    ∀ r c, r < n → c < n → sm_C e n r c = D r c
  | 0, c, hr, hc => by
    show 0 + sm_sum (fun j => e (0 * n + j)) (c + 1) = _
    rw [sm_row (h 0 · hr) c hc]
    unfold sm_up
    rw [if_neg (by omega)]
    grind
  | r + 1, c, hr, hc => by
    show sm_C e n r c + sm_sum (fun j => e ((r + 1) * n + j)) (c + 1) = _
    rw [sm_C_of h r c (by omega) hc, sm_row (h (r + 1) · hr) c hc]
    unfold sm_up
    rw [if_pos (by omega), Nat.add_sub_cancel]
    grind
theorem sm_of_C {e : Nat → Int32} {n : Nat} {D : Nat → Nat → Int32} (h : ∀ r c, r < n → c < n → sm_C e n r c = D r c) {r c : Nat} (hr : r < n) (hc : c < n) :
    e (r * n + c) = sm_df D r c := by
  have row : ∀ c, c < n → sm_sum (fun j => e (r * n + j)) (c + 1) = D r c - sm_up D r c := by
    intro c hc
    have a := h r c hr hc
    unfold sm_up
    cases r with
    | zero =>
      have b : (0 : Int32) + sm_sum (fun j => e (0 * n + j)) (c + 1) = D 0 c := a
      rw [if_neg (by omega), ← b]
      grind
    | succ r =>
      have b : sm_C e n r c + sm_sum (fun j => e ((r + 1) * n + j)) (c + 1) = D (r + 1) c := a
      rw [if_pos (by omega), Nat.add_sub_cancel, ← b, h r c (by omega) hc]
      grind
  have a := row c hc
  unfold sm_df
  cases c with
  | zero =>
    have b : (0 : Int32) + e (r * n + 0) = D r 0 - sm_up D r 0 := a
    rw [if_neg (by omega), if_neg (by omega), ← b]
    grind
  | succ c =>
    have b : sm_sum (fun j => e (r * n + j)) (c + 1) + e (r * n + (c + 1)) = D r (c + 1) - sm_up D r (c + 1) := a
    rw [row c (by omega)] at b
    rw [if_pos (by omega), if_pos (by omega), Nat.add_sub_cancel, ← b]
    grind
theorem sm_mixiff {e : Nat → Int32} {n : Nat} {D : Nat → Nat → Int32} : (∀ r c, r < n → c < n → sm_C e n r c = D r c) ↔ (∀ r c, r < n → c < n → e (r * n + c) = sm_df D r c) :=
  ⟨fun h _ _ hr hc => sm_of_C h hr hc, fun h r c hr hc => sm_C_of h r c hr hc⟩
