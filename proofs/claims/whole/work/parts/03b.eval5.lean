/-! the paths of the 429 squares of size 5, by their first two rows -/
theorem sm_q0 : (sm_gen (sm_ok 5) 15 10 [1, 2, 1, 1, 1, 2, 1, 1, 1, 1]).all (sm_chk 5 25) = true := by decide +kernel
theorem sm_q1 : (sm_gen (sm_ok 5) 15 10 [1, 1, 2, 1, 1, 2, 1, 1, 1, 1]).all (sm_chk 5 25) = true := by decide +kernel
theorem sm_q2 : (sm_gen (sm_ok 5) 15 10 [1, 1, 1, 2, 1, 2, 1, 1, 1, 1]).all (sm_chk 5 25) = true := by decide +kernel
theorem sm_q3 : (sm_gen (sm_ok 5) 15 10 [1, 1, 1, 1, 2, 2, 1, 1, 1, 1]).all (sm_chk 5 25) = true := by decide +kernel
theorem sm_q4 : (sm_gen (sm_ok 5) 15 10 [2, 1, 1, 1, 1, 1, 2, 1, 1, 1]).all (sm_chk 5 25) = true := by decide +kernel
theorem sm_q5 : (sm_gen (sm_ok 5) 15 10 [2, 0, 2, 1, 1, 1, 2, 1, 1, 1]).all (sm_chk 5 25) = true := by decide +kernel
theorem sm_q6 : (sm_gen (sm_ok 5) 15 10 [1, 1, 2, 1, 1, 1, 2, 1, 1, 1]).all (sm_chk 5 25) = true := by decide +kernel
theorem sm_q7 : (sm_gen (sm_ok 5) 15 10 [2, 0, 1, 2, 1, 1, 2, 1, 1, 1]).all (sm_chk 5 25) = true := by decide +kernel
theorem sm_q8 : (sm_gen (sm_ok 5) 15 10 [1, 1, 1, 2, 1, 1, 2, 1, 1, 1]).all (sm_chk 5 25) = true := by decide +kernel
theorem sm_q9 : (sm_gen (sm_ok 5) 15 10 [2, 0, 1, 1, 2, 1, 2, 1, 1, 1]).all (sm_chk 5 25) = true := by decide +kernel
theorem sm_q10 : (sm_gen (sm_ok 5) 15 10 [1, 1, 1, 1, 2, 1, 2, 1, 1, 1]).all (sm_chk 5 25) = true := by decide +kernel
theorem sm_q11 : (sm_gen (sm_ok 5) 15 10 [2, 1, 1, 1, 1, 1, 1, 2, 1, 1]).all (sm_chk 5 25) = true := by decide +kernel
theorem sm_q12 : (sm_gen (sm_ok 5) 15 10 [1, 2, 1, 1, 1, 1, 1, 2, 1, 1]).all (sm_chk 5 25) = true := by decide +kernel
theorem sm_q13 : (sm_gen (sm_ok 5) 15 10 [2, 1, 0, 2, 1, 1, 1, 2, 1, 1]).all (sm_chk 5 25) = true := by decide +kernel
theorem sm_q14 : (sm_gen (sm_ok 5) 15 10 [1, 2, 0, 2, 1, 1, 1, 2, 1, 1]).all (sm_chk 5 25) = true := by decide +kernel
theorem sm_q15 : (sm_gen (sm_ok 5) 15 10 [1, 1, 1, 2, 1, 1, 1, 2, 1, 1]).all (sm_chk 5 25) = true := by decide +kernel
theorem sm_q16 : (sm_gen (sm_ok 5) 15 10 [2, 1, 0, 1, 2, 1, 1, 2, 1, 1]).all (sm_chk 5 25) = true := by decide +kernel
theorem sm_q17 : (sm_gen (sm_ok 5) 15 10 [1, 2, 0, 1, 2, 1, 1, 2, 1, 1]).all (sm_chk 5 25) = true := by decide +kernel
theorem sm_q18 : (sm_gen (sm_ok 5) 15 10 [1, 1, 1, 1, 2, 1, 1, 2, 1, 1]).all (sm_chk 5 25) = true := by decide +kernel
theorem sm_q19 : (sm_gen (sm_ok 5) 15 10 [2, 1, 1, 1, 1, 1, 1, 1, 2, 1]).all (sm_chk 5 25) = true := by decide +kernel
theorem sm_q20 : (sm_gen (sm_ok 5) 15 10 [1, 2, 1, 1, 1, 1, 1, 1, 2, 1]).all (sm_chk 5 25) = true := by decide +kernel
theorem sm_q21 : (sm_gen (sm_ok 5) 15 10 [1, 1, 2, 1, 1, 1, 1, 1, 2, 1]).all (sm_chk 5 25) = true := by decide +kernel
theorem sm_q22 : (sm_gen (sm_ok 5) 15 10 [2, 1, 1, 0, 2, 1, 1, 1, 2, 1]).all (sm_chk 5 25) = true := by decide +kernel
theorem sm_q23 : (sm_gen (sm_ok 5) 15 10 [1, 2, 1, 0, 2, 1, 1, 1, 2, 1]).all (sm_chk 5 25) = true := by decide +kernel
theorem sm_q24 : (sm_gen (sm_ok 5) 15 10 [1, 1, 2, 0, 2, 1, 1, 1, 2, 1]).all (sm_chk 5 25) = true := by decide +kernel
theorem sm_q25 : (sm_gen (sm_ok 5) 15 10 [1, 1, 1, 1, 2, 1, 1, 1, 2, 1]).all (sm_chk 5 25) = true := by decide +kernel
theorem sm_q26 : (sm_gen (sm_ok 5) 15 10 [2, 1, 1, 1, 1, 1, 1, 1, 1, 2]).all (sm_chk 5 25) = true := by decide +kernel
theorem sm_q27 : (sm_gen (sm_ok 5) 15 10 [1, 2, 1, 1, 1, 1, 1, 1, 1, 2]).all (sm_chk 5 25) = true := by decide +kernel
theorem sm_q28 : (sm_gen (sm_ok 5) 15 10 [1, 1, 2, 1, 1, 1, 1, 1, 1, 2]).all (sm_chk 5 25) = true := by decide +kernel
theorem sm_q29 : (sm_gen (sm_ok 5) 15 10 [1, 1, 1, 2, 1, 1, 1, 1, 1, 2]).all (sm_chk 5 25) = true := by decide +kernel
theorem sm_p10 : sm_gen (sm_ok 5) 10 0 [] = [[1, 2, 1, 1, 1, 2, 1, 1, 1, 1], [1, 1, 2, 1, 1, 2, 1, 1, 1, 1], [1, 1, 1, 2, 1, 2, 1, 1, 1, 1], [1, 1, 1, 1, 2, 2, 1, 1, 1, 1], [2, 1, 1, 1, 1, 1, 2, 1, 1, 1], [2, 0, 2, 1, 1, 1, 2, 1, 1, 1], [1, 1, 2, 1, 1, 1, 2, 1, 1, 1], [2, 0, 1, 2, 1, 1, 2, 1, 1, 1], [1, 1, 1, 2, 1, 1, 2, 1, 1, 1], [2, 0, 1, 1, 2, 1, 2, 1, 1, 1], [1, 1, 1, 1, 2, 1, 2, 1, 1, 1], [2, 1, 1, 1, 1, 1, 1, 2, 1, 1], [1, 2, 1, 1, 1, 1, 1, 2, 1, 1], [2, 1, 0, 2, 1, 1, 1, 2, 1, 1], [1, 2, 0, 2, 1, 1, 1, 2, 1, 1], [1, 1, 1, 2, 1, 1, 1, 2, 1, 1], [2, 1, 0, 1, 2, 1, 1, 2, 1, 1], [1, 2, 0, 1, 2, 1, 1, 2, 1, 1], [1, 1, 1, 1, 2, 1, 1, 2, 1, 1], [2, 1, 1, 1, 1, 1, 1, 1, 2, 1], [1, 2, 1, 1, 1, 1, 1, 1, 2, 1], [1, 1, 2, 1, 1, 1, 1, 1, 2, 1], [2, 1, 1, 0, 2, 1, 1, 1, 2, 1], [1, 2, 1, 0, 2, 1, 1, 1, 2, 1], [1, 1, 2, 0, 2, 1, 1, 1, 2, 1], [1, 1, 1, 1, 2, 1, 1, 1, 2, 1], [2, 1, 1, 1, 1, 1, 1, 1, 1, 2], [1, 2, 1, 1, 1, 1, 1, 1, 1, 2], [1, 1, 2, 1, 1, 1, 1, 1, 1, 2], [1, 1, 1, 2, 1, 1, 1, 1, 1, 2]] := by decide +kernel
theorem sm_kids_all {ok : Nat → List Nat → Bool} {g g' : List Nat → List (List Nat)} {P Q : List Nat → Bool} {p : Nat} {w : List Nat} (h : ∀ v, (g v).all P = (g' v).all Q) : ∀ j, (sm_kids ok g p w j).all P = (sm_kids ok g' p w j).all Q
  | 0 => rfl
  | j + 1 => by
    rw [sm_kids, sm_kids, List.all_append, List.all_append, sm_kids_all h j]
    congr 1
    cases ok p ((2 - j) :: w) with
    | false => rfl
    | true => exact h _
theorem sm_gen_split (ok : Nat → List Nat → Bool) (P : List Nat → Bool) (k : Nat) : ∀ (m p : Nat) (w : List Nat), (sm_gen ok (m + k) p w).all P = (sm_gen ok m p w).all (fun u => (sm_gen ok k (p + m) u).all P)
  | 0, p, w => by
    rw [Nat.zero_add, sm_gen, List.all_cons, List.all_nil, Bool.and_true]
    rfl
  | m + 1, p, w => by
    rw [show m + 1 + k = (m + k) + 1 by omega, sm_gen, sm_gen]
    apply sm_kids_all
    intro v
    rw [sm_gen_split ok P k m (p + 1) v, show p + 1 + m = p + (m + 1) by omega]
theorem sm_allc {α : Type} {P : α → Bool} {a : α} {l : List α} (h : P a = true) (t : l.all P = true) : (a :: l).all P = true := by
  rw [List.all_cons, h, t]
  rfl
theorem sm_ck5 : (sm_gen (sm_ok 5) 25 0 []).all (sm_chk 5 25) = true := by
  refine Eq.trans (sm_gen_split (sm_ok 5) (sm_chk 5 25) 15 10 0 []) ?_
  rw [sm_p10]
  exact sm_allc sm_q0 (sm_allc sm_q1 (sm_allc sm_q2 (sm_allc sm_q3 (sm_allc sm_q4 (sm_allc sm_q5 (sm_allc sm_q6 (sm_allc sm_q7 (sm_allc sm_q8 (sm_allc sm_q9 (sm_allc sm_q10 (sm_allc sm_q11 (sm_allc sm_q12 (sm_allc sm_q13 (sm_allc sm_q14 (sm_allc sm_q15 (sm_allc sm_q16 (sm_allc sm_q17 (sm_allc sm_q18 (sm_allc sm_q19 (sm_allc sm_q20 (sm_allc sm_q21 (sm_allc sm_q22 (sm_allc sm_q23 (sm_allc sm_q24 (sm_allc sm_q25 (sm_allc sm_q26 (sm_allc sm_q27 (sm_allc sm_q28 (sm_allc sm_q29 rfl)))))))))))))))))))))))))))))
