/-! what all sizes give -/
/-- all good squares of a size, in their order -/
def sm_G (n : Nat) : List (List Nat) := sm_gen (sm_ok n) (n * n) 0 []
theorem sm_15 {n : Nat} {P : Nat → Prop} (h1 : 1 ≤ n) (h5 : n ≤ 5) (p1 : P 1) (p2 : P 2) (p3 : P 3) (p4 : P 4) (p5 : P 5) : P n := by
  rcases (by omega : n = 1 ∨ n = 2 ∨ n = 3 ∨ n = 4 ∨ n = 5) with rfl | rfl | rfl | rfl | rfl
  · exact p1
  · exact p2
  · exact p3
  · exact p4
  · exact p5
theorem sm_stT {n : Nat} (h1 : 1 ≤ n) (h5 : n ≤ 5) : sm_st (sm_ok n) (n * n) 0 [] ≤ 1000000 :=
  sm_15 (P := fun n => sm_st (sm_ok n) (n * n) 0 [] ≤ 1000000) h1 h5 (Nat.le_of_ble_eq_true sm_st1) (Nat.le_of_ble_eq_true sm_st2) (Nat.le_of_ble_eq_true sm_st3) (Nat.le_of_ble_eq_true sm_st4) (Nat.le_of_ble_eq_true sm_st5)
theorem sm_lnT {n : Nat} (h1 : 1 ≤ n) (h5 : n ≤ 5) : (sm_G n).length ≤ 429 :=
  sm_15 (P := fun n => (sm_G n).length ≤ 429) h1 h5 (Nat.le_of_ble_eq_true sm_ln1) (Nat.le_of_ble_eq_true sm_ln2) (Nat.le_of_ble_eq_true sm_ln3) (Nat.le_of_ble_eq_true sm_ln4) (Nat.le_of_ble_eq_true sm_ln5)
theorem sm_ckT {n : Nat} (h1 : 1 ≤ n) (h5 : n ≤ 5) : (sm_G n).all (sm_chk n (n * n)) = true :=
  sm_15 (P := fun n => (sm_G n).all (sm_chk n (n * n)) = true) h1 h5 sm_ck1 sm_ck2 sm_ck3 sm_ck4 sm_ck5
theorem sm_G_len {n : Nat} {v : List Nat} (h : v ∈ sm_G n) : v.length = n * n := by
  have := (sm_gen_mem (p := 0) (w := []) rfl h).1
  omega
theorem sm_G_wd {n : Nat} {v : List Nat} (h : v ∈ sm_G n) : sm_wd v := (sm_gen_mem (p := 0) (w := []) rfl h).2.2 sm_wd_nil
/-- what is known of the paths of a good square -/
def sm_Path (n : Nat) (dg : Nat → Nat) (on : Nat → Bool) : Prop :=
  (∀ t, t < 4 * (n * n) → on t = sm_onX n dg t ∧ on t = sm_onY n dg (t / 4 / n) (t / 4 % n) (t % 4)) ∧
  (∀ e, e < 4 * n → on (sm_op n e) = true → sm_end on n (n * n) (sm_op n e) = (sm_fol on n (sm_op n e / 4) 30 (sm_op n e) 0).1 ∧ sm_end on n (n * n) (sm_op n e) ≤ 4 * n) ∧
  sm_rx on n (n * n) = sm_ry on n (n * n) 0 0 (sm_rm on n (4 * n) 0 0) ∧
  (∀ d, d < n * n → on (4 * d) = true ∨ on (4 * d + 1) = true ∨ on (4 * d + 2) = true ∨ on (4 * d + 3) = true)
/-- the digits of a word by its code, and the edges that are on by their mask -/
def sm_pdg (n : Nat) (v : List Nat) : Nat → Nat := sm_dc (n * n) (sm_cd v)
def sm_pon (n : Nat) (v : List Nat) : Nat → Bool := Nat.testBit (sm_mk (sm_onX n (sm_pdg n v)) (4 * (n * n)))
theorem sm_path {n : Nat} {v : List Nat} (h1 : 1 ≤ n) (h5 : n ≤ 5) (h : v ∈ sm_G n) : (∀ q, q < n * n → sm_pdg n v q = sm_dg v q) ∧ sm_Path n (sm_pdg n v) (sm_pon n v) := by
  unfold sm_pon sm_pdg
  have hc := List.all_eq_true.mp (sm_ckT h1 h5) v h
  rw [sm_chk, sm_fc_eq, sm_chkD, sm_fc_eq, sm_chkM, Bool.and_eq_true, Bool.and_eq_true, Bool.and_eq_true, Bool.and_eq_true] at hc
  obtain ⟨c0, c1, c2, c3, c4⟩ := hc
  refine ⟨?_, ?_, ?_, ?_, ?_⟩
  · intro q hq
    have := sm_all_lt c0 q hq
    rw [Nat.beq_eq] at this
    rw [this]
    unfold sm_dg
    rw [sm_G_len h]
  · intro t ht
    have := sm_all_lt c1 t ht
    rw [Bool.and_eq_true, beq_iff_eq, beq_iff_eq] at this
    exact this
  · intro e he ho
    have := sm_all_lt c2 e he
    rw [ho] at this
    have h2 : (Nat.beq _ _ && Nat.ble _ _) = true := this
    rw [Bool.and_eq_true, Nat.beq_eq, Nat.ble_eq] at h2
    exact h2
  · rw [Nat.beq_eq] at c3
    exact c3
  · intro d hd
    have := sm_all_lt c4 d hd
    rw [Bool.or_eq_true, Bool.or_eq_true, Bool.or_eq_true] at this
    rcases this with ((a | a) | a) | a
    · exact Or.inl a
    · exact Or.inr (Or.inl a)
    · exact Or.inr (Or.inr (Or.inl a))
    · exact Or.inr (Or.inr (Or.inr a))
