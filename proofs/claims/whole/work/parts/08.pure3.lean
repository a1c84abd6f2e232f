/-! the fitting squares, and arrays that hold a word -/
theorem sm_bit (x : Int32) : x &&& 1 = 0 ∨ x &&& 1 = 1 := by
  rw [pk_and x 1 (by decide)]
  rcases Nat.mod_two_eq_zero_or_one x.toBitVec.toNat with h | h
  · exact Or.inl (by rw [show (2 : Nat) ^ 1 = 2 from rfl, h]; rfl)
  · exact Or.inr (by rw [show (2 : Nat) ^ 1 = 2 from rfl, h]; rfl)
theorem sm_bit_n {x : Int32} : ¬ x &&& 1 = 1 ↔ x &&& 1 = 0 := by
  constructor
  · intro h
    rcases sm_bit x with a | a
    · exact a
    · exact absurd a h
  · intro h a
    rw [h] at a
    exact sm_10 a
/-- digit d is allowed at place q -/
def sm_al (A : Nat → Int32) (q d : Nat) : Bool := decide ((A q >>> (nI d &&& 31)) &&& 1 = 1)
theorem sm_al_t {A : Nat → Int32} {q d : Nat} : sm_al A q d = true ↔ (A q >>> (nI d &&& 31)) &&& 1 = 1 := decide_eq_true_iff
theorem sm_al_f {A : Nat → Int32} {q d : Nat} : sm_al A q d = false ↔ (A q >>> (nI d &&& 31)) &&& 1 = 0 := by
  rw [← sm_bit_n]
  exact decide_eq_false_iff_not
def sm_F (n : Nat) (A : Nat → Int32) : List (List Nat) := (sm_G n).filter (sm_fit (sm_al A) (n * n) 0)
def sm_okA (n : Nat) (A : Nat → Int32) (p : Nat) (v : List Nat) : Bool :=
  match v with
  | d :: w => sm_ok n p (d :: w) && sm_al A p d
  | [] => false
theorem sm_F_gen (n : Nat) (A : Nat → Int32) : sm_gen (sm_okA n A) (n * n) 0 [] = sm_F n A :=
  sm_gen_fit (sm_ok n) (sm_al A) (sm_okA n A) (fun _ _ _ => rfl) (n * n) (n * n) 0 [] rfl (by omega)
theorem sm_F_G {n : Nat} {A : Nat → Int32} {v : List Nat} (h : v ∈ sm_F n A) : v ∈ sm_G n := (List.mem_filter.mp h).1
theorem sm_F_len {n : Nat} {A : Nat → Int32} (h1 : 1 ≤ n) (h5 : n ≤ 5) : (sm_F n A).length ≤ 429 :=
  Nat.le_trans (List.length_filter_le _ _) (sm_lnT h1 h5)
/-- the array f holds the word v, place q at cell pl q -/
def sm_ag (pl : Nat → Nat) (f : Nat → Int32) (v : List Nat) : Prop := ∀ q, q < v.length → f (pl q) = sm_e (sm_dg v q)
def sm_inj (pl : Nat → Nat) (all : Nat) : Prop := ∀ p q, p < all → q < all → pl p = pl q → p = q
theorem sm_inj_id (all : Nat) : sm_inj (fun q => q) all := fun _ _ _ _ h => h
theorem sm_inj_pl {n : Nat} (hn : n ≤ 5) : sm_inj (sm_pl n) (n * n) := fun _ _ hp hq h => sm_pl_inj hn hp hq h
theorem sm_ag_nil {pl : Nat → Nat} {f : Nat → Int32} : sm_ag pl f [] := fun _ h => absurd h (Nat.not_lt_zero _)
theorem sm_ag_push {pl : Nat → Nat} {all : Nat} (hi : sm_inj pl all) {f : Nat → Int32} {w : List Nat} {d : Nat} (hl : w.length < all) (h : sm_ag pl f w) : sm_ag pl (upd f (pl w.length) (sm_e d)) (d :: w) := by
  intro q hq
  rw [List.length_cons] at hq
  by_cases e : q = w.length
  · subst e
    rw [pk_us, sm_dg_top]
  · rw [pk_un (fun z => e (hi _ _ (by omega) hl z)), sm_dg_low d w (by omega)]
    exact h q (by omega)
theorem sm_ag_set {pl : Nat → Nat} {all : Nat} (hi : sm_inj pl all) {f : Nat → Int32} {w : List Nat} {p : Nat} {x : Int32} (hl : w.length ≤ p) (hp : p < all) (h : sm_ag pl f w) : sm_ag pl (upd f (pl p) x) w := by
  intro q hq
  rw [pk_un (fun z => absurd (hi _ _ (by omega) hp z) (by omega))]
  exact h q hq
theorem sm_ag_tail {pl : Nat → Nat} {f : Nat → Int32} {w : List Nat} {e : Nat} (h : sm_ag pl f (e :: w)) : sm_ag pl f w := by
  intro q hq
  rw [h q (by rw [List.length_cons]; omega), sm_dg_low e w hq]
theorem sm_ag_head {pl : Nat → Nat} {f : Nat → Int32} {w : List Nat} {e : Nat} (h : sm_ag pl f (e :: w)) : f (pl w.length) = sm_e e := by
  rw [h w.length (by rw [List.length_cons]; omega), sm_dg_top]
/-! the two sums that end at the last place of a word -/
theorem sm_okl_I {n c R : Nat} (hn : n ≤ 5) (hc : c < n) (hR : R ≤ 2 * (c + 1)) : sm_okl n c R = true ↔ sm_okI n c (nI R - nI (c + 1)) := by
  rw [sm_okl_iff]
  unfold sm_okI
  rw [sm_1 (by omega) (by omega), sm_z (by omega) (by omega)]
  constructor <;> rintro (h | h) <;> omega
def sm_lineR (v : List Nat) (n r c : Nat) : Nat := sm_ns (fun j => sm_dg v (r * n + j)) (c + 1)
def sm_lineC (v : List Nat) (n r c : Nat) : Nat := sm_ns (fun i => sm_dg v (c + i * n)) (r + 1)
theorem sm_lineR_le {v : List Nat} (h : sm_wd v) {n r c : Nat} : sm_lineR v n r c ≤ 2 * (c + 1) := sm_ns_le (fun _ _ => sm_dg_le h)
theorem sm_lineC_le {v : List Nat} (h : sm_wd v) {n r c : Nat} : sm_lineC v n r c ≤ 2 * (r + 1) := sm_ns_le (fun _ _ => sm_dg_le h)
theorem sm_R_line {pl : Nat → Nat} {f : Nat → Int32} {v : List Nat} {n r c : Nat} (h : sm_ag pl f v) (hl : r * n + c < v.length) :
    sm_sum (fun j => f (pl (r * n + j))) (c + 1) = nI (sm_lineR v n r c) - nI (c + 1) := by
  unfold sm_lineR
  rw [← sm_sum_e]
  apply sm_sum_congr
  intro j hj
  exact h _ (by omega)
theorem sm_C_line {pl : Nat → Nat} {f : Nat → Int32} {v : List Nat} {n r c : Nat} (h : sm_ag pl f v) (hl : r * n + c < v.length) :
    sm_sum (fun i => f (pl (c + i * n))) (r + 1) = nI (sm_lineC v n r c) - nI (r + 1) := by
  unfold sm_lineC
  rw [← sm_sum_e]
  apply sm_sum_congr
  intro i hi
  have : i * n ≤ r * n := Nat.mul_le_mul_right n (by omega)
  exact h _ (by omega)
/-- the test of a place, by the sums that the programs make -/
theorem sm_ok_I {pl : Nat → Nat} {f : Nat → Int32} {v : List Nat} {n r c : Nat} (hn : n ≤ 5) (hr : r < n) (hc : c < n) (hw : sm_wd v) (h : sm_ag pl f v) (hl : v.length = r * n + c + 1) :
    sm_ok n (r * n + c) v = true ↔ sm_okI n c (sm_sum (fun j => f (pl (r * n + j))) (c + 1)) ∧ sm_okI n r (sm_sum (fun i => f (pl (c + i * n))) (r + 1)) := by
  rw [sm_R_line h (by omega), sm_C_line h (by omega), ← sm_okl_I hn hc (sm_lineR_le hw), ← sm_okl_I hn hr (sm_lineC_le hw), sm_ok_dg hl, Bool.and_eq_true, sm_rd hc, sm_rmd hc]
  rfl
