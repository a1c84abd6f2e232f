/-! words of digits, the head being the last place; the search tree over them -/
def sm_get : List Nat → Nat → Nat
  | [], _ => 0
  | e :: _, 0 => e
  | _ :: w, i + 1 => sm_get w i
/-- the digit at place q of a word -/
def sm_dg (w : List Nat) (q : Nat) : Nat := sm_get w (w.length - 1 - q)
theorem sm_dg_top (e : Nat) (w : List Nat) : sm_dg (e :: w) w.length = e := by
  unfold sm_dg
  rw [List.length_cons, show w.length + 1 - 1 - w.length = 0 by omega]
  rfl
theorem sm_dg_low (e : Nat) (w : List Nat) {q : Nat} (h : q < w.length) : sm_dg (e :: w) q = sm_dg w q := by
  unfold sm_dg
  rw [List.length_cons, show w.length + 1 - 1 - q = (w.length - 1 - q) + 1 by omega]
  rfl
/-- all digits are 0, 1, 2 -/
def sm_wd (w : List Nat) : Prop := ∀ e, e ∈ w → e ≤ 2
theorem sm_wd_nil : sm_wd [] := fun _ h => nomatch h
theorem sm_wd_cons {e : Nat} {w : List Nat} (he : e ≤ 2) (h : sm_wd w) : sm_wd (e :: w) := by
  intro x hx
  rcases List.mem_cons.mp hx with rfl | hx
  · exact he
  · exact h x hx
theorem sm_wd_tail {e : Nat} {w : List Nat} (h : sm_wd (e :: w)) : sm_wd w := fun x hx => h x (List.mem_cons_of_mem _ hx)
theorem sm_wd_head {e : Nat} {w : List Nat} (h : sm_wd (e :: w)) : e ≤ 2 := h e List.mem_cons_self
theorem sm_get_le : ∀ {w : List Nat} {i : Nat}, sm_wd w → sm_get w i ≤ 2
  | [], _, _ => Nat.zero_le _
  | _ :: _, 0, h => sm_wd_head h
  | _ :: w, i + 1, h => sm_get_le (w := w) (i := i) (sm_wd_tail h)
theorem sm_dg_le {w : List Nat} {q : Nat} (h : sm_wd w) : sm_dg w q ≤ 2 := sm_get_le h
def sm_kids (ok : Nat → List Nat → Bool) (g : List Nat → List (List Nat)) (p : Nat) (w : List Nat) : Nat → List (List Nat)
  | 0 => []
  | j + 1 => (bif ok p ((2 - j) :: w) then g ((2 - j) :: w) else []) ++ sm_kids ok g p w j
def sm_gen (ok : Nat → List Nat → Bool) : Nat → Nat → List Nat → List (List Nat)
  | 0, _, w => [w]
  | k + 1, p, w => sm_kids ok (fun v => sm_gen ok k (p + 1) v) p w 3
def sm_rest (ok : Nat → List Nat → Bool) : Nat → List Nat → List (List Nat)
  | _, [] => []
  | k, e :: w => sm_kids ok (fun v => sm_gen ok k (w.length + 1) v) w.length w (2 - e) ++ sm_rest ok (k + 1) w
def sm_kst (ok : Nat → List Nat → Bool) (g : List Nat → Nat) (p : Nat) (w : List Nat) : Nat → Nat
  | 0 => 1
  | j + 1 => 1 + (bif ok p ((2 - j) :: w) then g ((2 - j) :: w) else 0) + sm_kst ok g p w j
def sm_st (ok : Nat → List Nat → Bool) : Nat → Nat → List Nat → Nat
  | 0, _, _ => 1
  | k + 1, p, w => sm_kst ok (fun v => sm_st ok k (p + 1) v) p w 3
def sm_rst (ok : Nat → List Nat → Bool) : Nat → List Nat → Nat
  | _, [] => 0
  | k, e :: w => sm_kst ok (fun v => sm_st ok k (w.length + 1) v) w.length w (2 - e) + sm_rst ok (k + 1) w
/-- what is still to come at a word with j digits to try -/
def sm_rem (ok : Nat → List Nat → Bool) (k : Nat) (w : List Nat) (j : Nat) : List (List Nat) :=
  sm_kids ok (fun v => sm_gen ok k (w.length + 1) v) w.length w j ++ sm_rest ok (k + 1) w
/-- the steps still to come there -/
def sm_rs (ok : Nat → List Nat → Bool) (k : Nat) (w : List Nat) (j : Nat) : Nat :=
  sm_kst ok (fun v => sm_st ok k (w.length + 1) v) w.length w j + sm_rst ok (k + 1) w
theorem sm_rem_no {ok : Nat → List Nat → Bool} {k : Nat} {w : List Nat} {j : Nat} (h : ok w.length ((2 - j) :: w) = false) : sm_rem ok k w (j + 1) = sm_rem ok k w j := by
  unfold sm_rem
  rw [sm_kids, h]
  rfl
theorem sm_rs_no {ok : Nat → List Nat → Bool} {k : Nat} {w : List Nat} {j : Nat} (h : ok w.length ((2 - j) :: w) = false) : sm_rs ok k w (j + 1) = sm_rs ok k w j + 1 := by
  unfold sm_rs
  rw [sm_kst, h]
  show 1 + 0 + _ + _ = _
  omega
theorem sm_rem_in {ok : Nat → List Nat → Bool} {k : Nat} {w : List Nat} {j : Nat} (hj : j ≤ 2) (h : ok w.length ((2 - j) :: w) = true) : sm_rem ok (k + 1) w (j + 1) = sm_rem ok k ((2 - j) :: w) 3 := by
  unfold sm_rem
  rw [sm_kids, h, sm_rest, show 2 - (2 - j) = j by omega, List.append_assoc]
  rfl
theorem sm_rs_in {ok : Nat → List Nat → Bool} {k : Nat} {w : List Nat} {j : Nat} (hj : j ≤ 2) (h : ok w.length ((2 - j) :: w) = true) : sm_rs ok (k + 1) w (j + 1) = sm_rs ok k ((2 - j) :: w) 3 + 1 := by
  unfold sm_rs
  rw [sm_kst, h, sm_rst, show 2 - (2 - j) = j by omega]
  show 1 + sm_st ok (k + 1) (w.length + 1) ((2 - j) :: w) + _ + _ = _
  rw [sm_st]
  show 1 + sm_kst ok (fun v => sm_st ok k (w.length + 1 + 1) v) (w.length + 1) ((2 - j) :: w) 3 + _ + _ = sm_kst ok (fun v => sm_st ok k (w.length + 1 + 1) v) (w.length + 1) ((2 - j) :: w) 3 + _ + 1
  omega
theorem sm_rem_leaf {ok : Nat → List Nat → Bool} {w : List Nat} {j : Nat} (hj : j ≤ 2) (h : ok w.length ((2 - j) :: w) = true) : sm_rem ok 0 w (j + 1) = ((2 - j) :: w) :: sm_rest ok 0 ((2 - j) :: w) := by
  unfold sm_rem
  rw [sm_kids, h, sm_rest, show 2 - (2 - j) = j by omega, List.append_assoc]
  rfl
theorem sm_rs_leaf {ok : Nat → List Nat → Bool} {w : List Nat} {j : Nat} (hj : j ≤ 2) (h : ok w.length ((2 - j) :: w) = true) : sm_rs ok 0 w (j + 1) = sm_rst ok 0 ((2 - j) :: w) + 2 := by
  unfold sm_rs
  rw [sm_kst, h, sm_rst, show 2 - (2 - j) = j by omega]
  show 1 + 1 + _ + _ = _
  omega
theorem sm_rem_pop {ok : Nat → List Nat → Bool} {k : Nat} {w : List Nat} {e : Nat} : sm_rem ok k (e :: w) 0 = sm_rem ok (k + 1) w (2 - e) := by
  unfold sm_rem
  rw [sm_kids, sm_rest]
  rfl
theorem sm_rs_pop {ok : Nat → List Nat → Bool} {k : Nat} {w : List Nat} {e : Nat} : sm_rs ok k (e :: w) 0 = sm_rs ok (k + 1) w (2 - e) + 1 := by
  unfold sm_rs
  rw [sm_kst, sm_rst]
  omega
theorem sm_rest_rem {ok : Nat → List Nat → Bool} {k : Nat} {w : List Nat} {e : Nat} : sm_rest ok k (e :: w) = sm_rem ok k w (2 - e) := by
  unfold sm_rem
  rw [sm_rest]
theorem sm_rst_rs {ok : Nat → List Nat → Bool} {k : Nat} {w : List Nat} {e : Nat} : sm_rst ok k (e :: w) = sm_rs ok k w (2 - e) := by
  unfold sm_rs
  rw [sm_rst]
theorem sm_rem_all {ok : Nat → List Nat → Bool} {k : Nat} : sm_rem ok k [] 3 = sm_gen ok (k + 1) 0 [] := by
  unfold sm_rem
  rw [sm_rest, sm_gen, List.append_nil]
  rfl
theorem sm_rs_all {ok : Nat → List Nat → Bool} {k : Nat} : sm_rs ok k [] 3 = sm_st ok (k + 1) 0 [] := by
  unfold sm_rs
  rw [sm_rst, sm_st]
  rfl
/-- the search up to its next full word -/
theorem sm_adv (ok : Nat → List Nat → Bool) (all : Nat) (E : List Nat → Nat → Prop) (Lf : List Nat → Prop) (En : Prop)
    (h1 : ∀ w j, w.length + 1 < all → j ≤ 2 → sm_wd w → ok w.length ((2 - j) :: w) = true → E ((2 - j) :: w) 3 → E w (j + 1))
    (h2 : ∀ w j, w.length + 1 = all → j ≤ 2 → sm_wd w → ok w.length ((2 - j) :: w) = true → Lf ((2 - j) :: w) → E w (j + 1))
    (h3 : ∀ w j, w.length < all → j ≤ 2 → sm_wd w → ok w.length ((2 - j) :: w) = false → E w j → E w (j + 1))
    (h4 : ∀ e w, w.length + 1 < all → sm_wd (e :: w) → E w (2 - e) → E (e :: w) 0)
    (h5 : En → E [] 0) :
    ∀ (N k : Nat) (w : List Nat) (j : Nat), w.length + k + 1 = all → j ≤ 3 → sm_wd w → sm_rs ok k w j ≤ N →
      (∀ v L, sm_rem ok k w j = v :: L → sm_wd v → v.length = all → sm_rest ok 0 v = L → Lf v) →
      (sm_rem ok k w j = [] → En) → E w j := by
  intro N
  induction N with
  | zero =>
    intro k w j _ _ _ hN
    exfalso
    have : 1 ≤ sm_rs ok k w j := by
      unfold sm_rs
      cases j <;> rw [sm_kst] <;> omega
    omega
  | succ N ih =>
    intro k w j hk hj hw hN hL hE
    cases j with
    | zero =>
      cases w with
      | nil =>
        refine h5 (hE ?_)
        unfold sm_rem
        rw [sm_kids, sm_rest]
        rfl
      | cons e w =>
        rw [List.length_cons] at hk
        refine h4 e w (by omega) hw (ih (k + 1) w (2 - e) (by omega) (by omega) (sm_wd_tail hw) ?_ ?_ ?_)
        · rw [sm_rs_pop] at hN
          omega
        · intro v L hv
          exact hL v L (sm_rem_pop.trans hv)
        · intro hv
          exact hE (sm_rem_pop.trans hv)
    | succ j =>
      have hj2 : j ≤ 2 := by omega
      cases hok : ok w.length ((2 - j) :: w) with
      | false =>
        refine h3 w j (by omega) hj2 hw hok (ih k w j hk (by omega) hw ?_ ?_ ?_)
        · rw [sm_rs_no hok] at hN
          omega
        · intro v L hv
          exact hL v L ((sm_rem_no hok).trans hv)
        · intro hv
          exact hE ((sm_rem_no hok).trans hv)
      | true =>
        have hw2 : sm_wd ((2 - j) :: w) := sm_wd_cons (by omega) hw
        cases k with
        | zero =>
          refine h2 w j (by omega) hj2 hw hok (hL _ _ (sm_rem_leaf hj2 hok) hw2 ?_ rfl)
          rw [List.length_cons]
          omega
        | succ k =>
          refine h1 w j (by omega) hj2 hw hok (ih k ((2 - j) :: w) 3 ?_ (by omega) hw2 ?_ ?_ ?_)
          · rw [List.length_cons]
            omega
          · rw [sm_rs_in hj2 hok] at hN
            omega
          · intro v L hv
            exact hL v L ((sm_rem_in hj2 hok).trans hv)
          · intro hv
            exact hE ((sm_rem_in hj2 hok).trans hv)
/-- the search to its end, with its steps counted and its full words kept -/
theorem sm_full (ok : Nat → List Nat → Bool) (all T : Nat) (G : List (List Nat)) (E : List Nat → Nat → Nat → List (List Nat) → Prop) (Lf : List Nat → Nat → List (List Nat) → Prop)
    (h1 : ∀ w j s A, w.length + 1 < all → j ≤ 2 → sm_wd w → s < T → ok w.length ((2 - j) :: w) = true → E ((2 - j) :: w) 3 (s + 1) A → E w (j + 1) s A)
    (h2 : ∀ w j s A, w.length + 1 = all → j ≤ 2 → sm_wd w → s < T → ok w.length ((2 - j) :: w) = true → Lf ((2 - j) :: w) (s + 1) A → E w (j + 1) s A)
    (h3 : ∀ w j s A, w.length < all → j ≤ 2 → sm_wd w → s < T → ok w.length ((2 - j) :: w) = false → E w j (s + 1) A → E w (j + 1) s A)
    (h4 : ∀ e w s A, w.length + 1 < all → sm_wd (e :: w) → s < T → E w (2 - e) (s + 1) A → E (e :: w) 0 s A)
    (h5 : ∀ s, s < T → E [] 0 s G)
    (h6 : ∀ e w s A L, w.length + 1 = all → sm_wd (e :: w) → s < T → A ++ (e :: w) :: L = G → E w (2 - e) (s + 1) (A ++ [e :: w]) → Lf (e :: w) s A) :
    ∀ (N k : Nat) (w : List Nat) (j s : Nat) (A : List (List Nat)), w.length + k + 1 = all → j ≤ 3 → sm_wd w → sm_rs ok k w j ≤ N →
      s + sm_rs ok k w j ≤ T → A ++ sm_rem ok k w j = G → E w j s A := by
  intro N
  induction N using Nat.strongRecOn with
  | ind N ih =>
    intro k w j s A hk hj hw hN hT hG
    have hpos : 1 ≤ sm_rs ok k w j := by
      unfold sm_rs
      cases j <;> rw [sm_kst] <;> omega
    cases j with
    | zero =>
      cases w with
      | nil =>
        have hA : A = G := by
          rw [← hG]
          unfold sm_rem
          rw [sm_kids, sm_rest]
          exact (List.append_nil A).symm
        rw [hA]
        exact h5 s (by omega)
      | cons e w =>
        rw [List.length_cons] at hk
        rw [sm_rs_pop] at hN hT
        rw [sm_rem_pop] at hG
        exact h4 e w s A (by omega) hw (by omega) (ih _ (by omega) (k + 1) w (2 - e) (s + 1) A (by omega) (by omega) (sm_wd_tail hw) (Nat.le_refl _) (by omega) hG)
    | succ j =>
      have hj2 : j ≤ 2 := by omega
      cases hok : ok w.length ((2 - j) :: w) with
      | false =>
        rw [sm_rs_no hok] at hN hT
        rw [sm_rem_no hok] at hG
        exact h3 w j s A (by omega) hj2 hw (by omega) hok (ih _ (by omega) k w j (s + 1) A hk (by omega) hw (Nat.le_refl _) (by omega) hG)
      | true =>
        have hw2 : sm_wd ((2 - j) :: w) := sm_wd_cons (by omega) hw
        cases k with
        | zero =>
          rw [sm_rs_leaf hj2 hok, sm_rst_rs] at hN hT
          rw [sm_rem_leaf hj2 hok] at hG
          have hG2 : A ++ [(2 - j) :: w] ++ sm_rem ok 0 w (2 - (2 - j)) = G := by
            rw [← hG, sm_rest_rem, List.append_assoc]
            rfl
          exact h2 w j s A (by omega) hj2 hw (by omega) hok (h6 (2 - j) w (s + 1) A _ (by omega) hw2 (by omega) hG
            (ih _ (by omega) 0 w (2 - (2 - j)) (s + 1 + 1) _ hk (by omega) hw (Nat.le_refl _) (by omega) hG2))
        | succ k =>
          rw [sm_rs_in hj2 hok] at hN hT
          rw [sm_rem_in hj2 hok] at hG
          exact h1 w j s A (by omega) hj2 hw (by omega) hok (ih _ (by omega) k ((2 - j) :: w) 3 (s + 1) A (by rw [List.length_cons]; omega) (by omega) hw2 (Nat.le_refl _) (by omega) hG)
/-- what the full words are like -/
theorem sm_kids_mem {ok : Nat → List Nat → Bool} {g : List Nat → List (List Nat)} {p : Nat} {w v : List Nat} : ∀ {j : Nat}, v ∈ sm_kids ok g p w j → ∃ d, d ≤ 2 ∧ ok p (d :: w) = true ∧ v ∈ g (d :: w)
  | 0, h => by
    rw [sm_kids] at h
    cases h
  | j + 1, h => by
    rw [sm_kids, List.mem_append] at h
    rcases h with h | h
    · cases hok : ok p ((2 - j) :: w) with
      | false =>
        rw [hok] at h
        cases h
      | true =>
        rw [hok] at h
        exact ⟨2 - j, by omega, hok, h⟩
    · exact sm_kids_mem h
theorem sm_gen_mem {ok : Nat → List Nat → Bool} : ∀ {k p : Nat} {w v : List Nat}, w.length = p → v ∈ sm_gen ok k p w → v.length = p + k ∧ (∀ q, q < p → sm_dg v q = sm_dg w q) ∧ (sm_wd w → sm_wd v)
  | 0, p, w, v, hp, h => by
    rw [sm_gen, List.mem_singleton] at h
    subst h
    exact ⟨hp, fun _ _ => rfl, id⟩
  | k + 1, p, w, v, hp, h => by
    rw [sm_gen] at h
    obtain ⟨d, hd, _, hv⟩ := sm_kids_mem h
    obtain ⟨a, b, c⟩ := sm_gen_mem (w := d :: w) (by rw [List.length_cons, hp]) hv
    refine ⟨by omega, fun q hq => ?_, fun hw => c (sm_wd_cons hd hw)⟩
    rw [b q (by omega), sm_dg_low d w (by omega)]
theorem sm_gen_top {ok : Nat → List Nat → Bool} {k p d : Nat} {w v : List Nat} (hp : w.length = p) (h : v ∈ sm_gen ok k (p + 1) (d :: w)) : sm_dg v p = d := by
  obtain ⟨_, b, _⟩ := sm_gen_mem (w := d :: w) (by rw [List.length_cons, hp]) h
  rw [b p (by omega), ← hp, sm_dg_top]
/-- a word fits from place p on -/
def sm_fit (al : Nat → Nat → Bool) (all p : Nat) (v : List Nat) : Bool := decide (∀ q, q < all → p ≤ q → al q (sm_dg v q) = true)
theorem sm_fit_iff {al : Nat → Nat → Bool} {all p : Nat} {v : List Nat} : sm_fit al all p v = true ↔ ∀ q, q < all → p ≤ q → al q (sm_dg v q) = true := decide_eq_true_iff
theorem sm_fit_end {al : Nat → Nat → Bool} {p : Nat} {v : List Nat} : sm_fit al p p v = true := sm_fit_iff.mpr fun q h1 h2 => absurd h1 (by omega)
theorem sm_fit_no {al : Nat → Nat → Bool} {all p d : Nat} {v : List Nat} (hp : p < all) (hd : sm_dg v p = d) (h : al p d = false) : sm_fit al all p v = false := by
  cases hf : sm_fit al all p v with
  | false => rfl
  | true =>
    have := sm_fit_iff.mp hf p hp (Nat.le_refl _)
    rw [hd, h] at this
    cases this
theorem sm_fit_yes {al : Nat → Nat → Bool} {all p d : Nat} {v : List Nat} (hd : sm_dg v p = d) (h : al p d = true) : sm_fit al all p v = sm_fit al all (p + 1) v := by
  rw [Bool.eq_iff_iff, sm_fit_iff, sm_fit_iff]
  constructor
  · intro H q h1 h2
    exact H q h1 (by omega)
  · intro H q h1 h2
    by_cases e : q = p
    · subst e
      rw [hd]
      exact h
    · exact H q h1 (by omega)
/-- the search with a test of the digit finds the words that fit, in the same order -/
theorem sm_gen_fit (ok : Nat → List Nat → Bool) (al : Nat → Nat → Bool) (ok2 : Nat → List Nat → Bool) (h2 : ∀ p d w, ok2 p (d :: w) = (ok p (d :: w) && al p d)) (all : Nat) :
    ∀ (k p : Nat) (w : List Nat), w.length = p → p + k = all → sm_gen ok2 k p w = (sm_gen ok k p w).filter (sm_fit al all p)
  | 0, p, w, _, ha => by
    rw [sm_gen, sm_gen]
    have : sm_fit al all p w = true := by
      rw [← ha]
      exact sm_fit_end
    rw [List.filter_cons_of_pos this, List.filter_nil]
  | k + 1, p, w, hp, ha => by
    rw [sm_gen, sm_gen]
    have key : ∀ j, sm_kids ok2 (fun v => sm_gen ok2 k (p + 1) v) p w j = (sm_kids ok (fun v => sm_gen ok k (p + 1) v) p w j).filter (sm_fit al all p) := by
      intro j
      induction j with
      | zero => rfl
      | succ j ihj =>
        rw [sm_kids, sm_kids, List.filter_append, ihj, h2]
        congr 1
        have hg := sm_gen_fit ok al ok2 h2 all k (p + 1) ((2 - j) :: w) (by rw [List.length_cons, hp]) (by omega)
        cases ho : ok p ((2 - j) :: w) with
        | false => rfl
        | true =>
          cases hal : al p (2 - j) with
          | false =>
            show [] = _
            symm
            rw [List.filter_eq_nil_iff]
            intro v hv
            rw [sm_fit_no (by omega) (sm_gen_top hp hv) hal]
            exact Bool.false_ne_true
          | true =>
            show sm_gen ok2 k (p + 1) ((2 - j) :: w) = (sm_gen ok k (p + 1) ((2 - j) :: w)).filter _
            rw [hg]
            apply List.filter_congr
            intro v hv
            exact (sm_fit_yes (sm_gen_top hp hv) hal).symm
    exact key 3
