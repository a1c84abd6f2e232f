/-! X: gates, and what is read of one square -/
theorem sm_gate {n : Nat} (hn : n < 2 ^ 31) {a : Int32} {A B : Prop} (hb : (∀ j, j < n → a ≠ nI j) → A) (hg : ∀ j, j < n → a = nI j → B) :
    (a < 0 → A) ∧ (¬ a < 0 → ((nI n ≤ a → A) ∧ (¬ nI n ≤ a → B))) := by
  refine br_c (fun h => hb ?_) (fun h => br_c (fun h2 => hb ?_) (fun h2 => ?_))
  · rintro j hj rfl
    exact nI_pos (by omega) h
  · rintro j hj rfl
    exact nI_ge hj hn h2
  · obtain ⟨j, hj, rfl⟩ := nI_of h
    refine hg j ?_ rfl
    apply Nat.lt_of_not_le
    intro z
    exact h2 (nI_le z hj)
section
variable {post : Int32 → Prop} {sz pls gc fc : Int32} {en st al hd dr : Nat → Int32}
theorem sx_isPlace {n : Nat} (h5 : n ≤ 5) {a b : Int32} (hf : (∀ i j, i < n → j < n → a = nI i → b = nI j → False) → post 0) (ht : ∀ i j, i < n → j < n → a = nI i → b = nI j → post 1) :
    wpX_isPlace post (nI n, pls, gc, fc, en, st, al, hd, dr) a b := by
  refine sm_gate (n := n) (by omega) (fun h => hf (fun i j hi _ e _ => h i hi e)) (fun i hi e => ?_)
  exact sm_gate (n := n) (by omega) (fun h => hf (fun _ j _ hj _ e2 => h j hj e2)) (fun j hj e2 => ht i j hi hj e e2)
theorem sx_isNumber {m : Nat} (hm : m < 2 ^ 31) {a : Int32} (hf : (∀ j, j < m → a ≠ nI j) → post 0) (ht : ∀ j, j < m → a = nI j → post 1) :
    wpX_isNumber post (sz, pls, gc, nI m, en, st, al, hd, dr) a := sm_gate hm hf ht
theorem sx_isAtHand {n s : Nat} {x : Int32} (h5 : n ≤ 5) (hx : x = nI s) (hs : s + n * n ≤ 10725) (ht : (∀ q, q < n * n → en (s + q) = hd q) → post 1) (hf : (¬ ∀ q, q < n * n → en (s + q) = hd q) → post 0) :
    wpX_isAtHand post (sz, nI (n * n), gc, fc, en, st, al, hd, dr) x := by
  subst hx
  have hnn := sm_nn h5
  refine loop_0 (fun k i (_ : Unit) => wX_isAtHand_2 post (nI s) sz (nI (n * n)) gc fc en st al hd dr k (nI i)) (fun i _ => ∀ q, q < i → en (s + q) = hd q) (n * n) () (fun q hq => absurd hq (Nat.not_lt_zero q)) ?_ ?_
  · intro k _ h
    exact br_t (nI_le (Nat.le_refl _) (by omega)) (ht h)
  · intro k i _ hi h hk
    have e : nI s + nI i = nI (s + i) := nI_add _ _
    have c1 : (nI (s + i)).toNatClampNeg = s + i := nI_clamp (by omega)
    have c2 : (nI i).toNatClampNeg = i := nI_clamp (by omega)
    refine br_f (nI_ge hi (by omega)) ?_
    rw [e, c1, c2]
    refine ⟨vp_in_nI (by omega) (by decide), vp_in_nI (by omega) (by decide), br_c (fun z => nm_r (nI_1 i) (hk () ?_)) (fun z => hf (fun w => z (w i hi)))⟩
    intro q hq
    by_cases w : q = i
    · subst w
      exact z
    · exact h q (by omega)
theorem sx_negs {n s : Nat} {x : Int32} {dg : Nat → Nat} (h5 : n ≤ 5) (hx : x = nI s) (hs : s + n * n ≤ 10725) (hv : ∀ q, q < n * n → en (s + q) = sm_e (dg q) ∧ dg q ≤ 2) (hp : post (nI (sm_ng dg (n * n)))) :
    wpX_negativesOf post (sz, nI (n * n), gc, fc, en, st, al, hd, dr) x := by
  subst hx
  have hnn := sm_nn h5
  refine loop_0 (fun k i y => wX_negativesOf_4 post (nI s) sz (nI (n * n)) gc fc en st al hd dr k y (nI i)) (fun i y => y = nI (sm_ng dg i)) (n * n) 0 rfl ?_ ?_
  · rintro k y rfl
    exact br_t (nI_le (Nat.le_refl _) (by omega)) hp
  · rintro k i y hi rfl hk
    have e : nI s + nI i = nI (s + i) := nI_add _ _
    have c1 : (nI (s + i)).toNatClampNeg = s + i := nI_clamp (by omega)
    obtain ⟨v1, v2⟩ := hv i hi
    refine br_f (nI_ge hi (by omega)) ?_
    rw [e, c1, v1, sm_e_m1 (by omega)]
    refine ⟨vp_in_nI (by omega) (by decide), br_c (fun z => nm_r (nI_1 _) (nm_r (nI_1 i) (hk _ ?_))) (fun z => nm_r (nI_1 i) (hk _ ?_))⟩
    · rw [sm_ng, if_pos z]
    · rw [sm_ng, if_neg z]
theorem sx_power {x y : Int32} {m : Nat} (hy : y = nI m) (hm : m < 100) (hp : post (sm_pw x m)) : wpX_power post (sz, pls, gc, fc, en, st, al, hd, dr) x y := by
  subst hy
  refine loop_0 (fun k i p => wX_power_5 post x (nI m) sz pls gc fc en st al hd dr k p (nI i)) (fun i p => p = sm_pw x i) m 1 rfl ?_ ?_
  · rintro k p rfl
    exact br_t (nI_le (Nat.le_refl _) (by omega)) hp
  · rintro k i p hi rfl hk
    exact br_f (nI_ge hi (by omega)) (nm_e (nm_r (nI_1 i) (hk _ rfl)))
theorem sx_corner {n s r c : Nat} {x y z : Int32} (h5 : n ≤ 5) (hr : r < n) (hc : c < n) (hx : x = nI s) (hy : y = nI r) (hz : z = nI c) (hs : s + n * n ≤ 10725) (hp : post (sm_C (fun q => en (s + q)) n r c)) :
    wpX_cornerSum post (nI n, pls, gc, fc, en, st, al, hd, dr) x y z := by
  subst hx hy hz
  have hnn := sm_nn h5
  refine loop_0 (fun k i p => wX_cornerSum_6 post (nI s) (nI r) (nI c) (nI n) pls gc fc en st al hd dr k p (nI i)) (fun i p => p = sm_sum (fun i => sm_sum (fun j => en (s + (i * n + j))) (c + 1)) i) (r + 1) 0 rfl ?_ ?_
  · rintro k p rfl
    exact br_t (nI_lt (by omega) (by omega)) hp
  · rintro k i p hi rfl hk
    have hin : i * n ≤ r * n := Nat.mul_le_mul_right n (by omega)
    have hl := sm_rc_lt hr hc
    refine br_f (nI_nlt (by omega) (by omega)) ?_
    refine sx_sumE (f := s + i * n) (s := 1) (m := c + 1) (fun j => en (s + (i * n + j))) (by rw [pk_mul, nI_add]) rfl (nI_1 c) (by omega) (fun j hj => by omega) (fun j hj => by rw [Nat.mul_one, Nat.add_assoc]) ?_
    exact nm_e (nm_r (nI_1 i) (hk _ rfl))
theorem sx_below {n s r c : Nat} {x y z : Int32} (h5 : n ≤ 5) (hr : r < n) (hc : c < n) (hx : x = nI s) (hy : y = nI r) (hz : z = nI c) (hs : s + n * n ≤ 10725) (hp : post (sm_B (fun q => en (s + q)) n r c)) :
    wpX_sumBelowAndLeft post (nI n, pls, gc, fc, en, st, al, hd, dr) x y z := by
  subst hx hy hz
  have hnn := sm_nn h5
  refine nm_r (nI_1 r) ?_
  refine loop_0 (fun k i p => wX_sumBelowAndLeft_8 post (nI s) (nI c) (nI n) pls gc fc en st al hd dr k p (nI (r + 1 + i))) (fun i p => p = sm_sum (fun t => sm_sum (fun d => en (s + ((r + 1 + t) * n + d))) c) i) (n - (r + 1)) 0 rfl ?_ ?_
  · rintro k p rfl
    exact br_t (nI_le (by omega) (by omega)) hp
  · rintro k i p hi rfl hk
    have hin : (r + 1 + i + 1) * n ≤ n * n := Nat.mul_le_mul_right n (by omega)
    rw [Nat.add_mul (r + 1 + i) 1] at hin
    refine br_f (nI_ge (by omega) (by omega)) ?_
    refine sx_sumE (f := s + (r + 1 + i) * n) (s := 1) (m := c) (fun d => en (s + ((r + 1 + i) * n + d))) (by rw [pk_mul, nI_add]) rfl rfl (by omega) (fun j hj => by omega) (fun j hj => by rw [Nat.mul_one, Nat.add_assoc]) ?_
    exact nm_e (nm_r (nI_1 (r + 1 + i)) (hk _ rfl))
end
