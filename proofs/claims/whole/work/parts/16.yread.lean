/-! Y: a square by its number, the number of a square, what is read of the square at hand of the search -/
theorem sm_drop_nil {F : List (List Nat)} {i : Nat} (h : F.drop i = []) : F.length ≤ i := List.drop_eq_nil_iff.mp h
theorem sm_drop_cons {F L : List (List Nat)} {v : List Nat} {i : Nat} (h : F.drop i = v :: L) : i < F.length ∧ F[i]? = some v ∧ F.drop (i + 1) = L := by
  have h1 : i < F.length := by
    apply Nat.lt_of_not_le
    intro z
    rw [List.drop_eq_nil_of_le z] at h
    cases h
  rw [List.drop_eq_getElem_cons h1] at h
  injection h with ha hb
  exact ⟨h1, by rw [List.getElem?_eq_getElem h1, ha], hb⟩
theorem sm_25 {i : Nat} (h : i < 25) : ¬ (25 : Int32) ≤ nI i := nI_ge (b := 25) h (by decide)
theorem sm_25e : (25 : Int32) ≤ nI 25 := nI_le (a := 25) (b := 25) (Nat.le_refl _) (by decide)
section
variable {sz dp : Int32} {al hd sq fo ot pa : Nat → Int32} {n : Nat}
theorem sy_copy {post : Int32 → SY → Prop} {x : Int32} (hx : ¬ x < 0) (hp : ∀ fo', (∀ p, p < 25 → fo' p = sq p) → post 1 (sz, dp, al, hd, sq, fo', ot, pa)) :
    ∃ k, wY_find_28 post x sz dp k 0 al hd sq fo ot pa := by
  refine loop_0 (fun k i f => wY_find_28 post x sz dp k (nI i) al hd sq f ot pa) (fun i f => ∀ p, p < i → f p = sq p) 25 fo (fun p h => absurd h (Nat.not_lt_zero p)) ?_ ?_
  · intro k f h
    exact br_t sm_25e (br_f hx (hp f h))
  · intro k i f hi h hk
    refine br_f (sm_25 hi) (br_f hx ?_)
    rw [nI_clamp (by omega)]
    refine ⟨vp_in_nI hi (by decide), vp_in_nI hi (by decide), nm_e (nm_r (nI_1 i) (hk _ ?_))⟩
    intro p hp2
    by_cases e : p = i
    · subst e
      rw [pk_us]
    · rw [pk_un e]
      exact h p (by omega)
theorem sy_find {post : Int32 → SY → Prop} {A : Nat → Int32} {x : Int32} (h1 : 1 ≤ n) (h5 : n ≤ 5) (hA : ∀ q, q < n * n → al (sm_pl n q) = A q)
    (hf : (∀ j, j < (sm_F n A).length → x ≠ nI j) → ∀ dp' sq' fo', post 0 (nI n, dp', al, hd, sq', fo', ot, pa))
    (ht : ∀ j v, j < (sm_F n A).length → x = nI j → (sm_F n A)[j]? = some v → ∀ dp' sq' fo', (∀ q, q < n * n → fo' (sm_pl n q) = sm_e (sm_dg v q)) → post 1 (nI n, dp', al, hd, sq', fo', ot, pa)) :
    wpY_find post (nI n, dp, al, hd, sq, fo, ot, pa) x := by
  refine nm_e ?_
  have hFl := sm_F_len (A := A) h1 h5
  by_cases h0 : x < 0
  · refine ⟨1, br_t h0 ⟨1, br_f (sm_25 (i := 0) (by decide)) (br_t h0 (br_t h0 (hf ?_ _ _ _)))⟩⟩
    rintro j hj rfl
    exact nI_pos (by omega) h0
  · obtain ⟨K, hK, rfl⟩ := nI_of h0
    have key : ∀ (L : List (List Nat)) (i k : Nat) dp sq, L.length < k → i ≤ K → sm_pos n A dp sq L → (sm_F n A).drop i = L → wY_find_6 post (nI K) k (nI i) (nI n) dp al hd sq fo ot pa := by
      intro L
      induction L with
      | nil =>
        intro i k dp sq hk hi hpos hd2
        obtain ⟨k, rfl⟩ : ∃ m, k = m + 1 := ⟨k - 1, by omega⟩
        have := sm_drop_nil hd2
        refine br_f (nI_nlt hi hK) (sy_advance h1 h5 hA hpos (fun v L' sq' z => by cases z) (fun dp' sq' _ => br_t rfl (hf ?_ _ _ _)))
        intro j hj z
        have := (nI_eq hK (by omega)).mp z
        omega
      | cons v L ih =>
        intro i k dp sq hk hi hpos hd2
        rw [List.length_cons] at hk
        obtain ⟨k, rfl⟩ : ∃ m, k = m + 1 := ⟨k - 1, by omega⟩
        obtain ⟨d1, d2, d3⟩ := sm_drop_cons hd2
        refine br_f (nI_nlt hi hK) (sy_advance h1 h5 hA hpos (fun v2 L' sq' z zl zw za zp => ?_) (fun dp' sq' z => by cases z))
        injection z with z1 z2
        subst z1 z2
        refine br_f (by decide) (nm_r (nI_1 i) ?_)
        by_cases e : i = K
        · subst e
          obtain ⟨k, rfl⟩ : ∃ m, k = m + 1 := ⟨k - 1, by omega⟩
          refine br_t (nI_lt (by omega) (by omega)) (sy_copy h0 (fun fo' hfo => ht i v d1 rfl d2 _ _ fo' (fun q hq => ?_)))
          rw [hfo _ (sm_pl_lt h5 hq)]
          exact za q (by omega)
        · exact ih (i + 1) k _ _ (by omega) (by omega) zp d3
    exact ⟨_, key (sm_F n A) 0 _ 0 (upd sq 0 (-2)) (Nat.lt_succ_self _) (Nat.zero_le _) sm_pos_begin (List.drop_zero)⟩
theorem sm_bools {x : Int32} (h : x = 0 ∨ x = 1) : narrow .boolean (.int x) = .int x := by
  rcases h with rfl | rfl <;> rfl
/-- the flag says whether all before i hold -/
def sm_flag (P : Nat → Prop) (i : Nat) (x : Int32) : Prop := (x = 1 ∧ ∀ q, q < i → P q) ∨ (x = 0 ∧ ¬ ∀ q, q < i → P q)
theorem sm_flag_0 {P : Nat → Prop} : sm_flag P 0 1 := Or.inl ⟨rfl, fun q h => absurd h (Nat.not_lt_zero q)⟩
theorem sm_flag_off {P : Nat → Prop} {i : Nat} {x : Int32} (h : sm_flag P i x) (hx : x = 0) : sm_flag P (i + 1) 0 := by
  rcases h with h | h
  · rw [h.1] at hx
    exact absurd hx (by decide)
  · exact Or.inr ⟨rfl, fun z => h.2 (fun q hq => z q (by omega))⟩
theorem sm_flag_t {P : Nat → Prop} {i : Nat} {x : Int32} (h : sm_flag P i x) (hx : ¬ x = 0) (hP : P i) : sm_flag P (i + 1) 1 := by
  rcases h with h | h
  · refine Or.inl ⟨rfl, fun q hq => ?_⟩
    by_cases e : q = i
    · subst e
      exact hP
    · exact h.2 q (by omega)
  · exact absurd h.1 hx
theorem sm_flag_f {P : Nat → Prop} {i : Nat} (hP : ¬ P i) : sm_flag P (i + 1) 0 := Or.inr ⟨rfl, fun z => hP (z i (by omega))⟩
theorem sy_isSquare {post : Int32 → Prop} {x : Int32} {g : Nat → Int32} (h1 : 1 ≤ n) (h5 : n ≤ 5) (hg : (x = 0 ∧ g = ot) ∨ (¬ x = 0 ∧ g = hd))
    (ht : (∀ q, q < n * n → sq (sm_pl n q) = g (sm_pl n q)) → post 1) (hf : (¬ ∀ q, q < n * n → sq (sm_pl n q) = g (sm_pl n q)) → post 0) :
    wpY_isSquare post (nI n, dp, al, hd, sq, fo, ot, pa) x := by
  have hnn := sm_nn h5
  have e2 : nI n * nI n = nI (n * n) := pk_mul n n
  refine loop_0 (fun k i y => wY_isSquare_4 post x (nI n) dp al hd sq fo ot pa k y (nI i)) (fun i y => sm_flag (fun q => sq (sm_pl n q) = g (sm_pl n q)) i y) (n * n) 1 sm_flag_0 ?_ ?_
  · intro k y h
    refine br_t ?_ ⟨sm_bools (h.elim (fun w => Or.inr w.1) (fun w => Or.inl w.1)), ?_⟩
    · rw [e2]
      exact nI_le (Nat.le_refl _) (by omega)
    · rcases h with h | h
      · rw [h.1]
        exact ht h.2
      · rw [h.1]
        exact hf h.2
  · intro k i y hi h hk
    have hl := sm_pl_lt h5 hi
    refine br_f ?_ (sy_placeAt h1 h5 (by omega) rfl (br_c (fun z => nm_r (nI_1 i) (hk _ (sm_flag_off h z))) (fun z => ?_)))
    · rw [e2]
      exact nI_ge hi (by omega)
    · rw [nI_clamp (by omega)]
      refine ⟨vp_in_nI hl (by decide), ?_⟩
      rcases hg with ⟨gx, rfl⟩ | ⟨gx, rfl⟩
      · exact br_t gx ⟨vp_in_nI hl (by decide), br_c (fun w => nm_r (nI_1 i) (hk _ (sm_flag_t h z w))) (fun w => nm_r (nI_1 i) (hk _ (sm_flag_f w)))⟩
      · exact br_f gx ⟨vp_in_nI hl (by decide), br_c (fun w => nm_r (nI_1 i) (hk _ (sm_flag_t h z w))) (fun w => nm_r (nI_1 i) (hk _ (sm_flag_f w)))⟩
def sm_eqP (n : Nat) (g : Nat → Int32) (v : List Nat) : Bool := decide (∀ q, q < n * n → sm_e (sm_dg v q) = g (sm_pl n q))
theorem sy_numberOf {post : Int32 → SY → Prop} {A : Nat → Int32} {x : Int32} {g : Nat → Int32} (h1 : 1 ≤ n) (h5 : n ≤ 5) (hA : ∀ q, q < n * n → al (sm_pl n q) = A q) (hg : (x = 0 ∧ g = ot) ∨ (¬ x = 0 ∧ g = hd))
    (hp : ∀ dp' sq', post (sm_first (-2) (sm_eqP n g) (sm_F n A) 0) (nI n, dp', al, hd, sq', fo, ot, pa)) :
    wpY_numberOf post (nI n, dp, al, hd, sq, fo, ot, pa) x := by
  refine nm_e ?_
  have key : ∀ (L : List (List Nat)) (i k : Nat) dp sq, L.length < k → sm_pos n A dp sq L → (∀ dp' sq', post (sm_first (-2) (sm_eqP n g) L i) (nI n, dp', al, hd, sq', fo, ot, pa)) → wY_numberOf_6 post x k (nI i) (nI n) dp al hd sq fo ot pa := by
    intro L
    induction L with
    | nil =>
      intro i k dp sq hk hpos hp
      obtain ⟨k, rfl⟩ : ∃ m, k = m + 1 := ⟨k - 1, by omega⟩
      exact sy_advance h1 h5 hA hpos (fun v L' sq' z => by cases z) (fun dp' sq' _ => br_t rfl (hp dp' sq'))
    | cons v L ih =>
      intro i k dp sq hk hpos hp
      rw [List.length_cons] at hk
      obtain ⟨k, rfl⟩ : ∃ m, k = m + 1 := ⟨k - 1, by omega⟩
      refine sy_advance h1 h5 hA hpos (fun v2 L' sq' z zl zw za zp => ?_) (fun dp' sq' z => by cases z)
      injection z with z1 z2
      subst z1 z2
      rw [sm_first] at hp
      have hiff : (∀ q, q < n * n → sq' (sm_pl n q) = g (sm_pl n q)) ↔ sm_eqP n g v = true := by
        unfold sm_eqP
        rw [decide_eq_true_iff]
        exact ⟨fun h q hq => (za q (by omega)).symm.trans (h q hq), fun h q hq => (za q (by omega)).trans (h q hq)⟩
      refine br_f (by decide) (sy_isSquare h1 h5 hg (fun z => br_f (by decide) ?_) (fun z => br_t rfl (nm_r (nI_1 i) (ih (i + 1) k _ _ (by omega) zp ?_))))
      · rw [hiff.mp z] at hp
        exact hp _ _
      · have : sm_eqP n g v = false := by
          cases e : sm_eqP n g v with
          | false => rfl
          | true => exact absurd (hiff.mpr e) z
        rw [this] at hp
        exact hp
  exact ⟨_, key (sm_F n A) 0 _ 0 (upd sq 0 (-2)) (Nat.lt_succ_self _) sm_pos_begin hp⟩
theorem sy_negs {post : Int32 → Prop} {v : List Nat} (h1 : 1 ≤ n) (h5 : n ≤ 5) (hl : v.length = n * n) (hw : sm_wd v) (ha : sm_ag (sm_pl n) sq v) (hp : post (nI (sm_ng (sm_dg v) (n * n)))) :
    wpY_negativesHere post (nI n, dp, al, hd, sq, fo, ot, pa) := by
  have hnn := sm_nn h5
  have e2 : nI n * nI n = nI (n * n) := pk_mul n n
  refine loop_0 (fun k i y => wY_negativesHere_4 post (nI n) dp al hd sq fo ot pa k y (nI i)) (fun i y => y = nI (sm_ng (sm_dg v) i)) (n * n) 0 rfl ?_ ?_
  · rintro k y rfl
    refine br_t ?_ hp
    rw [e2]
    exact nI_le (Nat.le_refl _) (by omega)
  · rintro k i y hi rfl hk
    have hl2 := sm_pl_lt h5 hi
    have hd2 : sm_dg v i ≤ 2 := sm_dg_le hw
    refine br_f ?_ (sy_placeAt h1 h5 (by omega) rfl ?_)
    · rw [e2]
      exact nI_ge hi (by omega)
    · rw [nI_clamp (by omega), ha i (by omega), sm_e_m1 (by omega)]
      refine ⟨vp_in_nI hl2 (by decide), br_c (fun z => nm_r (nI_1 _) (nm_r (nI_1 i) (hk _ ?_))) (fun z => nm_r (nI_1 i) (hk _ ?_))⟩
      · rw [sm_ng, if_pos z]
      · rw [sm_ng, if_neg z]
theorem sy_corner {post : Int32 → Prop} {r c : Nat} {x y : Int32} (hr : r < 100) (hc : c < 100) (hx : x = nI r) (hy : y = nI c) (hp : post (sm_sum (fun p => if p / 5 ≤ r ∧ p % 5 ≤ c then fo p else 0) 25)) :
    wpY_cornerOf post (sz, dp, al, hd, sq, fo, ot, pa) x y := by
  subst hx hy
  refine loop_0 (fun k i y => wY_cornerOf_5 post (nI r) (nI c) sz dp al hd sq fo ot pa k y (nI i)) (fun i y => y = sm_sum (fun p => if p / 5 ≤ r ∧ p % 5 ≤ c then fo p else 0) i) 25 0 rfl ?_ ?_
  · rintro k y rfl
    exact br_t sm_25e hp
  · rintro k i y hi rfl hk
    refine br_f (sm_25 hi) ⟨by decide, ?_⟩
    rw [sm_m5 (by omega), sm_d5 (by omega), nI_clamp (by omega)]
    refine pk_lt r (i / 5) (fun z => nm_r (nI_1 i) (hk _ ?_)) (fun z => ⟨by decide, pk_lt c (i % 5) (fun w => nm_r (nI_1 i) (hk _ ?_)) (fun w => ⟨vp_in_nI hi (by decide), nm_e (nm_r (nI_1 i) (hk _ ?_))⟩)⟩)
    · show _ = sm_sum _ i + (if i / 5 ≤ r ∧ i % 5 ≤ c then fo i else 0)
      rw [if_neg (by omega), Int32.add_zero]
    · show _ = sm_sum _ i + (if i / 5 ≤ r ∧ i % 5 ≤ c then fo i else 0)
      rw [if_neg (by omega), Int32.add_zero]
    · show _ = sm_sum _ i + (if i / 5 ≤ r ∧ i % 5 ≤ c then fo i else 0)
      rw [if_pos (by omega)]
end
