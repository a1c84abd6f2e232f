/-! X: the search, the list of the fitting squares -/
section
variable {sz pls gc fc : Int32} {en st al hd dr : Nat → Int32}
theorem sx_keep {post : SX → Prop} {n m : Nat} (h5 : n ≤ 5) (hm : m < 429)
    (hp : ∀ en', (∀ i, i < m * (n * n) → en' i = en i) → (∀ q, q < n * n → en' (m * (n * n) + q) = dr q) → post (sz, nI (n * n), nI (m + 1), fc, en', st, al, hd, dr)) :
    wpX_keepDraft post (sz, nI (n * n), nI m, fc, en, st, al, hd, dr) := by
  have hnn := sm_nn h5
  have hmn : m * (n * n) ≤ 428 * 25 := Nat.mul_le_mul (by omega) hnn
  refine br_f (nI_ge (b := 429) hm (by decide)) (nm_r (pk_mul m (n * n)) ?_)
  refine loop_0 (fun k i en' => wX_keepDraft_22 post (nI (m * (n * n))) sz (nI (n * n)) (nI m) fc k (nI i) en' st al hd dr)
    (fun i en' => (∀ j, j < m * (n * n) → en' j = en j) ∧ (∀ q, q < i → en' (m * (n * n) + q) = dr q)) (n * n) en ⟨fun _ _ => rfl, fun q hq => absurd hq (Nat.not_lt_zero q)⟩ ?_ ?_
  · rintro k en' ⟨a, b⟩
    exact br_t (nI_le (Nat.le_refl _) (by omega)) (nm_r (nI_1 m) (hp en' a b))
  · rintro k i en' hi ⟨a, b⟩ hk
    have e : nI (m * (n * n)) + nI i = nI (m * (n * n) + i) := nI_add _ _
    refine br_f (nI_ge hi (by omega)) ⟨vp_in_nI (by omega) (by decide), ?_, nm_e (nm_r (nI_1 i) (hk _ ⟨?_, ?_⟩))⟩
    · rw [e]
      exact vp_in_nI (by omega) (by decide)
    · intro j hj
      rw [e, nI_clamp (by omega), pk_un (by omega)]
      exact a j hj
    · intro q hq
      rw [e, nI_clamp (n := m * (n * n) + i) (by omega), nI_clamp (n := i) (by omega)]
      by_cases z : q = i
      · subst z
        rw [pk_us]
      · rw [pk_un (by omega)]
        exact b q (by omega)
theorem sx_find {post : SX → Prop} {n : Nat} (h1 : 1 ≤ n) (h5 : n ≤ 5)
    (hp : ∀ en' dr', sm_EN (n * n) en' (sm_G n) → post (nI n, nI (n * n), nI (sm_G n).length, fc, en', st, al, hd, dr')) :
    wpX_findGoodSquares post (nI n, nI (n * n), nI 0, fc, en, st, al, hd, dr) := by
  have hnn := sm_nn h5
  have hn0 := sm_nn1 h1
  refine nm_e ⟨1000001, ?_⟩
  refine sm_fullX h1 h5 (fun p s m dr en => ∀ k, 1000001 ≤ k + s → wX_findGoodSquares_12 post k (nI p) (nI s) (nI n) (nI (n * n)) (nI m) fc en st al hd dr)
    (fun m dr en => post (nI n, nI (n * n), nI m, fc, en, st, al, hd, dr)) ?_ ?_ ?_ ?_ ?_ (upd dr 0 (-2)) en pk_us 1000001 (Nat.le_refl _)
  · intro p s m dr en hp hs h hW hF k hk
    obtain ⟨k, rfl⟩ : ∃ k', k = k' + 1 := ⟨k - 1, by omega⟩
    have hd : dr (nI p).toNatClampNeg = 1 := by rw [nI_clamp (by omega)]; exact h
    have ne : ¬ nI p = nI (n * n) := fun z => absurd ((nI_eq (by omega) (by omega)).mp z) (by omega)
    cases p with
    | zero =>
      obtain ⟨k, rfl⟩ : ∃ k', k = k' + 1 := ⟨k - 1, by omega⟩
      refine br_f (nI_ge (b := 1000000) hs (by decide)) (br_f (nI_pos (by decide)) (br_f ne ⟨vp_in_nI (by omega) (by decide), br_t hd (nm_e (nm_e ?_))⟩))
      exact br_c (fun _ => hF rfl) (fun _ => br_t (by decide) (hF rfl))
    | succ p =>
      exact br_f (nI_ge (b := 1000000) hs (by decide)) (br_f (nI_pos (by omega)) (br_f ne ⟨vp_in_nI (by omega) (by decide), br_t hd (nm_r (pk_m1 p) (nm_r (nI_1 s) (hW p rfl k (by omega))))⟩))
  · intro r c s m dr en j hr hc hs hj h hT hW1 hW2 k hk
    obtain ⟨k, rfl⟩ : ∃ k', k = k' + 1 := ⟨k - 1, by omega⟩
    have hl := sm_rc_lt hr hc
    have hd : dr (nI (r * n + c)).toNatClampNeg = sm_c (j + 1) := by rw [nI_clamp (by omega)]; exact h
    have ne : ¬ nI (r * n + c) = nI (n * n) := fun z => absurd ((nI_eq (by omega) (by omega)).mp z) (by omega)
    have n1 : ¬ dr (nI (r * n + c)).toNatClampNeg = 1 := fun z => absurd ((sm_c_ne (by omega)).mp (hd.symm.trans z)) (by omega)
    have eu : upd dr (nI (r * n + c)).toNatClampNeg (dr (nI (r * n + c)).toNatClampNeg + 1) = upd dr (r * n + c) (sm_e (2 - j)) := by
      rw [hd, sm_c_up, sm_c_e hj, nI_clamp (by omega)]
    have hin : vp_in (nI (r * n + c)) 25 := vp_in_nI (by omega) (by decide)
    by_cases e : r * n + c + 1 = n * n
    · have hk2 := hW2 e k (by omega)
      refine br_f (nI_ge (b := 1000000) hs (by decide)) (br_f (nI_pos (by omega)) (br_f ne ⟨hin, br_f n1 ⟨hin, hin, nm_r eu (sx_altD h1 h5 hr hc rfl (fun _ => br_f (by decide) (nm_r (nI_1 (r * n + c)) (br_t (nI_le (by omega) (by omega)) (nm_r (nI_1 s) ?_)))) (fun z => absurd hT z))⟩⟩))
      rw [e]
      exact hk2
    · have hk2 := hW1 (by omega) k (by omega)
      have ev : upd (upd dr (r * n + c) (sm_e (2 - j))) (nI (r * n + c + 1)).toNatClampNeg (-2) = upd (upd dr (r * n + c) (sm_e (2 - j))) (r * n + c + 1) (-2) := by
        rw [nI_clamp (by omega)]
      exact br_f (nI_ge (b := 1000000) hs (by decide)) (br_f (nI_pos (by omega)) (br_f ne ⟨hin, br_f n1 ⟨hin, hin, nm_r eu (sx_altD h1 h5 hr hc rfl (fun _ => br_f (by decide) (nm_r (nI_1 (r * n + c)) (br_f (nI_ge (by omega) (by omega)) ⟨vp_in_nI (by omega) (by decide), nm_r ev (nm_r (nI_1 s) hk2)⟩))) (fun z => absurd hT z))⟩⟩))
  · intro r c s m dr en j hr hc hs hj h hT hW k hk
    obtain ⟨k, rfl⟩ : ∃ k', k = k' + 1 := ⟨k - 1, by omega⟩
    have hl := sm_rc_lt hr hc
    have hd : dr (nI (r * n + c)).toNatClampNeg = sm_c (j + 1) := by rw [nI_clamp (by omega)]; exact h
    have ne : ¬ nI (r * n + c) = nI (n * n) := fun z => absurd ((nI_eq (by omega) (by omega)).mp z) (by omega)
    have n1 : ¬ dr (nI (r * n + c)).toNatClampNeg = 1 := fun z => absurd ((sm_c_ne (by omega)).mp (hd.symm.trans z)) (by omega)
    have eu : upd dr (nI (r * n + c)).toNatClampNeg (dr (nI (r * n + c)).toNatClampNeg + 1) = upd dr (r * n + c) (sm_e (2 - j)) := by
      rw [hd, sm_c_up, sm_c_e hj, nI_clamp (by omega)]
    have hin : vp_in (nI (r * n + c)) 25 := vp_in_nI (by omega) (by decide)
    exact br_f (nI_ge (b := 1000000) hs (by decide)) (br_f (nI_pos (by omega)) (br_f ne ⟨hin, br_f n1 ⟨hin, hin, nm_r eu (sx_altD h1 h5 hr hc rfl (fun z => absurd z hT) (fun _ => br_t rfl (nm_r (nI_1 s) (hW k (by omega)))))⟩⟩))
  · intro s m dr en hs hm hW k hk
    obtain ⟨k, rfl⟩ : ∃ k', k = k' + 1 := ⟨k - 1, by omega⟩
    refine br_f (nI_ge (b := 1000000) hs (by decide)) (br_f (nI_pos (by omega)) (br_t rfl (sx_keep h5 hm ?_)))
    intro en' a b
    have e1 : nI (n * n) + (-1) = nI (n * n - 1) := by
      obtain ⟨p, hp⟩ : ∃ p, n * n = p + 1 := ⟨n * n - 1, by omega⟩
      rw [hp]
      exact pk_m1 p
    exact nm_r e1 (nm_r (nI_1 s) (hW en' a b k (by omega)))
  · intro dr en he
    exact hp en dr he
/-- the starts of the squares of the list F -/
def sm_ST (a : Nat) (en st : Nat → Int32) (F : List (List Nat)) : Prop := ∀ k v, F[k]? = some v → ∃ s, st k = nI s ∧ s + a ≤ 10725 ∧ ∀ q, q < a → en (s + q) = sm_e (sm_dg v q)
theorem sm_ST_nil {a : Nat} {en st : Nat → Int32} : sm_ST a en st [] := fun k v h => by
  rw [List.getElem?_nil] at h
  cases h
theorem sm_ST_add {a : Nat} {en st : Nat → Int32} {F : List (List Nat)} {v : List Nat} {s : Nat} (h : sm_ST a en st F) (hs : s + a ≤ 10725) (hv : ∀ q, q < a → en (s + q) = sm_e (sm_dg v q)) : sm_ST a en (upd st F.length (nI s)) (F ++ [v]) := by
  intro k u hu
  by_cases hk : k < F.length
  · rw [List.getElem?_append_left hk] at hu
    rw [pk_un (by omega)]
    exact h k u hu
  · have hl : k < (F ++ [v]).length := by
      apply Nat.lt_of_not_le
      intro z
      rw [List.getElem?_eq_none z] at hu
      cases hu
    rw [List.length_append, List.length_singleton] at hl
    have e : k = F.length := by omega
    subst e
    rw [List.getElem?_append_right (Nat.le_refl _), Nat.sub_self] at hu
    cases hu
    exact ⟨s, pk_us, hs, hv⟩
theorem sx_isAllowed {post : Int32 → Prop} {n s : Nat} {v : List Nat} {x : Int32} (h5 : n ≤ 5) (hx : x = nI s) (hs : s + n * n ≤ 10725) (hv : ∀ q, q < n * n → en (s + q) = sm_e (sm_dg v q))
    (ht : sm_fit (sm_al al) (n * n) 0 v = true → post 1) (hf : sm_fit (sm_al al) (n * n) 0 v = false → post 0) :
    wpX_isAllowed post (sz, nI (n * n), gc, fc, en, st, al, hd, dr) x := by
  subst hx
  have hnn := sm_nn h5
  refine loop_0 (fun k i (_ : Unit) => wX_isAllowed_2 post (nI s) sz (nI (n * n)) gc fc en st al hd dr k (nI i)) (fun i _ => ∀ q, q < i → sm_al al q (sm_dg v q) = true) (n * n) () (fun q hq => absurd hq (Nat.not_lt_zero q)) ?_ ?_
  · intro k _ h
    exact br_t (nI_le (Nat.le_refl _) (by omega)) (ht (sm_fit_iff.mpr fun q hq _ => h q hq))
  · intro k i _ hi h hk
    have e : nI s + nI i = nI (s + i) := nI_add _ _
    have e2 : en (nI s + nI i).toNatClampNeg + 1 = nI (sm_dg v i) := by
      rw [e, nI_clamp (by omega), hv i hi, sm_e_def, Int32.sub_add_cancel]
    refine br_f (nI_ge hi (by omega)) ⟨?_, nm_r e2 ⟨vp_in_nI (by omega) (by decide), ?_⟩⟩
    · rw [e]
      exact vp_in_nI (by omega) (by decide)
    · rw [nI_clamp (n := i) (by omega)]
      refine br_c (fun z => hf ?_) (fun z => nm_r (nI_1 i) (hk () ?_))
      · cases hft : sm_fit (sm_al al) (n * n) 0 v with
        | false => rfl
        | true =>
          have := sm_fit_iff.mp hft i hi (Nat.zero_le _)
          rw [sm_al_f.mpr z] at this
          cases this
      · intro q hq
        by_cases w : q = i
        · subst w
          cases hal : sm_al al q (sm_dg v q) with
          | true => rfl
          | false => exact absurd (sm_al_f.mp hal) z
        · exact h q (by omega)
theorem sx_list {post : SX → Prop} {n : Nat} (h1 : 1 ≤ n) (h5 : n ≤ 5) (hE : sm_EN (n * n) en (sm_G n))
    (hp : ∀ st', sm_ST (n * n) en st' (sm_F n al) → post (nI n, nI (n * n), nI (sm_G n).length, nI (sm_F n al).length, en, st', al, hd, dr)) :
    wpX_listFittingSquares post (nI n, nI (n * n), nI (sm_G n).length, fc, en, st, al, hd, dr) := by
  have hnn := sm_nn h5
  have hG := sm_lnT h1 h5
  refine loop_0 (fun k i (t : List (List Nat) × (Nat → Int32)) => wX_listFittingSquares_7 post (nI n) (nI (n * n)) (nI (sm_G n).length) k (nI i) (nI t.1.length) en t.2 al hd dr)
    (fun i t => t.1 = ((sm_G n).take i).filter (sm_fit (sm_al al) (n * n) 0) ∧ sm_ST (n * n) en t.2 t.1) (sm_G n).length ([], st) ⟨by rw [List.take_zero, List.filter_nil], sm_ST_nil⟩ ?_ ?_
  · rintro k ⟨F, st'⟩ ⟨a, b⟩
    have a2 : F = sm_F n al := by
      have a3 : F = ((sm_G n).take (sm_G n).length).filter (sm_fit (sm_al al) (n * n) 0) := a
      rw [List.take_length] at a3
      exact a3
    subst a2
    exact br_t (nI_le (Nat.le_refl _) (by omega)) (hp st' b)
  · rintro k i ⟨F, st'⟩ hi ⟨a, b⟩ hk
    have a3 : F = ((sm_G n).take i).filter (sm_fit (sm_al al) (n * n) 0) := a
    have b3 : sm_ST (n * n) en st' F := b
    have hF : F.length ≤ i := by
      rw [a3]
      refine Nat.le_trans (List.length_filter_le _ _) ?_
      rw [List.length_take]
      omega
    have hmn : i * (n * n) ≤ 428 * 25 := Nat.mul_le_mul (by omega) hnn
    have hg : (sm_G n)[i]? = some (sm_G n)[i] := List.getElem?_eq_getElem hi
    have htk : (sm_G n).take (i + 1) = (sm_G n).take i ++ [(sm_G n)[i]] := by
      rw [List.take_add_one, hg]
      rfl
    have hv := hE i _ hg
    refine br_f (nI_ge hi (by omega)) (nm_r (pk_mul i (n * n)) ?_)
    dsimp only
    refine sx_isAllowed h5 rfl (by omega) hv ?_ ?_
    · intro hft
      refine br_f (by decide) ⟨vp_in_nI (by omega) (by decide), nm_e (nm_r (nI_1 F.length) (nm_r (nI_1 i) ?_))⟩
      have hx := hk (F ++ [(sm_G n)[i]], upd st' F.length (nI (i * (n * n)))) ⟨?_, sm_ST_add b3 (by omega) hv⟩
      · dsimp only at hx
        rw [List.length_append, List.length_singleton] at hx
        rw [nI_clamp (by omega)]
        exact hx
      · show F ++ [(sm_G n)[i]] = _
        rw [htk, List.filter_append, ← a3, List.filter_cons_of_pos hft, List.filter_nil]
    · intro hft
      refine br_t rfl (nm_r (nI_1 i) ?_)
      exact hk (F, st') ⟨by
        show F = _
        rw [htk, List.filter_append, ← a3, List.filter_cons_of_neg (by rw [hft]; exact Bool.false_ne_true), List.filter_nil, List.append_nil], b3⟩
end
