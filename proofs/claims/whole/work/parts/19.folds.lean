/-! negatives, weight, having, corner, inversions -/
def sm_nst (n : Nat) (x : Int32) (a : Int32) (v : List Nat) : Int32 := if nI (sm_ng (sm_dg v) (n * n)) = x then a + 1 else a
def sm_wst (n : Nat) (x : Int32) (a : Int32) (v : List Nat) : Int32 := a + sm_pw x (sm_ng (sm_dg v) (n * n))
def sm_hst (p : Nat) (x : Int32) (a : Int32) (v : List Nat) : Int32 := if sm_e (sm_dg v p) = x then a + 1 else a
theorem sm_ng_nn {n : Nat} (h5 : n ≤ 5) (dg : Nat → Nat) : sm_ng dg (n * n) ≤ 25 := Nat.le_trans (sm_ng_le dg _) (sm_nn h5)
section
variable {n : Nat} {sz dp pls gc fc : Int32} {al hd sq fo ot pa en st dr : Nat → Int32}
theorem sx_negatives {post : Int32 → Prop} {F : List (List Nat)} {x : Int32} (h5 : n ≤ 5) (hF : F.length ≤ 429) (hS : sm_ST (n * n) en st F) (hw : ∀ v, v ∈ F → sm_wd v) (hp : post (F.foldl (sm_nst n x) 0)) :
    wpX_negatives post (sz, nI (n * n), gc, nI F.length, en, st, al, hd, dr) x := by
  refine ⟨F.length + 1, ?_⟩
  refine sm_foldX F (sm_nst n x) (fun k i a => wX_negatives_4 post x sz (nI (n * n)) gc (nI F.length) en st al hd dr k a (nI i)) post ?_ ?_ F 0 0 (F.length + 1) (Nat.zero_le _) List.drop_zero (Nat.lt_succ_self _) hp
  · intro k a hp
    exact br_t (nI_le (Nat.le_refl _) (by omega)) hp
  · intro k i v a hi hv hW
    obtain ⟨s, s1, s2, s3⟩ := hS i v hv
    have hwd := hw v (List.mem_of_getElem? hv)
    unfold sm_nst at hW
    refine br_f (nI_ge hi (by omega)) ?_
    rw [nI_clamp (by omega), s1]
    refine ⟨vp_in_nI (by omega) (by decide), sx_negs h5 rfl s2 (fun q hq => ⟨s3 q hq, sm_dg_le hwd⟩) (br_c (fun z => nm_e (nm_r (nI_1 i) ?_)) (fun z => nm_r (nI_1 i) ?_))⟩
    · rw [if_pos z] at hW
      exact hW
    · rw [if_neg z] at hW
      exact hW
theorem sy_negatives {post : Int32 → SY → Prop} {A : Nat → Int32} {x : Int32} (h1 : 1 ≤ n) (h5 : n ≤ 5) (hA : ∀ q, q < n * n → al (sm_pl n q) = A q) (hp : ∀ dp' sq', post ((sm_F n A).foldl (sm_nst n x) 0) (nI n, dp', al, hd, sq', fo, ot, pa)) :
    wpY_negatives post (nI n, dp, al, hd, sq, fo, ot, pa) x := by
  refine nm_e ⟨(sm_F n A).length + 1, ?_⟩
  refine sy_fold (A := A) (sm_nst n x) (fun k a dp sq => wY_negatives_6 post x k a (nI n) dp al hd sq fo ot pa) (fun a dp' sq' => post a (nI n, dp', al, hd, sq', fo, ot, pa)) ?_ (sm_F n A) 0 _ 0 (upd sq 0 (-2)) (Nat.lt_succ_self _) sm_pos_begin hp
  intro k a dp sq L hpos hn hc
  refine sy_advance h1 h5 hA hpos (fun v L' sq' z zl zw za zp => ?_) (fun dp' sq' z => br_t rfl (hn z dp' sq'))
  have hW := hc v L' sq' z zl zw za zp
  unfold sm_nst at hW
  refine br_f (by decide) (sy_negs h1 h5 zl zw za (br_c (fun w => nm_e ?_) (fun w => ?_)))
  · rw [if_pos w] at hW
    exact hW
  · rw [if_neg w] at hW
    exact hW
theorem sx_weight {post : Int32 → Prop} {F : List (List Nat)} {x : Int32} (h5 : n ≤ 5) (hF : F.length ≤ 429) (hS : sm_ST (n * n) en st F) (hw : ∀ v, v ∈ F → sm_wd v) (hp : post (F.foldl (sm_wst n x) 0)) :
    wpX_weight post (sz, nI (n * n), gc, nI F.length, en, st, al, hd, dr) x := by
  refine ⟨F.length + 1, ?_⟩
  refine sm_foldX F (sm_wst n x) (fun k i a => wX_weight_4 post x sz (nI (n * n)) gc (nI F.length) en st al hd dr k a (nI i)) post ?_ ?_ F 0 0 (F.length + 1) (Nat.zero_le _) List.drop_zero (Nat.lt_succ_self _) hp
  · intro k a hp
    exact br_t (nI_le (Nat.le_refl _) (by omega)) hp
  · intro k i v a hi hv hW
    obtain ⟨s, s1, s2, s3⟩ := hS i v hv
    have hwd := hw v (List.mem_of_getElem? hv)
    have hg := sm_ng_nn h5 (sm_dg v)
    refine br_f (nI_ge hi (by omega)) ?_
    rw [nI_clamp (by omega), s1]
    exact ⟨vp_in_nI (by omega) (by decide), sx_negs h5 rfl s2 (fun q hq => ⟨s3 q hq, sm_dg_le hwd⟩) (sx_power rfl (by omega) (nm_e (nm_r (nI_1 i) hW)))⟩
theorem sy_power {post : Int32 → SY → Prop} {J : Int32 → Int32 → Int32 → (Nat → Int32) → (Nat → Int32) → (Nat → Int32) → (Nat → Int32) → (Nat → Int32) → (Nat → Int32) → Prop} {x a : Int32} {m : Nat} (hm : m < 100)
    (hJ : J (a + sm_pw x m) sz dp al hd sq fo ot pa) : ∃ k, wY_weight_24 post J x a (nI m) sz dp al hd sq fo ot pa k 1 0 := by
  refine loop_0 (fun k i p => wY_weight_24 post J x a (nI m) sz dp al hd sq fo ot pa k p (nI i)) (fun i p => p = sm_pw x i) m 1 rfl ?_ ?_
  · rintro k p rfl
    exact br_t (nI_le (Nat.le_refl _) (by omega)) (nm_e hJ)
  · rintro k i p hi rfl hk
    exact br_f (nI_ge hi (by omega)) (nm_e (nm_r (nI_1 i) (hk _ rfl)))
theorem sy_weight {post : Int32 → SY → Prop} {A : Nat → Int32} {x : Int32} (h1 : 1 ≤ n) (h5 : n ≤ 5) (hA : ∀ q, q < n * n → al (sm_pl n q) = A q) (hp : ∀ dp' sq', post ((sm_F n A).foldl (sm_wst n x) 0) (nI n, dp', al, hd, sq', fo, ot, pa)) :
    wpY_weight post (nI n, dp, al, hd, sq, fo, ot, pa) x := by
  refine nm_e ⟨(sm_F n A).length + 1, ?_⟩
  refine sy_fold (A := A) (sm_wst n x) (fun k a dp sq => wY_weight_6 post x k a (nI n) dp al hd sq fo ot pa) (fun a dp' sq' => post a (nI n, dp', al, hd, sq', fo, ot, pa)) ?_ (sm_F n A) 0 _ 0 (upd sq 0 (-2)) (Nat.lt_succ_self _) sm_pos_begin hp
  intro k a dp sq L hpos hn hc
  refine sy_advance h1 h5 hA hpos (fun v L' sq' z zl zw za zp => ?_) (fun dp' sq' z => br_t rfl (hn z dp' sq'))
  have hg := sm_ng_nn h5 (sm_dg v)
  exact br_f (by decide) (sy_negs h1 h5 zl zw za (sy_power (by omega) (hc v L' sq' z zl zw za zp)))
theorem sx_having {post : Int32 → Prop} {F : List (List Nat)} {r c : Nat} {x : Int32} (h5 : n ≤ 5) (hr : r < n) (hc : c < n) (hF : F.length ≤ 429) (hS : sm_ST (n * n) en st F) (hp : post (F.foldl (sm_hst (r * n + c) x) 0)) :
    ∃ k, wX_having_28 post (nI r) (nI c) x (nI n) pls gc (nI F.length) en st al hd dr k 0 0 := by
  have hl := sm_rc_lt hr hc
  have hnn := sm_nn h5
  refine ⟨F.length + 1, ?_⟩
  refine sm_foldX F (sm_hst (r * n + c) x) (fun k i a => wX_having_28 post (nI r) (nI c) x (nI n) pls gc (nI F.length) en st al hd dr k a (nI i)) post ?_ ?_ F 0 0 (F.length + 1) (Nat.zero_le _) List.drop_zero (Nat.lt_succ_self _) hp
  · intro k a hp
    exact br_t (nI_le (Nat.le_refl _) (by omega)) hp
  · intro k i v a hi hv hW
    obtain ⟨s, s1, s2, s3⟩ := hS i v hv
    unfold sm_hst at hW
    refine br_f (nI_ge hi (by omega)) ?_
    rw [nI_clamp (n := i) (by omega), s1, pk_mul, nI_add, nI_add, nI_clamp (by omega), Nat.add_assoc, s3 _ hl]
    refine ⟨vp_in_nI (by omega) (by decide), vp_in_nI (by omega) (by decide), br_c (fun z => nm_e (nm_r (nI_1 i) ?_)) (fun z => nm_r (nI_1 i) ?_)⟩
    · rw [if_pos z] at hW
      exact hW
    · rw [if_neg z] at hW
      exact hW
theorem sy_having {post : Int32 → SY → Prop} {A : Nat → Int32} {r c : Nat} {x : Int32} (h1 : 1 ≤ n) (h5 : n ≤ 5) (hr : r < n) (hc2 : c < n) (hA : ∀ q, q < n * n → al (sm_pl n q) = A q) (hp : ∀ dp' sq', post ((sm_F n A).foldl (sm_hst (r * n + c) x) 0) (nI n, dp', al, hd, sq', fo, ot, pa)) :
    ∃ k, wY_having_31 post (nI r) (nI c) x k 0 (nI n) 0 al hd (upd sq 0 (-2)) fo ot pa := by
  have hl := sm_rc_lt hr hc2
  refine ⟨(sm_F n A).length + 1, ?_⟩
  refine sy_fold (A := A) (sm_hst (r * n + c) x) (fun k a dp sq => wY_having_31 post (nI r) (nI c) x k a (nI n) dp al hd sq fo ot pa) (fun a dp' sq' => post a (nI n, dp', al, hd, sq', fo, ot, pa)) ?_ (sm_F n A) 0 _ 0 (upd sq 0 (-2)) (Nat.lt_succ_self _) sm_pos_begin hp
  intro k a dp sq L hpos hn hc
  refine sy_advance h1 h5 hA hpos (fun v L' sq' z zl zw za zp => ?_) (fun dp' sq' z => br_t rfl (hn z dp' sq'))
  have hW := hc v L' sq' z zl zw za zp
  unfold sm_hst at hW
  refine br_f (by decide) ?_
  rw [sm_5, nI_clamp (by omega), ← sm_pl_rc hc2, za _ (by omega)]
  refine ⟨vp_in_nI (sm_pl_lt h5 hl) (by decide), br_c (fun w => nm_e ?_) (fun w => ?_)⟩
  · rw [if_pos w] at hW
    exact hW
  · rw [if_neg w] at hW
    exact hW
theorem sx_inv25 {post : Int32 → Prop} {J : Int32 → Int32 → Prop} {j s r : Nat} {a : Int32} (h5 : n ≤ 5) (hr : r < n) (hj : j < 429) (hst : st j = nI s) (hs : s + n * n ≤ 10725)
    (hJ : J (a + sm_sum (fun c => en (s + (r * n + c)) * sm_B (fun q => en (s + q)) n r c) n) (nI (r + 1))) :
    ∃ k, wX_inversions_25 post J (nI j) (nI r) (nI n) pls gc fc en st al hd dr k a 0 := by
  refine loop_0 (fun k i x => wX_inversions_25 post J (nI j) (nI r) (nI n) pls gc fc en st al hd dr k x (nI i)) (fun i x => x = a + sm_sum (fun c => en (s + (r * n + c)) * sm_B (fun q => en (s + q)) n r c) i) n a (Int32.add_zero a).symm ?_ ?_
  · rintro k x rfl
    exact br_t (nI_le (Nat.le_refl _) (by omega)) (nm_r (nI_1 r) hJ)
  · rintro k i x hi rfl hk
    have hl := sm_rc_lt hr hi
    have hnn := sm_nn h5
    refine br_f (nI_ge hi (by omega)) ?_
    rw [nI_clamp (n := j) (by omega), hst]
    refine ⟨vp_in_nI hj (by decide), sx_below h5 hr hi rfl rfl rfl hs ?_⟩
    rw [pk_mul, nI_add, nI_add, nI_clamp (by omega), Nat.add_assoc]
    refine ⟨vp_in_nI hj (by decide), vp_in_nI (by omega) (by decide), nm_e (nm_r (nI_1 i) (hk _ ?_))⟩
    rw [Int32.add_assoc]
    rfl
theorem sx_inv14 {post : Int32 → Prop} {j s : Nat} (h5 : n ≤ 5) (hj : j < 429) (hst : st j = nI s) (hs : s + n * n ≤ 10725) (hp : post (sm_I (fun q => en (s + q)) n)) :
    ∃ k, wX_inversions_14 post (nI j) (nI n) pls gc fc en st al hd dr k 0 0 := by
  refine loop_0 (fun k i x => wX_inversions_14 post (nI j) (nI n) pls gc fc en st al hd dr k x (nI i)) (fun i x => x = sm_sum (fun r => sm_sum (fun c => en (s + (r * n + c)) * sm_B (fun q => en (s + q)) n r c) n) i) n 0 rfl ?_ ?_
  · rintro k x rfl
    exact br_t (nI_le (Nat.le_refl _) (by omega)) hp
  · rintro k i x hi rfl hk
    exact br_f (nI_ge hi (by omega)) (sx_inv25 h5 hi hj hst hs (hk _ rfl))
def sm_Tq (n : Nat) (fo : Nat → Int32) (p q : Nat) : Int32 := if (p / 5 < n ∧ p % 5 < n) ∧ (q / 5 < n ∧ q % 5 < n) ∧ p / 5 < q / 5 ∧ q % 5 < p % 5 then fo p * fo q else 0
theorem sy_inv23 {post : Int32 → SY → Prop} {J : Int32 → Int32 → Prop} {p : Nat} {a : Int32} (h5 : n ≤ 5) (hp25 : p < 25) (hJ : J (a + sm_sum (sm_Tq n fo p) 25) (nI (p + 1))) :
    ∃ k, wY_inversions_23 post J (nI p) (nI n) dp al hd sq fo ot pa k a 0 := by
  refine loop_0 (fun k i x => wY_inversions_23 post J (nI p) (nI n) dp al hd sq fo ot pa k x (nI i)) (fun i x => x = a + sm_sum (sm_Tq n fo p) i) 25 a (Int32.add_zero a).symm ?_ ?_
  · rintro k x rfl
    exact br_t sm_25e (nm_r (nI_1 p) hJ)
  · rintro k i x hi rfl hk
    have five : ¬ (5 : Int32) = 0 := by decide
    have no : ¬ ((p / 5 < n ∧ p % 5 < n) ∧ (i / 5 < n ∧ i % 5 < n) ∧ p / 5 < i / 5 ∧ i % 5 < p % 5) → wY_inversions_82 post J (wY_inversions_23 post J (nI p) (nI n) dp al hd sq fo ot pa k) (a + sm_sum (sm_Tq n fo p) i) (nI p) (nI i) (nI n) dp al hd sq fo ot pa := by
      intro h
      refine br_t rfl (nm_r (nI_1 i) (hk _ ?_))
      show _ = a + (sm_sum (sm_Tq n fo p) i + sm_Tq n fo p i)
      unfold sm_Tq
      rw [if_neg h, Int32.add_zero]
    refine br_f (sm_25 hi) ⟨five, five, ?_⟩
    rw [sm_m5 (p := p) (by omega), sm_d5 (p := p) (by omega), sm_m5 (p := i) (by omega), sm_d5 (p := i) (by omega)]
    refine sy_isPlace h5 (fun h => br_t rfl (no (fun z => h _ _ z.1.1 z.1.2 rfl rfl))) (fun r c hr hc e1 e2 => br_f (by decide) ⟨five, five, ?_⟩)
    have e1' := (nI_eq (by omega) (by omega)).mp e1
    have e2' := (nI_eq (by omega) (by omega)).mp e2
    refine sy_isPlace h5 (fun h => br_t rfl (no (fun z => h _ _ z.2.1.1 z.2.1.2 rfl rfl))) (fun r2 c2 hr2 hc2 e3 e4 => br_f (by decide) ⟨five, five, ?_⟩)
    have e3' := (nI_eq (by omega) (by omega)).mp e3
    have e4' := (nI_eq (by omega) (by omega)).mp e4
    refine pk_le (i / 5) (p / 5) (fun z => no (by omega)) (fun z => ⟨five, five, pk_le (p % 5) (i % 5) (fun w => no (by omega)) (fun w => ?_)⟩)
    refine br_f (by decide) ?_
    rw [nI_clamp (by omega), nI_clamp (by omega)]
    refine ⟨vp_in_nI hp25 (by decide), vp_in_nI hi (by decide), nm_e (nm_r (nI_1 i) (hk _ ?_))⟩
    show _ = a + (sm_sum (sm_Tq n fo p) i + sm_Tq n fo p i)
    rw [Int32.add_assoc]
    congr 2
    unfold sm_Tq
    rw [if_pos (by omega)]
theorem sy_inv14 {post : Int32 → SY → Prop} {e : Nat → Int32} (h5 : n ≤ 5) (hf : ∀ i j, i < n → j < n → fo (5 * i + j) = e (i * n + j)) (hp : post (sm_I e n) (nI n, dp, al, hd, sq, fo, ot, pa)) :
    ∃ k, wY_inversions_14 post (nI n) dp al hd sq fo ot pa k 0 0 := by
  refine loop_0 (fun k i x => wY_inversions_14 post (nI n) dp al hd sq fo ot pa k x (nI i)) (fun i x => x = sm_sum (fun p => sm_sum (sm_Tq n fo p) 25) i) 25 0 rfl ?_ ?_
  · rintro k x rfl
    refine br_t sm_25e ?_
    rw [sm_inv h5 hf (sm_Tq n fo) (fun p q => ⟨fun h => if_pos h, fun h => if_neg h⟩)]
    exact hp
  · rintro k i x hi rfl hk
    exact br_f (sm_25 hi) (sy_inv23 h5 hi (hk _ rfl))
end
theorem i_vc_negatives {k : Nat} {u : SX} {v : SY} (I : i_Rel k u v) (hk : k + 4 ≤ 2049) (v1 : Int32) : wpX_negatives (fun r => wpY_negatives (fun r' v' => r' = r ∧ i_Rel (k + 4) u v') v v1) u v1 := by
  obtain ⟨n, en, st, al, hd, dr, dp, al2, hd2, sq, fo, ot, pa, rfl, rfl, h1, h5, hE, hS, hA, hH⟩ := I
  have hR : sm_Rel n en st al hd al2 hd2 := ⟨h1, h5, hE, hS, hA, hH⟩
  exact sx_negatives h5 (sm_F_len h1 h5) hS (fun v hv => sm_G_wd (sm_F_G hv)) (sy_negatives h1 h5 hA (fun dp' sq' => ⟨rfl, sm_mk_rel _ hR⟩))
theorem i_vc_weight {k : Nat} {u : SX} {v : SY} (I : i_Rel k u v) (hk : k + 4 ≤ 2049) (v1 : Int32) : wpX_weight (fun r => wpY_weight (fun r' v' => r' = r ∧ i_Rel (k + 4) u v') v v1) u v1 := by
  obtain ⟨n, en, st, al, hd, dr, dp, al2, hd2, sq, fo, ot, pa, rfl, rfl, h1, h5, hE, hS, hA, hH⟩ := I
  have hR : sm_Rel n en st al hd al2 hd2 := ⟨h1, h5, hE, hS, hA, hH⟩
  exact sx_weight h5 (sm_F_len h1 h5) hS (fun v hv => sm_G_wd (sm_F_G hv)) (sy_weight h1 h5 hA (fun dp' sq' => ⟨rfl, sm_mk_rel _ hR⟩))
theorem i_vc_having {k : Nat} {u : SX} {v : SY} (I : i_Rel k u v) (hk : k + 4 ≤ 2049) (v1 : Int32) (v2 : Int32) (v3 : Int32) : wpX_having (fun r => wpY_having (fun r' v' => r' = r ∧ i_Rel (k + 4) u v') v v1 v2 v3) u v1 v2 v3 := by
  obtain ⟨n, en, st, al, hd, dr, dp, al2, hd2, sq, fo, ot, pa, rfl, rfl, h1, h5, hE, hS, hA, hH⟩ := I
  have hR : sm_Rel n en st al hd al2 hd2 := ⟨h1, h5, hE, hS, hA, hH⟩
  unfold wpX_having wpY_having
  dsimp only
  refine sx_isPlace h5 (fun hbad => br_t rfl ?_) (fun i j hi hj e1 e2 => br_f (by decide) ?_)
  · exact sy_isPlace_f h5 hbad (br_t rfl ⟨rfl, sm_mk_rel _ hR⟩)
  · subst e1 e2
    refine br_c (fun z => br_t rfl ?_) (fun z => br_c (fun z2 => br_t rfl ?_) (fun z2 => br_f (by decide) ?_))
    · exact sy_isPlace_t h5 hi hj (br_f (by decide) (br_t z ⟨rfl, sm_mk_rel _ hR⟩))
    · exact sy_isPlace_t h5 hi hj (br_f (by decide) (br_f z (br_f (Int32.not_le.mpr z2) ⟨rfl, sm_mk_rel _ hR⟩)))
    · refine sx_having h5 hi hj (sm_F_len h1 h5) hS ?_
      refine sy_isPlace_t h5 hi hj (br_f (by decide) (br_f z (br_t (Int32.not_lt.mp z2) (nm_e ?_))))
      exact sy_having h1 h5 hi hj hA (fun dp' sq' => ⟨rfl, sm_mk_rel _ hR⟩)
theorem i_vc_corner {k : Nat} {u : SX} {v : SY} (I : i_Rel k u v) (hk : k + 4 ≤ 2049) (v1 : Int32) (v2 : Int32) (v3 : Int32) : wpX_corner (fun r => wpY_corner (fun r' v' => r' = r ∧ i_Rel (k + 4) u v') v v1 v2 v3) u v1 v2 v3 := by
  obtain ⟨n, en, st, al, hd, dr, dp, al2, hd2, sq, fo, ot, pa, rfl, rfl, h1, h5, hE, hS, hA, hH⟩ := I
  have hR : sm_Rel n en st al hd al2 hd2 := ⟨h1, h5, hE, hS, hA, hH⟩
  have hFl := sm_F_len (A := al) h1 h5
  unfold wpX_corner wpY_corner
  dsimp only
  refine sx_isNumber (by omega) (fun hb => br_t rfl ?_) (fun j hj e => br_f (by decide) ?_)
  · exact sy_find_f h1 h5 hA hb (fun _ _ _ => br_t rfl ⟨rfl, sm_mk_rel _ hR⟩)
  · subst e
    obtain ⟨v, hv, _, _, _, _⟩ := sm_F_get hj
    obtain ⟨s, s1, s2, s3⟩ := hS j v hv
    refine sx_isPlace h5 (fun hbad => br_t rfl ?_) (fun r c hr hc e1 e2 => br_f (by decide) ?_)
    · exact sy_find_t h1 h5 hA hj hv (fun dp' sq' fo' hfo => br_f (by decide) (sy_isPlace_f h5 hbad (br_t rfl ⟨rfl, sm_mk_rel _ hR⟩)))
    · subst e1 e2
      rw [nI_clamp (by omega), s1]
      refine ⟨vp_in_nI (by omega) (by decide), sx_corner h5 hr hc rfl rfl rfl s2 ?_⟩
      refine sy_find_t h1 h5 hA hj hv (fun dp' sq' fo' hfo => br_f (by decide) (sy_isPlace_t h5 hr hc (br_f (by decide) (sy_corner (by omega) (by omega) rfl rfl ⟨?_, sm_mk_rel _ hR⟩))))
      refine sm_corner h5 hr hc (fun a b ha hb => ?_)
      dsimp only
      rw [← sm_pl_rc hb, hfo _ (sm_rc_lt ha hb), s3 _ (sm_rc_lt ha hb)]
theorem i_vc_inversions {k : Nat} {u : SX} {v : SY} (I : i_Rel k u v) (hk : k + 4 ≤ 2049) (v1 : Int32) : wpX_inversions (fun r => wpY_inversions (fun r' v' => r' = r ∧ i_Rel (k + 4) u v') v v1) u v1 := by
  obtain ⟨n, en, st, al, hd, dr, dp, al2, hd2, sq, fo, ot, pa, rfl, rfl, h1, h5, hE, hS, hA, hH⟩ := I
  have hR : sm_Rel n en st al hd al2 hd2 := ⟨h1, h5, hE, hS, hA, hH⟩
  have hFl := sm_F_len (A := al) h1 h5
  unfold wpX_inversions wpY_inversions
  dsimp only
  refine sx_isNumber (by omega) (fun hb => br_t rfl ?_) (fun j hj e => br_f (by decide) ?_)
  · exact sy_find_f h1 h5 hA hb (fun _ _ _ => br_t rfl ⟨rfl, sm_mk_rel _ hR⟩)
  · subst e
    obtain ⟨v, hv, _, _, _, _⟩ := sm_F_get hj
    obtain ⟨s, s1, s2, s3⟩ := hS j v hv
    refine sx_inv14 h5 (by omega) s1 s2 ?_
    refine sy_find_t h1 h5 hA hj hv (fun dp' sq' fo' hfo => br_f (by decide) (sy_inv14 h5 (fun a b ha hb => ?_) ⟨rfl, sm_mk_rel _ hR⟩))
    dsimp only
    rw [← sm_pl_rc hb, hfo _ (sm_rc_lt ha hb), s3 _ (sm_rc_lt ha hb)]
