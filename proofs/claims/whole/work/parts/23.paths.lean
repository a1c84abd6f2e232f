/-! pathEnd, rings, pattern, withPattern -/
theorem sm_way_off (on : Nat → Bool) (f t : Nat) (hne : ∀ s, s < 4 → ¬ f + s = t) : ∀ k, k ≤ 4 → sm_way on f t k = t → ∀ s, 4 - k ≤ s → s < 4 → on (f + s) = false
  | 0, _, _, s, h1, h2 => by omega
  | k + 1, hk, h, s, h1, h2 => by
    rw [sm_way, sm_beq_f (hne (3 - k) (by omega))] at h
    cases ho : on (f + (3 - k)) with
    | true =>
      rw [ho] at h
      exact absurd h (hne (3 - k) (by omega))
    | false =>
      rw [ho] at h
      by_cases e : s = 3 - k
      · rw [e]
        exact ho
      · exact sm_way_off on f t hne k (by omega) h s (by omega) h2
theorem sm_ry_S (on : Nat → Bool) (n k d c m : Nat) : sm_ry on n (k + 1) d c m = bif Nat.testBit m d then sm_ry on n k (d + 1) c m else sm_ry on n k (d + 1) (c + 1) (sm_fol on n d 30 (sm_way on (4 * d) (4 * d + 4) 4) m).2 := by
  rw [sm_ry, sm_fc_eq]
def sm_pst (n : Nat) (x : Int32) (a : Int32) (v : List Nat) : Int32 := if sm_pat (sm_pon n v) n (4 * n) 0 0 = x then a + 1 else a
section
variable {n : Nat} {sz dp pls gc fc : Int32} {al hd sq fo ot pa en st dr : Nat → Int32} {dg : Nat → Nat} {on : Nat → Bool}
theorem sm_sq_of {s : Nat} {v : List Nat} (h1 : 1 ≤ n) (h5 : n ≤ 5) (hv : v ∈ sm_G n) (hs : s + n * n ≤ 10725) (h : ∀ q, q < n * n → en (s + q) = sm_e (sm_dg v q)) : sm_SQ n en s (sm_pdg n v) :=
  ⟨hs, fun q hq => by
    rw [(sm_path h1 h5 hv).1 q hq]
    exact ⟨h q hq, sm_dg_le (sm_G_wd hv)⟩⟩
theorem sm_yq_of {v : List Nat} (h1 : 1 ≤ n) (h5 : n ≤ 5) (hv : v ∈ sm_G n) (h : ∀ q, q < n * n → fo (sm_pl n q) = sm_e (sm_dg v q)) : sm_YQ n fo (sm_pdg n v) := fun q hq => by
  rw [(sm_path h1 h5 hv).1 q hq]
  exact ⟨h q hq, sm_dg_le (sm_G_wd hv)⟩
theorem sx_rings14 {post : Int32 → Prop} {j s : Nat} (h1 : 1 ≤ n) (h5 : n ≤ 5) (hq : sm_SQ n en s dg) (hon : ∀ t, t < 4 * (n * n) → on t = sm_onX n dg t) (hj : j < 429) (hst : st j = nI s) (hp : post (nI (sm_rx on n (n * n)))) :
    ∃ k, wX_rings_14 post (nI j) (nI n) (nI (n * n)) gc fc en st al hd dr k 0 0 := by
  have hnn := sm_nn h5
  refine loop_0 (fun k i x => wX_rings_14 post (nI j) (nI n) (nI (n * n)) gc fc en st al hd dr k x (nI i)) (fun i x => x = nI (sm_rx on n i)) (n * n) 0 rfl ?_ ?_
  · rintro k x rfl
    exact br_t (nI_le (Nat.le_refl _) (by omega)) hp
  · rintro k i x hi rfl hk
    refine br_f (nI_ge hi (by omega)) ?_
    rw [nI_clamp (by omega), hst]
    refine ⟨vp_in_nI hj (by decide), sx_isFirst h1 h5 hq hon hi rfl rfl (fun z => br_f (by decide) (nm_r (nI_1 _) (nm_r (nI_1 i) (hk _ ?_)))) (fun z => br_t rfl (nm_r (nI_1 i) (hk _ ?_)))⟩
    · rw [sm_rx, z]
      rfl
    · rw [sm_rx, z]
      rfl
theorem sy_rings67 {post : Int32 → SY → Prop} (h1 : 1 ≤ n) (h5 : n ≤ 5) (hq : sm_YQ n fo dg) (hP : sm_Path n dg on) :
    ∀ k d c m pa, d + k = n * n → sm_PA n pa m → (∀ pa', post (nI (sm_ry on n k d c m)) (nI n, dp, al, hd, sq, fo, ot, pa')) → wY_rings_67 post (k + 1) (nI c) (nI d) (nI n) dp al hd sq fo ot pa := by
  have hnn := sm_nn h5
  have hon : sm_oY n dg on := fun t ht => (hP.1 t ht).2
  have e2 : nI n * nI n = nI (n * n) := pk_mul n n
  intro k
  induction k with
  | zero =>
    intro d c m pa hd2 hm hp
    refine br_t ?_ (hp pa)
    rw [e2]
    exact nI_le (by omega) (by omega)
  | succ k ih =>
    intro d c m pa hd2 hm hp
    have hdn : d < n * n := by omega
    have hpl := sm_pl_lt h5 hdn
    rw [sm_ry_S] at hp
    refine br_f ?_ (sy_placeAt h1 h5 (by omega) rfl ?_)
    · rw [e2]
      exact nI_ge hdn (by omega)
    · rw [nI_clamp (by omega), hm d hdn]
      refine ⟨vp_in_nI hpl (by decide), ?_⟩
      cases hb : Nat.testBit m d with
      | true =>
        rw [hb] at hp
        exact br_f (by decide) (nm_r (nI_1 d) (ih (d + 1) c m pa (by omega) hm hp))
      | false =>
        rw [hb] at hp
        obtain ⟨r, cc, hr, hc, hrc⟩ := sm_q_of hdn
        have g1 : nI (sm_pl n d) / 5 = nI r := by rw [sm_d5 (by omega), sm_pl_d h5 hdn, hrc, sm_rd hc]
        have g2 : nI (sm_pl n d) - nI (sm_pl n d) / 5 * 5 = nI cc := by rw [sm_m5 (by omega), sm_pl_m h5 hdn, hrc, sm_rmd hc]
        refine br_t rfl ⟨by decide, by decide, ?_⟩
        refine sy_otherSide (t := (r * n + cc) * 4 + 4) h5 hq hon hr hc g1 g2 (fun s hs => ⟨fun z => ?_, fun z => by omega⟩) (fun s hs hway => ?_) (fun z => ?_)
        · have h0 : (-1 : Int32) < 0 := by decide
          rw [← z] at h0
          exact absurd h0 (nI_pos (by omega))
        · refine sy_follow h1 h5 hq hon hdn hs rfl rfl (fun pa' hpa => nm_r (nI_1 c) (nm_r (nI_1 d) (ih (d + 1) (c + 1) _ pa' (by omega) (hpa m hm) ?_)))
          rw [← hrc, Nat.mul_comm d 4] at hway
          rw [Nat.mul_comm d 4, ← hway]
          exact hp
        · exfalso
          have off := sm_way_off on ((r * n + cc) * 4) ((r * n + cc) * 4 + 4) (fun s hs => by omega) 4 (Nat.le_refl _) z
          rw [← hrc, Nat.mul_comm d 4] at off
          have o0 := off 0 (by omega) (by omega)
          have o1 := off 1 (by omega) (by omega)
          have o2 := off 2 (by omega) (by omega)
          have o3 := off 3 (by omega) (by omega)
          rw [Nat.add_zero] at o0
          rcases hP.2.2.2 d hdn with w | w | w | w
          · rw [o0] at w
            cases w
          · rw [o1] at w
            cases w
          · rw [o2] at w
            cases w
          · rw [o3] at w
            cases w
theorem sy_rings33 {post : Int32 → SY → Prop} (h1 : 1 ≤ n) (h5 : n ≤ 5) (hq : sm_YQ n fo dg) (hP : sm_Path n dg on) :
    ∀ k e m pa, e + k = 4 * n → sm_PA n pa m → (∀ pa', post (nI (sm_ry on n (n * n) 0 0 (sm_rm on n k e m))) (nI n, dp, al, hd, sq, fo, ot, pa')) → wY_rings_33 post (k + 1) (nI e) (nI n) dp al hd sq fo ot pa := by
  have hon : sm_oY n dg on := fun t ht => (hP.1 t ht).2
  have e4 : (4 : Int32) * nI n = nI (4 * n) := pk_mul 4 n
  intro k
  induction k with
  | zero =>
    intro e m pa he hm hp
    refine br_t ?_ ⟨_, sy_rings67 h1 h5 hq hP (n * n) 0 0 m pa (by omega) hm hp⟩
    rw [e4]
    exact nI_le (by omega) (by omega)
  | succ k ih =>
    intro e m pa he hm hp
    have he4 : e < 4 * n := by omega
    rw [sm_rm] at hp
    refine br_f ?_ (sy_isOuterOn h1 h5 hq hon he4 rfl (fun z => ?_) (fun z => ?_))
    · rw [e4]
      exact nI_ge he4 (by omega)
    · rw [z] at hp
      exact br_f (by decide) (sy_endOf h1 h5 hq hon he4 rfl (fun pa' hpa => nm_r (nI_1 e) (ih (e + 1) _ pa' (by omega) (hpa m hm) hp)))
    · rw [z] at hp
      exact br_t rfl (nm_r (nI_1 e) (ih (e + 1) m pa (by omega) hm hp))
theorem sy_rings12 {post : Int32 → SY → Prop} (h1 : 1 ≤ n) (h5 : n ≤ 5) (hq : sm_YQ n fo dg) (hP : sm_Path n dg on) (hp : ∀ pa', post (nI (sm_ry on n (n * n) 0 0 (sm_rm on n (4 * n) 0 0))) (nI n, dp, al, hd, sq, fo, ot, pa')) :
    ∃ k, wY_rings_12 post (nI n) dp k 0 al hd sq fo ot pa := by
  refine loop_0 (fun k i p => wY_rings_12 post (nI n) dp k (nI i) al hd sq fo ot p) (fun i p => ∀ q, q < i → p q = 0) 25 pa (fun q h => absurd h (Nat.not_lt_zero q)) ?_ ?_
  · intro k p h
    refine br_t sm_25e ⟨_, sy_rings33 h1 h5 hq hP (4 * n) 0 0 p (by omega) (fun q hq2 => ?_) hp⟩
    rw [h _ (sm_pl_lt h5 hq2), Nat.zero_testBit]
    rfl
  · intro k i p hi h hk
    refine br_f (sm_25 hi) ⟨vp_in_nI hi (by decide), nm_e (nm_r (nI_1 i) (hk _ ?_))⟩
    intro q hq2
    rw [nI_clamp (by omega), sm_nar0]
    by_cases e : q = i
    · subst e
      rw [pk_us]
    · rw [pk_un e]
      exact h q (by omega)
theorem sx_withPattern {post : Int32 → Prop} {F : List (List Nat)} {x : Int32} (h1 : 1 ≤ n) (h5 : n ≤ 5) (hF : F.length ≤ 429) (hS : sm_ST (n * n) en st F) (hG : ∀ v, v ∈ F → v ∈ sm_G n) (hp : post (F.foldl (sm_pst n x) 0)) :
    wpX_withPattern post (nI n, nI (n * n), gc, nI F.length, en, st, al, hd, dr) x := by
  refine ⟨F.length + 1, ?_⟩
  refine sm_foldX F (sm_pst n x) (fun k i a => wX_withPattern_4 post x (nI n) (nI (n * n)) gc (nI F.length) en st al hd dr k a (nI i)) post ?_ ?_ F 0 0 (F.length + 1) (Nat.zero_le _) List.drop_zero (Nat.lt_succ_self _) hp
  · intro k a hp
    exact br_t (nI_le (Nat.le_refl _) (by omega)) hp
  · intro k i v a hi hv hW
    obtain ⟨s, s1, s2, s3⟩ := hS i v hv
    have hvG := hG v (List.mem_of_getElem? hv)
    unfold sm_pst at hW
    refine br_f (nI_ge hi (by omega)) ?_
    rw [nI_clamp (by omega), s1]
    refine ⟨vp_in_nI (by omega) (by decide), sx_patternOf h1 h5 (sm_sq_of h1 h5 hvG s2 s3) (sm_path h1 h5 hvG).2 rfl (br_c (fun z => nm_e (nm_r (nI_1 i) ?_)) (fun z => nm_r (nI_1 i) ?_))⟩
    · rw [if_pos z] at hW
      exact hW
    · rw [if_neg z] at hW
      exact hW
theorem sy_pat15 {post : Int32 → SY → Prop} {J : Int32 → Int32 → Int32 → (Nat → Int32) → (Nat → Int32) → (Nat → Int32) → (Nat → Int32) → (Nat → Int32) → (Nat → Int32) → Prop} {x a : Int32} {v : List Nat} (h1 : 1 ≤ n) (h5 : n ≤ 5) (hv : v ∈ sm_G n) (ha : ∀ q, q < n * n → sq (sm_pl n q) = sm_e (sm_dg v q))
    (hJ : ∀ fo' pa', J (sm_pst n x a v) (nI n) dp al hd sq fo' ot pa') :
    ∃ k, wY_withPattern_15 post J x a (nI n) dp k 0 al hd sq fo ot pa := by
  refine loop_0 (fun k i f => wY_withPattern_15 post J x a (nI n) dp k (nI i) al hd sq f ot pa) (fun i f => ∀ p, p < i → f p = sq p) 25 fo (fun p h => absurd h (Nat.not_lt_zero p)) ?_ ?_
  · intro k f h
    unfold sm_pst at hJ
    refine br_t sm_25e (sy_patternHere h1 h5 (sm_yq_of h1 h5 hv (fun q hq => ?_)) (sm_path h1 h5 hv).2 (fun pa' => br_c (fun z => nm_e ?_) (fun z => ?_)))
    · rw [h _ (sm_pl_lt h5 hq)]
      exact ha q hq
    · have := hJ f pa'
      rw [if_pos z] at this
      exact this
    · have := hJ f pa'
      rw [if_neg z] at this
      exact this
  · intro k i f hi h hk
    refine br_f (sm_25 hi) ?_
    rw [nI_clamp (by omega)]
    refine ⟨vp_in_nI hi (by decide), vp_in_nI hi (by decide), nm_e (nm_r (nI_1 i) (hk _ ?_))⟩
    intro p hp2
    by_cases e : p = i
    · subst e
      rw [pk_us]
    · rw [pk_un e]
      exact h p (by omega)
theorem sy_withPattern {post : Int32 → SY → Prop} {A : Nat → Int32} {x : Int32} (h1 : 1 ≤ n) (h5 : n ≤ 5) (hA : ∀ q, q < n * n → al (sm_pl n q) = A q) (hp : ∀ dp' sq' fo' pa', post ((sm_F n A).foldl (sm_pst n x) 0) (nI n, dp', al, hd, sq', fo', ot, pa')) :
    wpY_withPattern post (nI n, dp, al, hd, sq, fo, ot, pa) x := by
  refine nm_e ?_
  have key : ∀ (L : List (List Nat)) (a : Int32) (k : Nat) dp sq fo pa, (∀ v, v ∈ L → v ∈ sm_G n) → L.length < k → sm_pos n A dp sq L → (∀ dp' sq' fo' pa', post (L.foldl (sm_pst n x) a) (nI n, dp', al, hd, sq', fo', ot, pa')) → wY_withPattern_6 post x k a (nI n) dp al hd sq fo ot pa := by
    intro L
    induction L with
    | nil =>
      intro a k dp sq fo pa hG hk hpos hp
      obtain ⟨k, rfl⟩ : ∃ m, k = m + 1 := ⟨k - 1, by omega⟩
      exact sy_advance h1 h5 hA hpos (fun v L' sq' z => by cases z) (fun dp' sq' _ => br_t rfl (hp dp' sq' _ _))
    | cons v L ih =>
      intro a k dp sq fo pa hG hk hpos hp
      rw [List.length_cons] at hk
      obtain ⟨k, rfl⟩ : ∃ m, k = m + 1 := ⟨k - 1, by omega⟩
      refine sy_advance h1 h5 hA hpos (fun v2 L' sq' z zl zw za zp => ?_) (fun dp' sq' z => by cases z)
      injection z with z1 z2
      subst z1 z2
      exact br_f (by decide) (sy_pat15 h1 h5 (hG v List.mem_cons_self) (fun q hq => za q (by omega)) (fun fo' pa' => ih _ k _ _ fo' pa' (fun w hw => hG w (List.mem_cons_of_mem _ hw)) (by omega) zp hp))
  exact ⟨_, key (sm_F n A) 0 _ 0 (upd sq 0 (-2)) fo pa (fun v hv => sm_F_G hv) (Nat.lt_succ_self _) sm_pos_begin hp⟩
end
theorem i_vc_pathEnd {k : Nat} {u : SX} {v : SY} (I : i_Rel k u v) (hk : k + 4 ≤ 2049) (v1 : Int32) (v2 : Int32) : wpX_pathEnd (fun r => wpY_pathEnd (fun r' v' => r' = r ∧ i_Rel (k + 4) u v') v v1 v2) u v1 v2 := by
  obtain ⟨n, en, st, al, hd, dr, dp, al2, hd2, sq, fo, ot, pa, rfl, rfl, h1, h5, hE, hS, hA, hH⟩ := I
  have hR : sm_Rel n en st al hd al2 hd2 := ⟨h1, h5, hE, hS, hA, hH⟩
  have hFl := sm_F_len (A := al) h1 h5
  have e4 : (4 : Int32) * nI n = nI (4 * n) := pk_mul 4 n
  unfold wpX_pathEnd wpY_pathEnd
  dsimp only
  refine sx_isNumber (by omega) (fun hb => br_t rfl ?_) (fun j hj e => br_f (by decide) ?_)
  · exact sy_find_f h1 h5 hA hb (fun _ _ _ => br_t rfl ⟨rfl, sm_mk_rel _ hR⟩)
  · subst e
    obtain ⟨v, hv, _, hvG, _, _⟩ := sm_F_get hj
    obtain ⟨s, s1, s2, s3⟩ := hS j v hv
    have hq := sm_sq_of h1 h5 hvG s2 s3
    have hP := (sm_path h1 h5 hvG).2
    have hon : ∀ t, t < 4 * (n * n) → sm_pon n v t = sm_onX n (sm_pdg n v) t := fun t ht => (hP.1 t ht).1
    have honY : sm_oY n (sm_pdg n v) (sm_pon n v) := fun t ht => (hP.1 t ht).2
    refine br_c (fun z => ?_) (fun z => br_c (fun z2 => ?_) (fun z2 => ?_))
    · exact sy_find_t h1 h5 hA hj hv (fun _ _ _ _ => br_f (by decide) (br_t z ⟨rfl, sm_mk_rel _ hR⟩))
    · obtain ⟨e, he, rfl⟩ := nI_of z
      have he4 : e < 4 * n := by
        rw [e4] at z2
        exact (nI_ltI he (by omega)).mp z2
      have hop := sm_op_lt h5 he4
      refine sx_outerPort h1 h5 he4 rfl ?_
      rw [nI_clamp (by omega), s1]
      refine ⟨vp_in_nI (by omega) (by decide), sx_isOn h1 h5 hq hop rfl rfl (fun o => br_f (by decide) ⟨vp_in_nI (by omega) (by decide), sx_endOfPath h1 h5 hq hon hop rfl rfl ?_⟩) (fun o => br_t rfl ?_)⟩
      · have o2 : sm_pon n v (sm_op n e) = true := (hon _ hop).trans o
        refine sy_find_t h1 h5 hA hj hv (fun dp' sq' fo' hfo => br_f (by decide) (br_f z (br_t z2 (sy_isOuterOn h1 h5 (sm_yq_of h1 h5 hvG hfo) honY he4 rfl (fun _ => br_f (by decide) (sy_endOf h1 h5 (sm_yq_of h1 h5 hvG hfo) honY he4 rfl (fun pa' _ => ⟨?_, sm_mk_rel _ hR⟩))) (fun w => ?_)))))
        · rw [(hP.2.1 e he4 o2).1]
        · rw [o2] at w
          cases w
      · have o2 : sm_pon n v (sm_op n e) = false := (hon _ hop).trans o
        refine sy_find_t h1 h5 hA hj hv (fun dp' sq' fo' hfo => br_f (by decide) (br_f z (br_t z2 (sy_isOuterOn h1 h5 (sm_yq_of h1 h5 hvG hfo) honY he4 rfl (fun w => ?_) (fun _ => br_t rfl ⟨rfl, sm_mk_rel _ hR⟩)))))
        rw [o2] at w
        cases w
    · exact sy_find_t h1 h5 hA hj hv (fun _ _ _ _ => br_f (by decide) (br_f z (br_f z2 ⟨rfl, sm_mk_rel _ hR⟩)))
theorem i_vc_rings {k : Nat} {u : SX} {v : SY} (I : i_Rel k u v) (hk : k + 4 ≤ 2049) (v1 : Int32) : wpX_rings (fun r => wpY_rings (fun r' v' => r' = r ∧ i_Rel (k + 4) u v') v v1) u v1 := by
  obtain ⟨n, en, st, al, hd, dr, dp, al2, hd2, sq, fo, ot, pa, rfl, rfl, h1, h5, hE, hS, hA, hH⟩ := I
  have hR : sm_Rel n en st al hd al2 hd2 := ⟨h1, h5, hE, hS, hA, hH⟩
  have hFl := sm_F_len (A := al) h1 h5
  unfold wpX_rings wpY_rings
  dsimp only
  refine sx_isNumber (by omega) (fun hb => br_t rfl ?_) (fun j hj e => br_f (by decide) ?_)
  · exact sy_find_f h1 h5 hA hb (fun _ _ _ => br_t rfl ⟨rfl, sm_mk_rel _ hR⟩)
  · subst e
    obtain ⟨v, hv, _, hvG, _, _⟩ := sm_F_get hj
    obtain ⟨s, s1, s2, s3⟩ := hS j v hv
    have hP := (sm_path h1 h5 hvG).2
    refine sx_rings14 h1 h5 (sm_sq_of h1 h5 hvG s2 s3) (fun t ht => (hP.1 t ht).1) (by omega) s1 ?_
    refine sy_find_t h1 h5 hA hj hv (fun dp' sq' fo' hfo => br_f (by decide) (sy_rings12 h1 h5 (sm_yq_of h1 h5 hvG hfo) hP (fun pa' => ⟨?_, sm_mk_rel _ hR⟩)))
    rw [hP.2.2.1]
theorem i_vc_pattern {k : Nat} {u : SX} {v : SY} (I : i_Rel k u v) (hk : k + 4 ≤ 2049) (v1 : Int32) : wpX_pattern (fun r => wpY_pattern (fun r' v' => r' = r ∧ i_Rel (k + 4) u v') v v1) u v1 := by
  obtain ⟨n, en, st, al, hd, dr, dp, al2, hd2, sq, fo, ot, pa, rfl, rfl, h1, h5, hE, hS, hA, hH⟩ := I
  have hR : sm_Rel n en st al hd al2 hd2 := ⟨h1, h5, hE, hS, hA, hH⟩
  have hFl := sm_F_len (A := al) h1 h5
  unfold wpX_pattern wpY_pattern
  dsimp only
  refine sx_isNumber (by omega) (fun hb => br_t rfl ?_) (fun j hj e => br_f (by decide) ?_)
  · exact sy_find_f h1 h5 hA hb (fun _ _ _ => br_t rfl ⟨rfl, sm_mk_rel _ hR⟩)
  · subst e
    obtain ⟨v, hv, _, hvG, _, _⟩ := sm_F_get hj
    obtain ⟨s, s1, s2, s3⟩ := hS j v hv
    have hP := (sm_path h1 h5 hvG).2
    rw [nI_clamp (by omega), s1]
    refine ⟨vp_in_nI (by omega) (by decide), sx_patternOf h1 h5 (sm_sq_of h1 h5 hvG s2 s3) hP rfl ?_⟩
    exact sy_find_t h1 h5 hA hj hv (fun dp' sq' fo' hfo => br_f (by decide) (sy_patternHere h1 h5 (sm_yq_of h1 h5 hvG hfo) hP (fun pa' => ⟨rfl, sm_mk_rel _ hR⟩)))
theorem i_vc_withPattern {k : Nat} {u : SX} {v : SY} (I : i_Rel k u v) (hk : k + 4 ≤ 2049) (v1 : Int32) : wpX_withPattern (fun r => wpY_withPattern (fun r' v' => r' = r ∧ i_Rel (k + 4) u v') v v1) u v1 := by
  obtain ⟨n, en, st, al, hd, dr, dp, al2, hd2, sq, fo, ot, pa, rfl, rfl, h1, h5, hE, hS, hA, hH⟩ := I
  have hR : sm_Rel n en st al hd al2 hd2 := ⟨h1, h5, hE, hS, hA, hH⟩
  exact sx_withPattern h1 h5 (sm_F_len h1 h5) hS (fun v hv => sm_F_G hv) (sy_withPattern h1 h5 hA (fun dp' sq' fo' pa' => ⟨rfl, sm_mk_rel _ hR⟩))
