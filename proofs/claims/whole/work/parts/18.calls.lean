/-! load, count, entry, isGood, rank -/
section
variable {n : Nat} {sz dp pls gc fc : Int32} {al hd sq fo ot pa en st dr : Nat → Int32}
theorem sx_loadL {post : Int32 → SX → Prop} {j s : Nat} (h5 : n ≤ 5) (hj : j < 429) (hst : st j = nI s) (hs : s + n * n ≤ 10725) (hp : ∀ hd', (∀ q, q < n * n → hd' q = en (s + q)) → post 1 (sz, nI (n * n), gc, fc, en, st, al, hd', dr)) :
    ∃ k, wX_load_12 post (nI j) sz (nI (n * n)) gc fc k 0 en st al hd dr := by
  have hnn := sm_nn h5
  refine loop_0 (fun k i h => wX_load_12 post (nI j) sz (nI (n * n)) gc fc k (nI i) en st al h dr) (fun i h => ∀ q, q < i → h q = en (s + q)) (n * n) hd (fun q h => absurd h (Nat.not_lt_zero q)) ?_ ?_
  · intro k h hh
    exact br_t (nI_le (Nat.le_refl _) (by omega)) (hp h hh)
  · intro k i h hi hh hk
    refine br_f (nI_ge hi (by omega)) ?_
    rw [nI_clamp (n := j) (by omega), hst, nI_add, nI_clamp (n := i) (by omega), nI_clamp (n := s + i) (by omega)]
    refine ⟨vp_in_nI hj (by decide), vp_in_nI (by omega) (by decide), vp_in_nI (by omega) (by decide), nm_e (nm_r (nI_1 i) (hk _ ?_))⟩
    intro q hq
    by_cases e : q = i
    · subst e
      rw [pk_us]
    · rw [pk_un e]
      exact hh q (by omega)
theorem sy_loadL {post : Int32 → SY → Prop} (hp : ∀ hd', (∀ p, p < 25 → hd' p = fo p) → post 1 (sz, dp, al, hd', sq, fo, ot, pa)) :
    ∃ k, wY_load_12 post sz dp k 0 al hd sq fo ot pa := by
  refine loop_0 (fun k i h => wY_load_12 post sz dp k (nI i) al h sq fo ot pa) (fun i h => ∀ p, p < i → h p = fo p) 25 hd (fun q h => absurd h (Nat.not_lt_zero q)) ?_ ?_
  · intro k h hh
    exact br_t sm_25e (hp h hh)
  · intro k i h hi hh hk
    refine br_f (sm_25 hi) ?_
    rw [nI_clamp (by omega)]
    refine ⟨vp_in_nI hi (by decide), vp_in_nI hi (by decide), nm_e (nm_r (nI_1 i) (hk _ ?_))⟩
    intro q hq
    by_cases e : q = i
    · subst e
      rw [pk_us]
    · rw [pk_un e]
      exact hh q (by omega)
/-- Y's loops over all fitting squares -/
theorem sy_fold {α : Type} {A : Nat → Int32} (step : α → List Nat → α) (W : Nat → α → Int32 → (Nat → Int32) → Prop) (R : α → Int32 → (Nat → Int32) → Prop)
    (hs : ∀ k a dp sq L, sm_pos n A dp sq L → (L = [] → ∀ dp' sq', R a dp' sq') →
      (∀ v L' sq', L = v :: L' → v.length = n * n → sm_wd v → sm_ag (sm_pl n) sq' v → sm_pos n A (nI (n * n)) sq' L' → W k (step a v) (nI (n * n)) sq') → W (k + 1) a dp sq) :
    ∀ (L : List (List Nat)) (a : α) (k : Nat) dp sq, L.length < k → sm_pos n A dp sq L → (∀ dp' sq', R (L.foldl step a) dp' sq') → W k a dp sq := by
  intro L
  induction L with
  | nil =>
    intro a k dp sq hk hpos hp
    obtain ⟨k, rfl⟩ : ∃ m, k = m + 1 := ⟨k - 1, by omega⟩
    exact hs k a dp sq [] hpos (fun _ => hp) (fun v L' sq' z => by cases z)
  | cons v L ih =>
    intro a k dp sq hk hpos hp
    rw [List.length_cons] at hk
    obtain ⟨k, rfl⟩ : ∃ m, k = m + 1 := ⟨k - 1, by omega⟩
    refine hs k a dp sq (v :: L) hpos (fun z => by cases z) (fun v2 L' sq' z zl zw za zp => ?_)
    injection z with z1 z2
    subst z1 z2
    exact ih _ k _ _ (by omega) zp hp
theorem sm_fold_len : ∀ (L : List (List Nat)) (i : Nat), L.foldl (fun (a : Int32) _ => a + 1) (nI i) = nI (i + L.length)
  | [], _ => rfl
  | v :: L, i => by
    rw [List.foldl_cons, nI_1, sm_fold_len L (i + 1), List.length_cons, show i + 1 + L.length = i + (L.length + 1) by omega]
theorem sy_count {post : Int32 → SY → Prop} {A : Nat → Int32} (h1 : 1 ≤ n) (h5 : n ≤ 5) (hA : ∀ q, q < n * n → al (sm_pl n q) = A q) (hp : ∀ dp' sq', post (nI (sm_F n A).length) (nI n, dp', al, hd, sq', fo, ot, pa)) :
    wpY_count post (nI n, dp, al, hd, sq, fo, ot, pa) := by
  refine nm_e ⟨(sm_F n A).length + 1, ?_⟩
  refine sy_fold (A := A) (fun (a : Int32) _ => a + 1) (fun k a dp sq => wY_count_6 post k a (nI n) dp al hd sq fo ot pa) (fun a dp' sq' => post a (nI n, dp', al, hd, sq', fo, ot, pa)) ?_ (sm_F n A) 0 _ 0 (upd sq 0 (-2)) (Nat.lt_succ_self _) sm_pos_begin ?_
  · intro k a dp sq L hpos hn hc
    exact sy_advance h1 h5 hA hpos (fun v L' sq' z zl zw za zp => br_f (by decide) (nm_e (hc v L' sq' z zl zw za zp))) (fun dp' sq' z => br_t rfl (hn z dp' sq'))
  · intro dp' sq'
    have := sm_fold_len (sm_F n A) 0
    rw [Nat.zero_add] at this
    show post (List.foldl (fun (a : Int32) _ => a + 1) (nI 0) (sm_F n A)) _
    rw [this]
    exact hp dp' sq'
theorem sx_isGood {post : Int32 → Prop} (h1 : 1 ≤ n) (h5 : n ≤ 5) (ht : sm_goodX hd n → post 1) (hf : ¬ sm_goodX hd n → post 0) : wpX_isGood post (nI n, nI (n * n), gc, fc, en, st, al, hd, dr) := by
  have hnn := sm_nn h5
  refine loop_0 (fun k i (_ : Unit) => wX_isGood_2 post (nI n) (nI (n * n)) gc fc en st al hd dr k (nI i)) (fun i _ => ∀ q, q < i → sm_okI n (q % n) (sm_R hd n (q / n) (q % n)) ∧ sm_okI n (q / n) (sm_K hd n (q / n) (q % n))) (n * n) () (fun q hq => absurd hq (Nat.not_lt_zero q)) ?_ ?_
  · intro k _ h
    exact br_t (nI_le (Nat.le_refl _) (by omega)) (ht h)
  · intro k i _ hi h hk
    refine br_f (nI_ge hi (by omega)) (sx_altH h1 h5 (sm_q_r hi) (sm_q_c hi) (by rw [sm_q_eq]) (fun z => br_f (by decide) (nm_r (nI_1 i) (hk () ?_))) (fun z => br_t rfl (hf (fun w => z (w i hi)))))
    intro q hq
    by_cases e : q = i
    · subst e
      exact z
    · exact h q (by omega)
theorem sy_alt47 {post : Int32 → Prop} {J : Int32 → Int32 → Int32 → Prop} {x1 x2 x4 z0 z1 : Int32} {i : Nat} {g : Nat → Int32} (hz0 : z0 = g i) (hz1 : z1 = sm_sum g i) (h : sm_flag (fun q => 0 ≤ sm_sum g (q + 1) ∧ sm_sum g (q + 1) ≤ 1) i x4)
    (hJ : ∀ y, sm_flag (fun q => 0 ≤ sm_sum g (q + 1) ∧ sm_sum g (q + 1) ≤ 1) (i + 1) y → J (sm_sum g (i + 1)) y (nI (i + 1))) :
    wY_alternates_47 post J x1 x2 x4 (nI i) z0 z1 sz dp al hd sq fo ot pa := by
  subst hz0 hz1
  refine nm_r (show sm_sum g i + g i = sm_sum g (i + 1) from rfl) (br_c (fun z => nm_r (nI_1 i) (hJ _ (sm_flag_off h z))) (fun z => br_c (fun w => nm_r (nI_1 i) (hJ _ (sm_flag_f (fun q => Int32.not_lt.mpr q.1 w)))) (fun w => br_c (fun w2 => nm_r (nI_1 i) (hJ _ (sm_flag_f (fun q => Int32.not_lt.mpr q.2 w2)))) (fun w2 => nm_r (nI_1 i) (hJ _ (sm_flag_t h z ⟨Int32.not_lt.mp w, Int32.not_lt.mp w2⟩))))))
theorem sy_alternates {post : Int32 → Prop} {k : Nat} {x y : Int32} {g : Nat → Int32} (h1 : 1 ≤ n) (h5 : n ≤ 5) (hk2 : k < n) (hx : x = nI k) (hg : (y = 0 ∧ ∀ i, i < n → hd (5 * i + k) = g i) ∨ (¬ y = 0 ∧ ∀ i, i < n → hd (5 * k + i) = g i))
    (ht : sm_alt (fun i => sm_sum g (i + 1)) n → post 1) (hf : ¬ sm_alt (fun i => sm_sum g (i + 1)) n → post 0) :
    wpY_alternates post (nI n, dp, al, hd, sq, fo, ot, pa) x y := by
  subst hx
  refine loop_0 (fun m i (t : Int32 × Int32) => wY_alternates_8 post (nI k) y (nI n) dp al hd sq fo ot pa m t.1 t.2 (nI i)) (fun i t => t.1 = sm_sum g i ∧ sm_flag (fun q => 0 ≤ sm_sum g (q + 1) ∧ sm_sum g (q + 1) ≤ 1) i t.2) n (0, 1) ⟨rfl, sm_flag_0⟩ ?_ ?_
  · rintro m ⟨a, b⟩ ⟨ha, hb⟩
    dsimp only at ha hb
    have e1 : sm_sum g n = sm_sum g (n - 1 + 1) := by rw [show n - 1 + 1 = n by omega]
    refine br_t (nI_le (Nat.le_refl _) (by omega)) ?_
    dsimp only
    rcases hb with hb | hb
    · rw [hb.1, ha]
      refine br_f (by decide) (br_c (fun z => ht ⟨hb.2, e1.symm.trans z⟩) (fun z => hf (fun w => z (e1.trans w.2))))
    · rw [hb.1]
      exact br_t rfl (hf (fun w => hb.2 w.1))
  · rintro m i ⟨a, b⟩ hi ⟨ha, hb⟩ hk
    dsimp only at ha hb
    refine br_f (nI_ge hi (by omega)) ?_
    rcases hg with ⟨gy, gh⟩ | ⟨gy, gh⟩
    · refine br_t gy ?_
      rw [sm_5, nI_clamp (by omega)]
      exact ⟨vp_in_nI (by omega) (by decide), sy_alt47 (gh i hi) ha hb (fun y hy => hk (sm_sum g (i + 1), y) ⟨rfl, hy⟩)⟩
    · refine br_f gy ?_
      rw [sm_5, nI_clamp (by omega)]
      exact ⟨vp_in_nI (by omega) (by decide), sy_alt47 (gh i hi) ha hb (fun y hy => hk (sm_sum g (i + 1), y) ⟨rfl, hy⟩)⟩
theorem sy_isGood {post : Int32 → Prop} {h : Nat → Int32} (h1 : 1 ≤ n) (h5 : n ≤ 5) (hH : ∀ q, q < n * n → hd (sm_pl n q) = h q) (ht : sm_goodY h n → post 1) (hf : ¬ sm_goodY h n → post 0) :
    wpY_isGood post (nI n, dp, al, hd, sq, fo, ot, pa) := by
  refine loop_0 (fun m i y => wY_isGood_4 post (nI n) dp al hd sq fo ot pa m y (nI i)) (fun i y => sm_flag (fun k => sm_alt (fun i => sm_R h n k i) n ∧ sm_alt (fun i => sm_K h n i k) n) i y) n 1 sm_flag_0 ?_ ?_
  · intro m y hy
    refine br_t (nI_le (Nat.le_refl _) (by omega)) ?_
    rcases hy with hy | hy
    · rw [hy.1]
      exact br_f (by decide) (ht hy.2)
    · rw [hy.1]
      exact br_t rfl (hf hy.2)
  · intro m i y hi hy hk
    refine br_f (nI_ge hi (by omega)) (br_c (fun z => nm_r (nI_1 i) (hk _ (sm_flag_off hy z))) (fun z => ?_))
    refine sy_alternates (g := fun j => h (i * n + j)) h1 h5 hi rfl (Or.inr ⟨by decide, fun j hj => ?_⟩) (fun a => br_f (by decide) ?_) (fun a => br_t rfl (nm_r (nI_1 i) (hk _ (sm_flag_f (fun w => a w.1)))))
    · rw [← sm_pl_rc hj]
      exact hH _ (sm_rc_lt hi hj)
    · refine sy_alternates (g := fun j => h (i + j * n)) h1 h5 hi rfl (Or.inl ⟨rfl, fun j hj => ?_⟩) (fun b => br_f (by decide) (nm_r (nI_1 i) (hk _ (sm_flag_t hy z ⟨a, b⟩)))) (fun b => br_t rfl (nm_r (nI_1 i) (hk _ (sm_flag_f (fun w => b w.2)))))
      rw [← sm_pl_cr hi]
      exact hH _ (by rw [Nat.add_comm]; exact sm_rc_lt hj hi)
theorem sx_rank {post : Int32 → Prop} {F : List (List Nat)} {P : List Nat → Bool} (h5 : n ≤ 5) (hF : F.length ≤ 429) (hS : sm_ST (n * n) en st F) (hP : ∀ v, P v = true ↔ ∀ q, q < n * n → sm_e (sm_dg v q) = hd q) (hp : post (sm_first (-2) P F 0)) :
    wpX_rank post (sz, nI (n * n), gc, nI F.length, en, st, al, hd, dr) := by
  refine ⟨F.length + 1, ?_⟩
  refine sm_firstX (-2) F P (fun k i => wX_rank_2 post sz (nI (n * n)) gc (nI F.length) en st al hd dr k (nI i)) post ?_ ?_ F 0 (F.length + 1) (Nat.zero_le _) List.drop_zero (Nat.lt_succ_self _) hp
  · intro k hp
    exact br_t (nI_le (Nat.le_refl _) (by omega)) hp
  · intro k i v hi hv ht hf
    obtain ⟨s, s1, s2, s3⟩ := hS i v hv
    refine br_f (nI_ge hi (by omega)) ?_
    rw [nI_clamp (by omega), s1]
    refine ⟨vp_in_nI (by omega) (by decide), sx_isAtHand h5 rfl s2 (fun z => br_f (by decide) (ht ((hP v).mpr (fun q hq => (s3 q hq).symm.trans (z q hq))))) (fun z => br_t rfl (nm_r (nI_1 i) (hf ?_)))⟩
    cases e : P v with
    | false => rfl
    | true => exact absurd (fun q hq => (s3 q hq).trans ((hP v).mp e q hq)) z
end
theorem i_vc_load {k : Nat} {u : SX} {v : SY} (I : i_Rel k u v) (hk : k + 4 ≤ 2049) (v1 : Int32) : wpX_load (fun r u' => wpY_load (fun r' v' => r' = r ∧ i_Rel (k + 4) u' v') v v1) u v1 := by
  obtain ⟨n, en, st, al, hd, dr, dp, al2, hd2, sq, fo, ot, pa, rfl, rfl, h1, h5, hE, hS, hA, hH⟩ := I
  have hR : sm_Rel n en st al hd al2 hd2 := ⟨h1, h5, hE, hS, hA, hH⟩
  have hFl := sm_F_len (A := al) h1 h5
  unfold wpX_load wpY_load
  dsimp only
  refine sx_isNumber (by omega) (fun hb => br_t rfl ?_) (fun j hj e => br_f (by decide) ?_)
  · exact sy_find_f h1 h5 hA hb (fun _ _ _ => br_t rfl ⟨rfl, sm_mk_rel _ hR⟩)
  · subst e
    obtain ⟨v, hv, _, _, _, _⟩ := sm_F_get hj
    obtain ⟨s, s1, s2, s3⟩ := hS j v hv
    refine sx_loadL h5 (by omega) s1 s2 (fun hd' hh => ?_)
    refine sy_find_t h1 h5 hA hj hv (fun dp' sq' fo' hfo => br_f (by decide) (sy_loadL (fun hd2' hh2 => ⟨rfl, sm_mk_rel _ ⟨h1, h5, hE, hS, hA, fun q hq => ?_⟩⟩)))
    dsimp only at hh2
    rw [hh2 _ (sm_pl_lt h5 hq), hfo q hq, hh q hq, s3 q hq]
theorem i_vc_count {k : Nat} {u : SX} {v : SY} (I : i_Rel k u v) (hk : k + 4 ≤ 2049) : wpX_count (fun r => wpY_count (fun r' v' => r' = r ∧ i_Rel (k + 4) u v') v) u := by
  obtain ⟨n, en, st, al, hd, dr, dp, al2, hd2, sq, fo, ot, pa, rfl, rfl, h1, h5, hE, hS, hA, hH⟩ := I
  have hR : sm_Rel n en st al hd al2 hd2 := ⟨h1, h5, hE, hS, hA, hH⟩
  unfold wpX_count
  dsimp only
  exact sy_count h1 h5 hA (fun dp' sq' => ⟨rfl, sm_mk_rel _ hR⟩)
theorem i_vc_entry {k : Nat} {u : SX} {v : SY} (I : i_Rel k u v) (hk : k + 4 ≤ 2049) (v1 : Int32) (v2 : Int32) (v3 : Int32) : wpX_entry (fun r => wpY_entry (fun r' v' => r' = r ∧ i_Rel (k + 4) u v') v v1 v2 v3) u v1 v2 v3 := by
  obtain ⟨n, en, st, al, hd, dr, dp, al2, hd2, sq, fo, ot, pa, rfl, rfl, h1, h5, hE, hS, hA, hH⟩ := I
  have hR : sm_Rel n en st al hd al2 hd2 := ⟨h1, h5, hE, hS, hA, hH⟩
  have hFl := sm_F_len (A := al) h1 h5
  have hnn := sm_nn h5
  unfold wpX_entry wpY_entry
  dsimp only
  refine sx_isNumber (by omega) (fun hb => br_t rfl ?_) (fun j hj e => br_f (by decide) ?_)
  · exact sy_find_f h1 h5 hA hb (fun _ _ _ => br_t rfl ⟨rfl, sm_mk_rel _ hR⟩)
  · subst e
    obtain ⟨v, hv, _, _, _, _⟩ := sm_F_get hj
    obtain ⟨s, s1, s2, s3⟩ := hS j v hv
    refine sx_isPlace h5 (fun hbad => br_t rfl ?_) (fun r c hr hc e1 e2 => br_f (by decide) ?_)
    · exact sy_find_t h1 h5 hA hj hv (fun dp' sq' fo' hfo => br_f (by decide) (sy_isPlace_f h5 hbad (br_t rfl ⟨rfl, sm_mk_rel _ hR⟩)))
    · subst e1 e2
      have hl := sm_rc_lt hr hc
      rw [nI_clamp (by omega), s1, pk_mul, nI_add, nI_add, nI_clamp (by omega)]
      refine ⟨vp_in_nI (by omega) (by decide), vp_in_nI (by omega) (by decide), ?_⟩
      refine sy_find_t h1 h5 hA hj hv (fun dp' sq' fo' hfo => br_f (by decide) (sy_isPlace_t h5 hr hc (br_f (by decide) ?_)))
      dsimp only
      rw [sm_5, nI_clamp (by omega), Nat.add_assoc, s3 _ hl, ← sm_pl_rc hc, hfo _ hl]
      exact ⟨vp_in_nI (sm_pl_lt h5 hl) (by decide), rfl, sm_mk_rel _ hR⟩
theorem i_vc_isGood {k : Nat} {u : SX} {v : SY} (I : i_Rel k u v) (hk : k + 4 ≤ 2049) : wpX_isGood (fun r => wpY_isGood (fun r' => r' = r ∧ i_Rel (k + 4) u v) v) u := by
  obtain ⟨n, en, st, al, hd, dr, dp, al2, hd2, sq, fo, ot, pa, rfl, rfl, h1, h5, hE, hS, hA, hH⟩ := I
  have hR : sm_Rel n en st al hd al2 hd2 := ⟨h1, h5, hE, hS, hA, hH⟩
  refine sx_isGood h1 h5 (fun z => ?_) (fun z => ?_)
  · exact sy_isGood h1 h5 hH (fun _ => ⟨rfl, sm_mk_rel _ hR⟩) (fun w => absurd ((sm_good_iff h1).mp z) w)
  · exact sy_isGood h1 h5 hH (fun w => absurd ((sm_good_iff h1).mpr w) z) (fun _ => ⟨rfl, sm_mk_rel _ hR⟩)
theorem i_vc_rank {k : Nat} {u : SX} {v : SY} (I : i_Rel k u v) (hk : k + 4 ≤ 2049) : wpX_rank (fun r => wpY_rank (fun r' v' => r' = r ∧ i_Rel (k + 4) u v') v) u := by
  obtain ⟨n, en, st, al, hd, dr, dp, al2, hd2, sq, fo, ot, pa, rfl, rfl, h1, h5, hE, hS, hA, hH⟩ := I
  have hR : sm_Rel n en st al hd al2 hd2 := ⟨h1, h5, hE, hS, hA, hH⟩
  refine sx_rank h5 (sm_F_len h1 h5) hS (P := sm_eqP n hd2) (fun v => ?_) ?_
  · unfold sm_eqP
    rw [decide_eq_true_iff]
    exact ⟨fun h q hq => (h q hq).trans (hH q hq), fun h q hq => (h q hq).trans (hH q hq).symm⟩
  · unfold wpY_rank
    dsimp only
    exact sy_numberOf h1 h5 hA (Or.inr ⟨by decide, rfl⟩) (fun dp' sq' => ⟨rfl, sm_mk_rel _ hR⟩)
