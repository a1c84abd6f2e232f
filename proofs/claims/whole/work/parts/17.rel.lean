/-! the relation, the constructors, the calls that store -/
def sm_Rel (n : Nat) (en st al hd al2 hd2 : Nat → Int32) : Prop :=
  1 ≤ n ∧ n ≤ 5 ∧ sm_EN (n * n) en (sm_G n) ∧ sm_ST (n * n) en st (sm_F n al) ∧ (∀ q, q < n * n → al2 (sm_pl n q) = al q) ∧ (∀ q, q < n * n → hd2 (sm_pl n q) = hd q)
/-- X's list holds the good squares and the starts of those that fit; what is allowed and the square at hand are alike -/
def i_Rel (_ : Nat) (u : SX) (v : SY) : Prop :=
  ∃ (n : Nat) (en st al hd dr : Nat → Int32) (dp : Int32) (al2 hd2 sq fo ot pa : Nat → Int32),
    u = (nI n, nI (n * n), nI (sm_G n).length, nI (sm_F n al).length, en, st, al, hd, dr) ∧ v = (nI n, dp, al2, hd2, sq, fo, ot, pa) ∧ sm_Rel n en st al hd al2 hd2
theorem i_up {k : Nat} {u : SX} {v : SY} (h : i_Rel k u v) : i_Rel (k + 4) u v := h
theorem sm_mk_rel {n : Nat} {en st al hd dr : Nat → Int32} {dp : Int32} {al2 hd2 sq fo ot pa : Nat → Int32} (k : Nat) (h : sm_Rel n en st al hd al2 hd2) :
    i_Rel k (nI n, nI (n * n), nI (sm_G n).length, nI (sm_F n al).length, en, st, al, hd, dr) (nI n, dp, al2, hd2, sq, fo, ot, pa) :=
  ⟨n, en, st, al, hd, dr, dp, al2, hd2, sq, fo, ot, pa, rfl, rfl, h⟩
theorem sm_upd_rel {n p : Nat} {f f2 : Nat → Int32} {x : Int32} (h5 : n ≤ 5) (hp : p < n * n) (h : ∀ q, q < n * n → f2 (sm_pl n q) = f q) : ∀ q, q < n * n → upd f2 (sm_pl n p) x (sm_pl n q) = upd f p x q := by
  intro q hq
  by_cases e : q = p
  · subst e
    rw [pk_us, pk_us]
  · rw [pk_un e, pk_un (fun z => e (sm_pl_inj h5 hq hp z))]
    exact h q hq
section
variable {n : Nat} {sz dp pls gc fc : Int32} {al hd sq fo ot pa en st dr : Nat → Int32}
theorem sy_isPlace_t {post : Int32 → Prop} {i j : Nat} (h5 : n ≤ 5) (hi : i < n) (hj : j < n) (hp : post 1) : wpY_isPlace post (nI n, dp, al, hd, sq, fo, ot, pa) (nI i) (nI j) :=
  sy_isPlace h5 (fun h => (h i j hi hj rfl rfl).elim) (fun _ _ _ _ _ _ => hp)
theorem sy_isPlace_f {post : Int32 → Prop} {a b : Int32} (h5 : n ≤ 5) (h : ∀ i j, i < n → j < n → a = nI i → b = nI j → False) (hp : post 0) : wpY_isPlace post (nI n, dp, al, hd, sq, fo, ot, pa) a b :=
  sy_isPlace h5 (fun _ => hp) (fun i j hi hj e1 e2 => (h i j hi hj e1 e2).elim)
theorem sy_find_f {post : Int32 → SY → Prop} {A : Nat → Int32} {x : Int32} (h1 : 1 ≤ n) (h5 : n ≤ 5) (hA : ∀ q, q < n * n → al (sm_pl n q) = A q) (hb : ∀ j, j < (sm_F n A).length → x ≠ nI j)
    (hp : ∀ dp' sq' fo', post 0 (nI n, dp', al, hd, sq', fo', ot, pa)) : wpY_find post (nI n, dp, al, hd, sq, fo, ot, pa) x :=
  sy_find h1 h5 hA (fun _ => hp) (fun j _ hj e => absurd e (hb j hj))
theorem sy_find_t {post : Int32 → SY → Prop} {A : Nat → Int32} {j : Nat} {v : List Nat} (h1 : 1 ≤ n) (h5 : n ≤ 5) (hA : ∀ q, q < n * n → al (sm_pl n q) = A q) (hj : j < (sm_F n A).length) (hv : (sm_F n A)[j]? = some v)
    (hp : ∀ dp' sq' fo', (∀ q, q < n * n → fo' (sm_pl n q) = sm_e (sm_dg v q)) → post 1 (nI n, dp', al, hd, sq', fo', ot, pa)) : wpY_find post (nI n, dp, al, hd, sq, fo, ot, pa) (nI j) := by
  have hFl := sm_F_len (A := A) h1 h5
  refine sy_find h1 h5 hA (fun h => absurd rfl (h j hj)) (fun j2 v2 hj2 e hv2 dp' sq' fo' hfo => ?_)
  have := (nI_eq (by omega) (by omega)).mp e
  subst this
  rw [hv] at hv2
  cases hv2
  exact hp dp' sq' fo' hfo
theorem sm_F_get {A : Nat → Int32} {j : Nat} (hj : j < (sm_F n A).length) : ∃ v, (sm_F n A)[j]? = some v ∧ v ∈ sm_F n A ∧ v ∈ sm_G n ∧ sm_wd v ∧ v.length = n * n := by
  have hm : (sm_F n A)[j] ∈ sm_F n A := List.getElem_mem hj
  exact ⟨(sm_F n A)[j], List.getElem?_eq_getElem hj, hm, sm_F_G hm, sm_G_wd (sm_F_G hm), sm_G_len (sm_F_G hm)⟩
theorem sx_init {post : SX → Prop} (h1 : 1 ≤ n) (h5 : n ≤ 5)
    (hp : ∀ en st al dr, (∀ q, q < n * n → al q = 7) → sm_EN (n * n) en (sm_G n) → sm_ST (n * n) en st (sm_F n al) → post (nI n, nI (n * n), nI (sm_G n).length, nI (sm_F n al).length, en, st, al, (fun _ => 0), dr)) :
    wX_init_66 post (nI n) 0 0 0 0 (fun _ => 0) (fun _ => 0) (fun _ => 0) (fun _ => 0) (fun _ => 0) := by
  have hnn := sm_nn h5
  refine nm_r (pk_mul n n) ?_
  refine loop_0 (fun k i a => wX_init_84 post (nI n) (nI (n * n)) 0 0 k (nI i) (fun _ => 0) (fun _ => 0) a (fun _ => 0) (fun _ => 0)) (fun i a => ∀ q, q < i → a q = 7) (n * n) (fun _ => 0) (fun q h => absurd h (Nat.not_lt_zero q)) ?_ ?_
  · intro k a ha
    exact br_t (nI_le (Nat.le_refl _) (by omega)) (sx_find h1 h5 (fun en' dr' hE => sx_list h1 h5 hE (fun st' hS => hp en' st' a dr' ha hE hS)))
  · intro k i a hi ha hk
    refine br_f (nI_ge hi (by omega)) ⟨vp_in_nI (by omega) (by decide), nm_e (nm_r (nI_1 i) (hk _ ?_))⟩
    intro q hq
    rw [nI_clamp (by omega)]
    by_cases e : q = i
    · subst e
      rw [pk_us]
    · rw [pk_un e]
      exact ha q (by omega)
theorem sy_init {post : SY → Prop} (hp : ∀ al, (∀ p, p < 25 → al p = 7) → post (sz, 0, al, (fun _ => 0), (fun _ => 0), (fun _ => 0), (fun _ => 0), (fun _ => 0))) :
    ∃ k, wY_init_77 post sz 0 k 0 (fun _ => 0) (fun _ => 0) (fun _ => 0) (fun _ => 0) (fun _ => 0) (fun _ => 0) := by
  refine loop_0 (fun k i a => wY_init_77 post sz 0 k (nI i) a (fun _ => 0) (fun _ => 0) (fun _ => 0) (fun _ => 0) (fun _ => 0)) (fun i a => ∀ q, q < i → a q = 7) 25 (fun _ => 0) (fun q h => absurd h (Nat.not_lt_zero q)) ?_ ?_
  · intro k a ha
    exact br_t sm_25e (hp a ha)
  · intro k i a hi ha hk
    refine br_f (sm_25 hi) ⟨vp_in_nI (by omega) (by decide), nm_e (nm_r (nI_1 i) (hk _ ?_))⟩
    intro q hq
    rw [nI_clamp (by omega)]
    by_cases e : q = i
    · subst e
      rw [pk_us]
    · rw [pk_un e]
      exact ha q (by omega)
theorem sm_rel0 {al al2 : Nat → Int32} (h1 : 1 ≤ n) (h5 : n ≤ 5) (ha : ∀ q, q < n * n → al q = 7) (hE : sm_EN (n * n) en (sm_G n)) (hS : sm_ST (n * n) en st (sm_F n al)) (ha2 : ∀ p, p < 25 → al2 p = 7) : sm_Rel n en st al (fun _ => 0) al2 (fun _ => 0) :=
  ⟨h1, h5, hE, hS, fun q hq => by rw [ha q hq, ha2 _ (sm_pl_lt h5 hq)], fun _ _ => rfl⟩
end
theorem i_vc0 (k0 : Int32) : wpX_init (fun u => wpY_init (fun v => i_Rel 1 u v) k0) k0 := by
  refine br_c (fun a => br_c (fun b => ?_) (fun b => ?_)) (fun a => ?_)
  · have h0 : ¬ k0 < 0 := by
      rw [Int32.lt_iff_toInt_lt]
      rw [Int32.le_iff_toInt_le] at a
      have e0 : (0 : Int32).toInt = 0 := by decide
      have e1 : (1 : Int32).toInt = 1 := by decide
      omega
    obtain ⟨n, hn, rfl⟩ := nI_of h0
    have a1 : 1 ≤ n := (nI_leI (a := 1) (by decide) hn).mp a
    have b1 : n ≤ 5 := (nI_leI (b := 5) hn (by decide)).mp b
    exact sx_init a1 b1 (fun en st al dr ha hE hS => br_t a (br_t b (sy_init (fun al2 ha2 => sm_mk_rel 1 (sm_rel0 a1 b1 ha hE hS ha2)))))
  · exact sx_init (n := 5) (by decide) (by decide) (fun en st al dr ha hE hS => br_t a (br_f b (sy_init (fun al2 ha2 => sm_mk_rel (n := 5) 1 (sm_rel0 (by decide) (by decide) ha hE hS ha2)))))
  · exact sx_init (n := 1) (by decide) (by decide) (fun en st al dr ha hE hS => br_f a (sy_init (fun al2 ha2 => sm_mk_rel (n := 1) 1 (sm_rel0 (by decide) (by decide) ha hE hS ha2))))
theorem i_vc_allow {k : Nat} {u : SX} {v : SY} (I : i_Rel k u v) (hk : k + 4 ≤ 2049) (v1 : Int32) (v2 : Int32) (v3 : Int32) : wpX_allow (fun r u' => wpY_allow (fun r' v' => r' = r ∧ i_Rel (k + 4) u' v') v v1 v2 v3) u v1 v2 v3 := by
  obtain ⟨n, en, st, al, hd, dr, dp, al2, hd2, sq, fo, ot, pa, rfl, rfl, h1, h5, hE, hS, hA, hH⟩ := I
  have hR : sm_Rel n en st al hd al2 hd2 := ⟨h1, h5, hE, hS, hA, hH⟩
  have hnn := sm_nn h5
  unfold wpX_allow wpY_allow
  dsimp only
  refine sx_isPlace h5 (fun hbad => br_t rfl ?_) (fun i j hi hj e1 e2 => br_f (by decide) ?_)
  · exact sy_isPlace_f h5 hbad (br_t rfl ⟨rfl, sm_mk_rel _ hR⟩)
  · subst e1 e2
    have hl := sm_rc_lt hi hj
    refine br_c (fun z => ?_) (fun z => br_c (fun z2 => ?_) (fun z2 => ?_))
    · exact sy_isPlace_t h5 hi hj (br_f (by decide) (br_t z ⟨rfl, sm_mk_rel _ hR⟩))
    · have e : nI i * nI n + nI j = nI (i * n + j) := by rw [pk_mul, nI_add]
      have hin : vp_in (nI (i * n + j)) 25 := vp_in_nI (by omega) (by decide)
      refine nm_r e ⟨hin, nm_e ⟨hin, nm_e ?_⟩⟩
      rw [nI_clamp (by omega)]
      refine sx_list h1 h5 hE (fun st' hS' => ?_)
      refine sy_isPlace_t h5 hi hj (br_f (by decide) (br_f z (br_t z2 ?_)))
      have hin2 : vp_in (nI (5 * i + j)) 25 := vp_in_nI (by omega) (by decide)
      rw [sm_5]
      refine ⟨hin2, nm_e ⟨hin2, nm_e ?_⟩⟩
      rw [nI_clamp (by omega), ← sm_pl_rc hj]
      exact ⟨hA _ hl, sm_mk_rel _ ⟨h1, h5, hE, hS', sm_upd_rel h5 hl hA, hH⟩⟩
    · exact sy_isPlace_t h5 hi hj (br_f (by decide) (br_f z (br_f z2 ⟨rfl, sm_mk_rel _ hR⟩)))
theorem i_vc_put {k : Nat} {u : SX} {v : SY} (I : i_Rel k u v) (hk : k + 4 ≤ 2049) (v1 : Int32) (v2 : Int32) (v3 : Int32) : wpX_put (fun r u' => wpY_put (fun r' v' => r' = r ∧ i_Rel (k + 4) u' v') v v1 v2 v3) u v1 v2 v3 := by
  obtain ⟨n, en, st, al, hd, dr, dp, al2, hd2, sq, fo, ot, pa, rfl, rfl, h1, h5, hE, hS, hA, hH⟩ := I
  have hR : sm_Rel n en st al hd al2 hd2 := ⟨h1, h5, hE, hS, hA, hH⟩
  have hnn := sm_nn h5
  unfold wpX_put wpY_put
  dsimp only
  refine sx_isPlace h5 (fun hbad => br_t rfl ?_) (fun i j hi hj e1 e2 => br_f (by decide) ?_)
  · exact sy_isPlace_f h5 hbad (br_t rfl ⟨rfl, sm_mk_rel _ hR⟩)
  · subst e1 e2
    have hl := sm_rc_lt hi hj
    refine br_c (fun z => br_t rfl ?_) (fun z => br_c (fun z2 => br_t rfl ?_) (fun z2 => br_f (by decide) ?_))
    · exact sy_isPlace_t h5 hi hj (br_f (by decide) (br_t z ⟨rfl, sm_mk_rel _ hR⟩))
    · exact sy_isPlace_t h5 hi hj (br_f (by decide) (br_f z (br_f (Int32.not_le.mpr z2) ⟨rfl, sm_mk_rel _ hR⟩)))
    · have e : nI i * nI n + nI j = nI (i * n + j) := by rw [pk_mul, nI_add]
      rw [e]
      refine ⟨vp_in_nI (by omega) (by decide), nm_e ?_⟩
      rw [nI_clamp (by omega)]
      refine sy_isPlace_t h5 hi hj (br_f (by decide) (br_f z (br_t (Int32.not_lt.mp z2) ?_)))
      rw [sm_5]
      refine ⟨vp_in_nI (by omega) (by decide), nm_e ?_⟩
      rw [nI_clamp (by omega), ← sm_pl_rc hj]
      exact ⟨rfl, sm_mk_rel _ ⟨h1, h5, hE, hS, hA, sm_upd_rel h5 hl hH⟩⟩
