/-! mix -/
def sm_due (w A B : Int32) : Int32 := if w = 0 then (if A ≤ B then B else A) else A + B - (if A ≤ B then B else A)
theorem sm_due_0 {w A B : Int32} (h : w = 0) : sm_due w A B = if A ≤ B then B else A := if_pos h
theorem sm_due_1 {w A B : Int32} (h : ¬ w = 0) : sm_due w A B = if B ≤ A then B else A := by
  unfold sm_due
  rw [if_neg h]
  by_cases h1 : A ≤ B
  · rw [if_pos h1]
    by_cases h2 : B ≤ A
    · rw [if_pos h2]
      have : A = B := Int32.le_antisymm h1 h2
      rw [this]
      grind
    · rw [if_neg h2]
      grind
  · rw [if_neg h1, if_pos (Int32.le_of_lt (Int32.not_le.mp h1))]
    grind
def sm_D (n : Nat) (w : Int32) (e f : Nat → Int32) (r c : Nat) : Int32 := sm_due w (sm_C e n r c) (sm_C f n r c)
section
variable {n : Nat} {sz dp pls gc fc : Int32} {al hd sq fo ot pa en st dr : Nat → Int32}
theorem sx_mix15 {post : Int32 → Prop} {J : Int32 → Prop} {s a b r : Nat} {w : Int32} (h5 : n ≤ 5) (hr : r < n) (hs : s + n * n ≤ 10725) (ha : a + n * n ≤ 10725) (hb : b + n * n ≤ 10725)
    (ht : (∀ c, c < n → sm_C (fun q => en (s + q)) n r c = sm_D n w (fun q => en (a + q)) (fun q => en (b + q)) r c) → J (nI (r + 1)))
    (hf : (¬ ∀ c, c < n → sm_C (fun q => en (s + q)) n r c = sm_D n w (fun q => en (a + q)) (fun q => en (b + q)) r c) → post 0) :
    ∃ k, wX_isMix_15 post J (nI s) (nI a) (nI b) w (nI r) (nI n) pls gc fc en st al hd dr k 0 := by
  refine loop_0 (fun k i (_ : Unit) => wX_isMix_15 post J (nI s) (nI a) (nI b) w (nI r) (nI n) pls gc fc en st al hd dr k (nI i)) (fun i _ => ∀ c, c < i → sm_C (fun q => en (s + q)) n r c = sm_D n w (fun q => en (a + q)) (fun q => en (b + q)) r c) n () (fun q h => absurd h (Nat.not_lt_zero q)) ?_ ?_
  · intro k _ h
    exact br_t (nI_le (Nat.le_refl _) (by omega)) (nm_r (nI_1 r) (ht h))
  · intro k i _ hi h hk
    have fin : ∀ z, z = sm_D n w (fun q => en (a + q)) (fun q => en (b + q)) r i → wX_isMix_80 post (J) (wX_isMix_15 post J (nI s) (nI a) (nI b) w (nI r) (nI n) pls gc fc en st al hd dr k) (nI s) (nI a) (nI b) w (nI r) (nI i) z (nI n) pls gc fc en st al hd dr := by
      rintro _ rfl
      refine sx_corner h5 hr hi rfl rfl rfl hs (br_c (fun z => nm_r (nI_1 i) (hk () ?_)) (fun z => hf (fun q => z (q i hi))))
      intro c hc
      by_cases e : c = i
      · subst e
        exact z
      · exact h c (by omega)
    have mid : ∀ z, z = (if sm_C (fun q => en (a + q)) n r i ≤ sm_C (fun q => en (b + q)) n r i then sm_C (fun q => en (b + q)) n r i else sm_C (fun q => en (a + q)) n r i) →
        wX_isMix_60 post J (wX_isMix_15 post J (nI s) (nI a) (nI b) w (nI r) (nI n) pls gc fc en st al hd dr k) (nI s) (nI a) (nI b) w (nI r) (nI i) (sm_C (fun q => en (a + q)) n r i) (sm_C (fun q => en (b + q)) n r i) z (nI n) pls gc fc en st al hd dr := by
      rintro _ rfl
      refine br_c (fun z => fin _ ?_) (fun z => fin _ ?_)
      · unfold sm_D sm_due
        rw [if_pos z]
      · unfold sm_D sm_due
        rw [if_neg z]
    refine br_f (nI_ge hi (by omega)) (sx_corner h5 hr hi rfl rfl rfl ha (sx_corner h5 hr hi rfl rfl rfl hb ?_))
    exact br_c (fun z => mid _ (by rw [if_pos z])) (fun z => mid _ (by rw [if_neg z]))
theorem sx_isMix {post : Int32 → Prop} {s a b : Nat} {w x y z : Int32} (h5 : n ≤ 5) (hx : x = nI s) (hy : y = nI a) (hz : z = nI b) (hs : s + n * n ≤ 10725) (ha : a + n * n ≤ 10725) (hb : b + n * n ≤ 10725)
    (ht : (∀ r c, r < n → c < n → sm_C (fun q => en (s + q)) n r c = sm_D n w (fun q => en (a + q)) (fun q => en (b + q)) r c) → post 1)
    (hf : (¬ ∀ r c, r < n → c < n → sm_C (fun q => en (s + q)) n r c = sm_D n w (fun q => en (a + q)) (fun q => en (b + q)) r c) → post 0) :
    wpX_isMix post (nI n, pls, gc, fc, en, st, al, hd, dr) x y z w := by
  subst hx hy hz
  refine loop_0 (fun k i (_ : Unit) => wX_isMix_3 post (nI s) (nI a) (nI b) w (nI n) pls gc fc en st al hd dr k (nI i)) (fun i _ => ∀ r c, r < i → c < n → sm_C (fun q => en (s + q)) n r c = sm_D n w (fun q => en (a + q)) (fun q => en (b + q)) r c) n () (fun q c h => absurd h (Nat.not_lt_zero q)) ?_ ?_
  · intro k _ h
    exact br_t (nI_le (Nat.le_refl _) (by omega)) (ht h)
  · intro k i _ hi h hk
    refine br_f (nI_ge hi (by omega)) (sx_mix15 h5 hi hs ha hb (fun z => hk () ?_) (fun z => hf (fun q => z (fun c hc => q i c hi hc))))
    intro r c hr hc
    by_cases e : r = i
    · subst e
      exact z c hc
    · exact h r c (by omega) hc
/-- the word whose entries are the differences of D -/
def sm_mixP (n : Nat) (D : Nat → Nat → Int32) (v : List Nat) : Bool := decide (∀ q, q < n * n → sm_e (sm_dg v q) = sm_df D (q / n) (q % n))
theorem sm_mixP_iff {D : Nat → Nat → Int32} {v : List Nat} {s : Nat} (hv : ∀ q, q < n * n → en (s + q) = sm_e (sm_dg v q)) : sm_mixP n D v = true ↔ ∀ r c, r < n → c < n → sm_C (fun q => en (s + q)) n r c = D r c := by
  rw [sm_mixiff]
  unfold sm_mixP
  rw [decide_eq_true_iff]
  constructor
  · intro h r c hr hc
    have := h _ (sm_rc_lt hr hc)
    rw [sm_rd hc, sm_rmd hc] at this
    show en (s + (r * n + c)) = _
    rw [hv _ (sm_rc_lt hr hc)]
    exact this
  · intro h q hq
    have := h (q / n) (q % n) (sm_q_r hq) (sm_q_c hq)
    rw [sm_q_eq] at this
    rw [← hv q hq]
    exact this
theorem sx_mix33 {post : Int32 → Prop} {F : List (List Nat)} {w : Int32} {j l a b : Nat} (h5 : n ≤ 5) (hF : F.length ≤ 429) (hS : sm_ST (n * n) en st F) (hj : j < 429) (hl : l < 429) (sj : st j = nI a) (sl : st l = nI b) (ha : a + n * n ≤ 10725) (hb : b + n * n ≤ 10725)
    (hp : post (sm_first (-3) (sm_mixP n (sm_D n w (fun q => en (a + q)) (fun q => en (b + q)))) F 0)) :
    ∃ k, wX_mix_33 post (nI j) (nI l) w (nI n) pls gc (nI F.length) en st al hd dr k 0 := by
  refine ⟨F.length + 1, ?_⟩
  refine sm_firstX (-3) F _ (fun k i => wX_mix_33 post (nI j) (nI l) w (nI n) pls gc (nI F.length) en st al hd dr k (nI i)) post ?_ ?_ F 0 (F.length + 1) (Nat.zero_le _) List.drop_zero (Nat.lt_succ_self _) hp
  · intro k hp
    exact br_t (nI_le (Nat.le_refl _) (by omega)) hp
  · intro k i v hi hv ht hf
    obtain ⟨s, s1, s2, s3⟩ := hS i v hv
    refine br_f (nI_ge hi (by omega)) ?_
    rw [nI_clamp (n := i) (by omega), nI_clamp (n := j) (by omega), nI_clamp (n := l) (by omega), s1, sj, sl]
    refine ⟨vp_in_nI (by omega) (by decide), vp_in_nI hj (by decide), vp_in_nI hl (by decide), sx_isMix h5 rfl rfl rfl s2 ha hb (fun z => br_f (by decide) (ht ((sm_mixP_iff s3).mpr z))) (fun z => br_t rfl (nm_r (nI_1 i) (hf ?_)))⟩
    cases e : sm_mixP n (sm_D n w (fun q => en (a + q)) (fun q => en (b + q))) v with
    | false => rfl
    | true => exact absurd ((sm_mixP_iff s3).mp e) z
/-- Y's differences -/
def sm_dY (o : Nat → Int32) (p : Nat) : Int32 := o p - (if 5 ≤ p then o (p - 5) else 0) - (if 1 ≤ p % 5 then o (p - 1) else 0) + (if 5 ≤ p ∧ 1 ≤ p % 5 then o (p - 6) else 0)
theorem sm_dY_df {D : Nat → Nat → Int32} {o : Nat → Int32} (h5 : n ≤ 5) (ho : ∀ r c, r < n → c < n → o (5 * r + c) = D r c) {r c : Nat} (hr : r < n) (hc : c < n) : sm_dY o (5 * r + c) = sm_df D r c := by
  unfold sm_dY sm_df sm_up
  rw [sm_mod5 (by omega), ho r c hr hc]
  by_cases h1 : 1 ≤ r
  · rw [if_pos (show 5 ≤ 5 * r + c by omega), show 5 * r + c - 5 = 5 * (r - 1) + c by omega, ho (r - 1) c (by omega) hc, if_pos h1]
    by_cases h2 : 1 ≤ c
    · rw [if_pos h2, show 5 * r + c - 1 = 5 * r + (c - 1) by omega, ho r (c - 1) hr (by omega), if_pos (show 5 ≤ 5 * r + c ∧ 1 ≤ c by omega), show 5 * r + c - 6 = 5 * (r - 1) + (c - 1) by omega, ho (r - 1) (c - 1) (by omega) (by omega), if_pos h2, if_pos h2, if_pos h1]
    · rw [if_neg h2, if_neg (show ¬ (5 ≤ 5 * r + c ∧ 1 ≤ c) by omega), if_neg h2, if_neg h2]
  · rw [if_neg (show ¬ 5 ≤ 5 * r + c by omega), if_neg h1]
    by_cases h2 : 1 ≤ c
    · rw [if_pos h2, show 5 * r + c - 1 = 5 * r + (c - 1) by omega, ho r (c - 1) hr (by omega), if_neg (show ¬ (5 ≤ 5 * r + c ∧ 1 ≤ c) by omega), if_pos h2, if_pos h2, if_neg h1]
    · rw [if_neg h2, if_neg (show ¬ (5 ≤ 5 * r + c ∧ 1 ≤ c) by omega), if_neg h2, if_neg h2]
theorem sy_mix210 {post : Int32 → SY → Prop} (hp : ∀ ot', (∀ p, p < 25 → ot' p = sm_dY ot p) → wpY_numberOf (fun r u => match u with | (f1, f2, f3, f4, f5, f6, f7, f8) => ((0 ≤ r → post r (f1, f2, f3, f4, f5, f6, f7, f8)) ∧ (¬ 0 ≤ r → post (-3) (f1, f2, f3, f4, f5, f6, f7, f8)))) (sz, dp, al, hd, sq, fo, ot', pa) 0) :
    ∃ k, wY_mix_210 post sz dp k 24 al hd sq fo ot pa := by
  refine ⟨26, ?_⟩
  have h24 : (24 : Int32) = sm_e 25 := by decide
  rw [h24]
  refine pk_loopD (fun k i o => wY_mix_210 post sz dp k (sm_e i) al hd sq fo o pa) (fun i o => (∀ p, p < i → o p = ot p) ∧ (∀ p, i ≤ p → p < 25 → o p = sm_dY ot p) ∧ i ≤ 25) ?_ ?_ 25 ot ⟨fun _ _ => rfl, fun p h1 h2 => absurd h1 (by omega), by omega⟩
  · rintro k o ⟨_, h2, _⟩
    exact br_t (by decide) (hp o (fun p hp => h2 p (Nat.zero_le _) hp))
  · rintro k i o ⟨h1, h2, h3⟩ hk
    have five : ¬ (5 : Int32) = 0 := by decide
    have c0 : (nI i).toNatClampNeg = i := nI_clamp (by omega)
    have hin : vp_in (nI i) 25 := vp_in_nI (by omega) (by decide)
    have em : nI i + (-1) = sm_e i := by
      rw [sm_e_def, Int32.sub_eq_add_neg]
    have hm : nI i - nI i / 5 * 5 = nI (i % 5) := sm_m5 (by omega)
    have l5 : nI i < 5 ↔ i < 5 := nI_ltI (b := 5) (by omega) (by decide)
    have l0 : nI (i % 5) ≤ 0 ↔ i % 5 ≤ 0 := nI_leI (b := 0) (by omega) (by decide)
    have s285 : ∀ x y z, x = (if 5 ≤ i then ot (i - 5) else 0) → y = (if 1 ≤ i % 5 then ot (i - 1) else 0) → z = (if 5 ≤ i ∧ 1 ≤ i % 5 then ot (i - 6) else 0) → wY_mix_285 post (wY_mix_210 post sz dp k) (nI i) x y z sz dp al hd sq fo o pa := by
      rintro _ _ _ rfl rfl rfl
      refine ⟨hin, hin, nm_e (nm_r em (hk _ ⟨?_, ?_, by omega⟩))⟩
      · intro p hp
        rw [c0, pk_un (by omega)]
        exact h1 p (by omega)
      · intro p hp1 hp2
        rw [c0]
        by_cases e : p = i
        · subst e
          rw [pk_us, h1 p (by omega)]
          rfl
        · rw [pk_un e]
          exact h2 p (by omega) hp2
    have s256 : ∀ x y, x = (if 5 ≤ i then ot (i - 5) else 0) → y = (if 1 ≤ i % 5 then ot (i - 1) else 0) → wY_mix_256 post (wY_mix_210 post sz dp k) (nI i) x y sz dp al hd sq fo o pa := by
      intro x y hx hy
      refine br_c (fun z => s285 _ _ _ hx hy ?_) (fun z => ⟨five, br_c (fun z2 => s285 _ _ _ hx hy ?_) (fun z2 => ⟨?_, s285 _ _ _ hx hy ?_⟩)⟩)
      · rw [l5] at z
        rw [if_neg (by omega)]
      · rw [hm, l0] at z2
        rw [if_neg (by omega)]
      · rw [l5] at z
        rw [hm, l0] at z2
        rw [show nI i - 6 = nI (i - 6) from pk_sub (b := 6) (by omega)]
        exact vp_in_nI (by omega) (by decide)
      · rw [l5] at z
        rw [hm, l0] at z2
        rw [show nI i - 6 = nI (i - 6) from pk_sub (b := 6) (by omega), nI_clamp (by omega), if_pos (by omega), h1 _ (by omega)]
    have s234 : ∀ x, x = (if 5 ≤ i then ot (i - 5) else 0) → wY_mix_234 post (wY_mix_210 post sz dp k) (nI i) x sz dp al hd sq fo o pa := by
      intro x hx
      refine ⟨five, br_c (fun z2 => s256 _ _ hx ?_) (fun z2 => ⟨?_, s256 _ _ hx ?_⟩)⟩
      · rw [hm, l0] at z2
        rw [if_neg (by omega)]
      · rw [hm, l0] at z2
        rw [show nI i - 1 = nI (i - 1) from pk_sub (b := 1) (by omega)]
        exact vp_in_nI (by omega) (by decide)
      · rw [hm, l0] at z2
        rw [show nI i - 1 = nI (i - 1) from pk_sub (b := 1) (by omega), nI_clamp (by omega), if_pos (by omega), h1 _ (by omega)]
    rw [sm_eS]
    refine br_f (nI_pos (by omega)) (br_c (fun z => s234 _ ?_) (fun z => ⟨?_, s234 _ ?_⟩))
    · rw [l5] at z
      rw [if_neg (by omega)]
    · rw [l5] at z
      rw [show nI i - 5 = nI (i - 5) from pk_sub (b := 5) (by omega)]
      exact vp_in_nI (by omega) (by decide)
    · rw [l5] at z
      rw [show nI i - 5 = nI (i - 5) from pk_sub (b := 5) (by omega), nI_clamp (by omega), if_pos (by omega), h1 _ (by omega)]
theorem sy_mix93 {post : Int32 → SY → Prop} {w : Int32} {e : Nat → Int32} {C : Nat → Nat → Int32} (h5 : n ≤ 5) (hf : ∀ i j, i < n → j < n → fo (5 * i + j) = e (i * n + j)) (ho : ∀ r c, r < n → c < n → ot (5 * r + c) = C r c)
    (hp : ∀ ot', (∀ r c, r < n → c < n → ot' (5 * r + c) = sm_due w (sm_C e n r c) (C r c)) → ∃ k, wY_mix_210 post (nI n) dp k 24 al hd sq fo ot' pa) :
    ∃ k, wY_mix_93 post w (nI n) dp k 0 al hd sq fo ot pa := by
  refine loop_0 (fun k i o => wY_mix_93 post w (nI n) dp k (nI i) al hd sq fo o pa) (fun i o => ∀ r c, r < n → c < n → o (5 * r + c) = if 5 * r + c < i then sm_due w (sm_C e n r c) (C r c) else C r c) 25 ot (fun r c hr hc => by rw [if_neg (by omega)]; exact ho r c hr hc) ?_ ?_
  · intro k o h
    exact br_t sm_25e (hp o (fun r c hr hc => by rw [h r c hr hc, if_pos (by omega)]))
  · intro k i o hi h hk
    have five : ¬ (5 : Int32) = 0 := by decide
    have c0 : (nI i).toNatClampNeg = i := nI_clamp (by omega)
    have hin : vp_in (nI i) 25 := vp_in_nI (by omega) (by decide)
    have step : ∀ x, (∀ r c, r < n → c < n → 5 * r + c = i → x = sm_due w (sm_C e n r c) (C r c)) → wY_mix_93 post w (nI n) dp k (nI (i + 1)) al hd sq fo (upd o i x) pa := by
      intro x hx
      refine hk _ ?_
      intro r c hr hc
      by_cases q : 5 * r + c = i
      · rw [if_pos (by omega), ← hx r c hr hc q, q, pk_us]
      · rw [pk_un q, h r c hr hc]
        by_cases q2 : 5 * r + c < i
        · rw [if_pos q2, if_pos (by omega)]
        · rw [if_neg q2, if_neg (by omega)]
    have go : ∀ z, (∀ r c, r < n → c < n → 5 * r + c = i → z = sm_C e n r c) → wY_mix_131 post (wY_mix_93 post w (nI n) dp k) w (nI i) z (nI n) dp al hd sq fo o pa := by
      intro z hz
      have old : ∀ r c, r < n → c < n → 5 * r + c = i → o i = C r c := by
        intro r c hr hc q
        have := h r c hr hc
        rw [if_neg (by omega), q] at this
        exact this
      refine br_c (fun w0 => ⟨hin, ?_⟩) (fun w0 => ⟨hin, ?_⟩)
      · rw [c0]
        refine br_c (fun le => ?_) (fun le => ?_)
        · refine br_t rfl ⟨hin, hin, nm_e (nm_r (nI_1 i) ?_)⟩
          rw [c0]
          refine step _ (fun r c hr hc q => ?_)
          rw [sm_due_0 w0, ← hz r c hr hc q, ← old r c hr hc q, if_pos le]
        · refine br_f (by decide) ⟨hin, nm_e (nm_r (nI_1 i) ?_)⟩
          rw [c0]
          refine step _ (fun r c hr hc q => ?_)
          rw [sm_due_0 w0, ← hz r c hr hc q, ← old r c hr hc q, if_neg le]
      · rw [c0]
        refine br_c (fun le => ?_) (fun le => ?_)
        · refine br_t rfl ⟨hin, hin, nm_e (nm_r (nI_1 i) ?_)⟩
          rw [c0]
          refine step _ (fun r c hr hc q => ?_)
          rw [sm_due_1 w0, ← hz r c hr hc q, ← old r c hr hc q, if_pos le]
        · refine br_f (by decide) ⟨hin, nm_e (nm_r (nI_1 i) ?_)⟩
          rw [c0]
          refine step _ (fun r c hr hc q => ?_)
          rw [sm_due_1 w0, ← hz r c hr hc q, ← old r c hr hc q, if_neg le]
    refine br_f (sm_25 hi) ⟨five, five, ?_⟩
    rw [sm_m5 (by omega), sm_d5 (by omega)]
    refine sy_isPlace h5 (fun hb => br_t rfl (go 0 (fun r c hr hc q => (hb r c hr hc ?_ ?_).elim))) (fun r c hr hc e1 e2 => br_f (by decide) ⟨five, five, ?_⟩)
    · rw [← q, sm_div5 (by omega)]
    · rw [← q, sm_mod5 (by omega)]
    · have e1' := (nI_eq (by omega) (by omega)).mp e1
      have e2' := (nI_eq (by omega) (by omega)).mp e2
      refine sy_corner (r := r) (c := c) (by omega) (by omega) e1 e2 (go _ (fun r' c' hr' hc' q => ?_))
      rw [sm_corner h5 hr hc hf, show r' = r by omega, show c' = c by omega]
theorem sy_mix33 {post : Int32 → SY → Prop} {w x : Int32} {e : Nat → Int32} (h5 : n ≤ 5) (hf : ∀ i j, i < n → j < n → fo (5 * i + j) = e (i * n + j))
    (hp : ∀ ot', (∀ r c, r < n → c < n → ot' (5 * r + c) = sm_C e n r c) → wpY_find (fun _ u => match u with | (f1, f2, f3, f4, f5, f6, f7, f8) => ∃ k, wY_mix_93 post w f1 f2 k 0 f3 f4 f5 f6 f7 f8) (nI n, dp, al, hd, sq, fo, ot', pa) x) :
    ∃ k, wY_mix_33 post x w (nI n) dp k 0 al hd sq fo ot pa := by
  refine loop_0 (fun k i o => wY_mix_33 post x w (nI n) dp k (nI i) al hd sq fo o pa) (fun i o => ∀ r c, r < n → c < n → 5 * r + c < i → o (5 * r + c) = sm_C e n r c) 25 ot (fun r c hr hc h => absurd h (Nat.not_lt_zero _)) ?_ ?_
  · intro k o h
    exact br_t sm_25e (hp o (fun r c hr hc => h r c hr hc (by omega)))
  · intro k i o hi h hk
    have five : ¬ (5 : Int32) = 0 := by decide
    have c0 : (nI i).toNatClampNeg = i := nI_clamp (by omega)
    have hin : vp_in (nI i) 25 := vp_in_nI (by omega) (by decide)
    have step : ∀ x, (∀ r c, r < n → c < n → 5 * r + c = i → x = sm_C e n r c) → (∀ r c, r < n → c < n → 5 * r + c < i + 1 → upd o (nI i).toNatClampNeg x (5 * r + c) = sm_C e n r c) := by
      intro x hx r c hr hc hlt
      rw [c0]
      by_cases q : 5 * r + c = i
      · rw [← hx r c hr hc q, q, pk_us]
      · rw [pk_un q, h r c hr hc (by omega)]
    refine br_f (sm_25 hi) ⟨five, five, ?_⟩
    rw [sm_m5 (by omega), sm_d5 (by omega)]
    refine sy_isPlace h5 (fun hb => br_t rfl ⟨hin, nm_e (nm_r (nI_1 i) (hk _ (step 0 (fun r c hr hc q => (hb r c hr hc ?_ ?_).elim))))⟩) (fun r c hr hc e1 e2 => br_f (by decide) ⟨five, five, ?_⟩)
    · rw [← q, sm_div5 (by omega)]
    · rw [← q, sm_mod5 (by omega)]
    · have e1' := (nI_eq (by omega) (by omega)).mp e1
      have e2' := (nI_eq (by omega) (by omega)).mp e2
      refine sy_corner (r := r) (c := c) (by omega) (by omega) e1 e2 ⟨hin, nm_e (nm_r (nI_1 i) (hk _ (step _ (fun r' c' hr' hc' q => ?_))))⟩
      rw [sm_corner h5 hr hc hf, show r' = r by omega, show c' = c by omega]
end
theorem i_vc_mix {k : Nat} {u : SX} {v : SY} (I : i_Rel k u v) (hk : k + 4 ≤ 2049) (v1 : Int32) (v2 : Int32) (v3 : Int32) : wpX_mix (fun r => wpY_mix (fun r' v' => r' = r ∧ i_Rel (k + 4) u v') v v1 v2 v3) u v1 v2 v3 := by
  obtain ⟨n, en, st, al, hd, dr, dp, al2, hd2, sq, fo, ot, pa, rfl, rfl, h1, h5, hE, hS, hA, hH⟩ := I
  have hR : sm_Rel n en st al hd al2 hd2 := ⟨h1, h5, hE, hS, hA, hH⟩
  have hFl := sm_F_len (A := al) h1 h5
  unfold wpX_mix wpY_mix
  dsimp only
  refine sx_isNumber (by omega) (fun hb => br_t rfl ?_) (fun j hj e => br_f (by decide) ?_)
  · exact sy_find_f h1 h5 hA hb (fun _ _ _ => br_t rfl ⟨rfl, sm_mk_rel _ hR⟩)
  · subst e
    obtain ⟨vj, hvj, _, _, _, _⟩ := sm_F_get hj
    obtain ⟨a, a1, a2, a3⟩ := hS j vj hvj
    refine sx_isNumber (by omega) (fun hb => br_t rfl ?_) (fun l hl e => br_f (by decide) ?_)
    · exact sy_find_t h1 h5 hA hj hvj (fun _ _ _ _ => br_f (by decide) (sy_find_f h1 h5 hA hb (fun _ _ _ => br_t rfl ⟨rfl, sm_mk_rel _ hR⟩)))
    · subst e
      obtain ⟨vl, hvl, _, _, _, _⟩ := sm_F_get hl
      obtain ⟨b, b1, b2, b3⟩ := hS l vl hvl
      have main : ∀ dp sq fo, (∀ q, q < n * n → fo (sm_pl n q) = sm_e (sm_dg vl q)) → ∃ k2, wY_mix_33 (fun r' v' => r' = sm_first (-3) (sm_mixP n (sm_D n v3 (fun q => en (a + q)) (fun q => en (b + q)))) (sm_F n al) 0 ∧ i_Rel (k + 4) (nI n, nI (n * n), nI (sm_G n).length, nI (sm_F n al).length, en, st, al, hd, dr) v') (nI j) v3 (nI n) dp k2 0 al2 hd2 sq fo ot pa := by
        intro dp sq fo hfo
        refine sy_mix33 (e := fun q => en (b + q)) h5 (fun r c hr hc => ?_) (fun ot1 h1o => ?_)
        · show fo (5 * r + c) = en (b + (r * n + c))
          rw [← sm_pl_rc hc, hfo _ (sm_rc_lt hr hc), b3 _ (sm_rc_lt hr hc)]
        · refine sy_find_t h1 h5 hA hj hvj (fun dp' sq' fo' hfo' => ?_)
          refine sy_mix93 (e := fun q => en (a + q)) h5 (fun r c hr hc => ?_) h1o (fun ot2 h2o => ?_)
          · show fo' (5 * r + c) = en (a + (r * n + c))
            rw [← sm_pl_rc hc, hfo' _ (sm_rc_lt hr hc), a3 _ (sm_rc_lt hr hc)]
          · refine sy_mix210 (fun ot3 h3o => ?_)
            refine sy_numberOf h1 h5 hA (Or.inl ⟨rfl, rfl⟩) (fun dp'' sq'' => ?_)
            have hcg : sm_first (-3) (sm_eqP n ot3) (sm_F n al) 0 = sm_first (-3) (sm_mixP n (sm_D n v3 (fun q => en (a + q)) (fun q => en (b + q)))) (sm_F n al) 0 := by
              apply sm_first_congr
              intro v _
              unfold sm_eqP sm_mixP
              rw [decide_eq_decide]
              have eqv : ∀ q, q < n * n → ot3 (sm_pl n q) = sm_df (sm_D n v3 (fun q => en (a + q)) (fun q => en (b + q))) (q / n) (q % n) := by
                intro q hq
                rw [h3o _ (sm_pl_lt h5 hq)]
                exact sm_dY_df h5 h2o (sm_q_r hq) (sm_q_c hq)
              exact ⟨fun h q hq => (h q hq).trans (eqv q hq), fun h q hq => (h q hq).trans (eqv q hq).symm⟩
            have h3 := sm_first_3 (sm_eqP n ot3) (sm_F n al) 0 (by omega)
            rw [hcg] at h3
            rcases h3 with ⟨x1, x2⟩ | ⟨x1, x2⟩
            · exact br_f (Int32.not_le.mpr x1) ⟨x2.symm, sm_mk_rel _ hR⟩
            · exact br_t (Int32.not_lt.mp x1) ⟨x2.symm, sm_mk_rel _ hR⟩
      refine br_c (fun z => ?_) (fun z => br_c (fun z2 => ?_) (fun z2 => ?_))
      · refine sx_mix33 h5 hFl hS (by omega) (by omega) a1 b1 a2 b2 ?_
        exact sy_find_t h1 h5 hA hj hvj (fun _ _ _ _ => br_f (by decide) (sy_find_t h1 h5 hA hl hvl (fun dp' sq' fo' hfo => br_f (by decide) (br_t z (main dp' sq' fo' hfo)))))
      · refine sx_mix33 h5 hFl hS (by omega) (by omega) a1 b1 a2 b2 ?_
        exact sy_find_t h1 h5 hA hj hvj (fun _ _ _ _ => br_f (by decide) (sy_find_t h1 h5 hA hl hvl (fun dp' sq' fo' hfo => br_f (by decide) (br_f z (br_t z2 (main dp' sq' fo' hfo))))))
      · exact sy_find_t h1 h5 hA hj hvj (fun _ _ _ _ => br_f (by decide) (sy_find_t h1 h5 hA hl hvl (fun dp' sq' fo' hfo => br_f (by decide) (br_f z (br_f z2 ⟨rfl, sm_mk_rel _ hR⟩)))))
