/-! Y: walks along the paths -/
def sm_PA (n : Nat) (pa : Nat → Int32) (m : Nat) : Prop := ∀ q, q < n * n → pa (sm_pl n q) = sm_bI (Nat.testBit m q)
theorem sm_PA_or {n P m : Nat} {pa : Nat → Int32} (h5 : n ≤ 5) (hP : P < n * n) (h : sm_PA n pa m) : sm_PA n (upd pa (sm_pl n P) 1) (m ||| 2 ^ P) := by
  intro q hq
  rw [Nat.testBit_or, Nat.testBit_two_pow]
  by_cases e : P = q
  · subst e
    rw [pk_us, decide_eq_true rfl, Bool.or_true]
    rfl
  · rw [pk_un (fun z => e (sm_pl_inj h5 hq hP z).symm), h q hq, decide_eq_false e, Bool.or_false]
theorem sm_fol_S (on : Nat → Bool) (n d f t m : Nat) : sm_fol on n d (f + 1) t m = (match sm_out n (sm_wy on t) with
    | 0 => bif Nat.beq (sm_acr n (sm_wy on t) / 4) d then (0, m ||| 2 ^ (t / 4)) else sm_fol on n d f (sm_acr n (sm_wy on t)) (m ||| 2 ^ (t / 4))
    | e + 1 => (e + 1, m ||| 2 ^ (t / 4))) := by
  rw [sm_fol, sm_fc_eq]
  cases sm_out n (sm_wy on t) <;> rfl
theorem sm_fol_1 (on : Nat → Bool) (n d : Nat) : ∀ (f t m m' : Nat), (sm_fol on n d f t m).1 = (sm_fol on n d f t m').1
  | 0, _, _, _ => rfl
  | f + 1, t, m, m' => by
    rw [sm_fol_S, sm_fol_S]
    cases sm_out n (sm_wy on t) with
    | zero =>
      show (bif _ then _ else _ : Nat × Nat).1 = (bif _ then _ else _ : Nat × Nat).1
      cases Nat.beq (sm_acr n (sm_wy on t) / 4) d with
      | true => rfl
      | false => exact sm_fol_1 on n d f _ _ _
    | succ e => rfl
theorem sm_nar1 : vp_nar .boolean 1 = 1 := rfl
theorem sm_nar0 : vp_nar .boolean 0 = 0 := rfl
section
variable {sz dp : Int32} {al hd sq fo ot pa : Nat → Int32} {n : Nat} {dg : Nat → Nat} {on : Nat → Bool}
theorem sy_f92in {post : Int32 → SY → Prop} {J : Int32 → Int32 → Int32 → Int32 → (Nat → Int32) → (Nat → Int32) → (Nat → Int32) → (Nat → Int32) → (Nat → Int32) → (Nat → Int32) → Prop} {x3 x4 z0 z1 x8 : Int32} {d i s r2 c2 s2 : Nat}
    (h5 : n ≤ 5) (hd2 : d < n * n) (hr : r2 < n) (hc : c2 < n) (hs : s < 4) (hs2 : (s + 2) % 4 = s2) (h8 : x8 = nI r2) (h9 : z1 + z0 = nI c2)
    (h : (r2 * n + c2 = d → post (-1) (nI n, dp, al, hd, sq, fo, ot, pa)) ∧ (¬ r2 * n + c2 = d → J (nI r2) (nI c2) (nI s2) (nI (i + 1)) al hd sq fo ot pa)) :
    wY_follow_92 post J (nI (sm_pl n d)) x3 x4 (nI i) (nI s) x8 z0 z1 (nI n) dp al hd sq fo ot pa := by
  subst h8
  have hl := sm_pl_lt h5 hd2
  have e2 : (nI s + 2) - (nI s + 2) / 4 * 4 = nI s2 := by
    rw [show nI s + 2 = nI (s + 2) from nI_add s 2, sm_tm (by omega), hs2]
  refine nm_r h9 (sy_isPlace_t h5 hr hc (br_f (by decide) ⟨by decide, nm_r e2 ?_⟩))
  rw [sm_5, nI_eq (by omega) (by omega), ← sm_pl_rc hc]
  refine br_c (fun z => h.1 (sm_pl_inj h5 (sm_rc_lt hr hc) hd2 z)) (fun z => nm_r (nI_1 i) (h.2 (fun w => z (by rw [w]))))
theorem sy_f92out {post : Int32 → SY → Prop} {J : Int32 → Int32 → Int32 → Int32 → (Nat → Int32) → (Nat → Int32) → (Nat → Int32) → (Nat → Int32) → (Nat → Int32) → (Nat → Int32) → Prop} {x1 x3 x4 x6 x7 z0 z1 x8 : Int32}
    (h5 : n ≤ 5) (hb : ∀ i j, i < n → j < n → x8 = nI i → z1 + z0 = nI j → False) (h : wpY_outerEdge (fun r => post r (nI n, dp, al, hd, sq, fo, ot, pa)) (nI n, dp, al, hd, sq, fo, ot, pa) x3 x4 x7) :
    wY_follow_92 post J x1 x3 x4 x6 x7 x8 z0 z1 (nI n) dp al hd sq fo ot pa :=
  nm_e (sy_isPlace_f h5 hb (br_t rfl h))
theorem sy_f66 {post : Int32 → SY → Prop} {J : Int32 → Int32 → Int32 → Int32 → (Nat → Int32) → (Nat → Int32) → (Nat → Int32) → (Nat → Int32) → (Nat → Int32) → (Nat → Int32) → Prop} {d i r c s : Nat}
    (h1 : 1 ≤ n) (h5 : n ≤ 5) (hd2 : d < n * n) (hr : r < n) (hc : c < n) (hs : s < 4)
    (hout : ∀ e, sm_out n ((r * n + c) * 4 + s) = e + 1 → post (nI e) (nI n, dp, al, hd, sq, fo, ot, pa))
    (hin : ∀ r2 c2 s2, r2 < n → c2 < n → s2 < 4 → sm_out n ((r * n + c) * 4 + s) = 0 → sm_acr n ((r * n + c) * 4 + s) = (r2 * n + c2) * 4 + s2 →
      (r2 * n + c2 = d → post (-1) (nI n, dp, al, hd, sq, fo, ot, pa)) ∧ (¬ r2 * n + c2 = d → J (nI r2) (nI c2) (nI s2) (nI (i + 1)) al hd sq fo ot pa)) :
    ((nI s = 0 → wY_follow_66 post J (nI (sm_pl n d)) (nI r) (nI c) (nI i) (nI s) (-1) (nI r) (nI n) dp al hd sq fo ot pa) ∧ (¬ nI s = 0 → ((nI s = 2 → wY_follow_66 post J (nI (sm_pl n d)) (nI r) (nI c) (nI i) (nI s) 1 (nI r) (nI n) dp al hd sq fo ot pa) ∧ (¬ nI s = 2 → wY_follow_66 post J (nI (sm_pl n d)) (nI r) (nI c) (nI i) (nI s) 0 (nI r) (nI n) dp al hd sq fo ot pa)))) := by
  have hneg : ∀ j : Nat, j < n → nI 0 + (-1) = nI j → False := by
    intro j hj z
    have h0 : nI 0 + (-1) < 0 := by decide
    rw [z] at h0
    exact nI_pos (by omega) h0
  rcases sm_four hs with rfl | rfl | rfl | rfl
  · refine br_t rfl ?_
    cases r with
    | zero =>
      refine nm_e (br_f (by decide) (br_f (by decide) (sy_f92out h5 (fun a b ha hb z _ => hneg a ha z) (br_t rfl (hout c ?_)))))
      rw [sm_out0 hc]
      rfl
    | succ r =>
      refine nm_r (pk_m1 r) (br_f (by decide) (br_f (by decide) (sy_f92in h5 hd2 (r2 := r) (c2 := c) (s2 := 2) (by omega) hc (by omega) rfl rfl (Int32.add_zero _) (hin r c 2 (by omega) hc (by omega) ?_ sm_acr0))))
      rw [sm_out0 hc]
      rfl
  · refine br_f (by decide) (br_f (by decide) (nm_r (Int32.add_zero _) (br_t rfl ?_)))
    by_cases e : c + 1 = n
    · refine sy_f92out h5 (fun a b ha hb _ z => ?_) (br_f (by decide) (br_t rfl ?_))
      · rw [nI_1] at z
        have := (nI_eq (by omega) (by omega)).mp z
        omega
      · rw [nI_add]
        refine hout (n + r) ?_
        rw [sm_out1 hc, sm_beq_t e]
        rfl
    · refine sy_f92in h5 hd2 (r2 := r) (c2 := c + 1) (s2 := 3) hr (by omega) (by omega) rfl rfl (nI_1 c) (hin r (c + 1) 3 hr (by omega) (by omega) ?_ sm_acr1)
      rw [sm_out1 hc, sm_beq_f e]
      rfl
  · refine br_f (by decide) (br_t rfl (nm_r (nI_1 r) (br_f (by decide) (br_f (by decide) ?_))))
    by_cases e : r + 1 = n
    · refine sy_f92out h5 (fun a b ha hb z _ => ?_) (br_f (by decide) (br_f (by decide) (br_t rfl ?_)))
      · have := (nI_eq (by omega) (by omega)).mp z
        omega
      · rw [show ((2 : Int32) * nI n + nI n) - 1 = nI (2 * n + n - 1) from by
          rw [show (2 : Int32) * nI n = nI (2 * n) from pk_mul 2 n, nI_add]
          exact pk_sub (b := 1) (by omega), pk_sub (by omega)]
        refine hout (2 * n + n - 1 - c) ?_
        rw [sm_out2 hc, sm_beq_t e]
        show 2 * n + (n - 1 - c) + 1 = _
        omega
    · refine sy_f92in h5 hd2 (r2 := r + 1) (c2 := c) (s2 := 0) (by omega) hc (by omega) rfl rfl (Int32.add_zero _) (hin (r + 1) c 0 (by omega) hc (by omega) ?_ sm_acr2)
      rw [sm_out2 hc, sm_beq_f e]
      rfl
  · refine br_f (by decide) (br_f (by decide) (nm_r (Int32.add_zero _) (br_f (by decide) (br_t rfl ?_))))
    cases c with
    | zero =>
      refine sy_f92out h5 (fun a b ha hb _ z => hneg b hb z) (br_f (by decide) (br_f (by decide) (br_f (by decide) ?_)))
      rw [show ((3 : Int32) * nI n + nI n) - 1 = nI (3 * n + n - 1) from by
        rw [show (3 : Int32) * nI n = nI (3 * n) from pk_mul 3 n, nI_add]
        exact pk_sub (b := 1) (by omega), pk_sub (by omega)]
      refine hout (3 * n + n - 1 - r) ?_
      rw [sm_out3 hc]
      show 3 * n + (n - 1 - r) + 1 = _
      omega
    | succ c =>
      refine sy_f92in h5 hd2 (r2 := r) (c2 := c) (s2 := 1) hr (by omega) (by omega) rfl rfl (pk_m1 c) (hin r c 1 hr (by omega) (by omega) ?_ sm_acr3)
      rw [sm_out3 hc]
      rfl
theorem sy_follow {post : Int32 → SY → Prop} {d sd : Nat} {x y : Int32} (h1 : 1 ≤ n) (h5 : n ≤ 5) (hq : sm_YQ n fo dg) (hon : sm_oY n dg on) (hd2 : d < n * n) (hsd : sd < 4) (hx : x = nI (sm_pl n d)) (hy : y = nI sd)
    (hp : ∀ pa', (∀ m, sm_PA n pa m → sm_PA n pa' (sm_fol on n d 30 (d * 4 + sd) m).2) → post (sm_e (sm_fol on n d 30 (d * 4 + sd) 0).1) (nI n, dp, al, hd, sq, fo, ot, pa')) :
    wpY_follow post (nI n, dp, al, hd, sq, fo, ot, pa) x y := by
  subst hx hy
  have key : ∀ f i r c sd pa, i + f = 30 → r < n → c < n → sd < 4 →
      (∀ pa', (∀ m, sm_PA n pa m → sm_PA n pa' (sm_fol on n d f ((r * n + c) * 4 + sd) m).2) → post (sm_e (sm_fol on n d f ((r * n + c) * 4 + sd) 0).1) (nI n, dp, al, hd, sq, fo, ot, pa')) →
      wY_follow_15 post (nI (sm_pl n d)) (nI n) dp (f + 1) (nI r) (nI c) (nI sd) (nI i) al hd sq fo ot pa := by
    intro f
    induction f with
    | zero =>
      intro i r c sd pa hi hr hc hsd hp
      refine br_t (nI_le (a := 30) (by omega) (by omega)) ?_
      have := hp pa (fun m h => h)
      rw [show sm_e (sm_fol on n d 0 ((r * n + c) * 4 + sd) 0).1 = -1 from sm_e0] at this
      exact this
    | succ f ih =>
      intro i r c sd pa hi hr hc hsd hp
      have hl := sm_rc_lt hr hc
      have hpl := sm_pl_lt h5 hl
      have e5 : (5 : Int32) * nI r + nI c = nI (sm_pl n (r * n + c)) := by rw [sm_5, sm_pl_rc hc]
      have eu : upd pa (nI (sm_pl n (r * n + c))).toNatClampNeg (vp_nar .boolean 1) = upd pa (sm_pl n (r * n + c)) 1 := by
        rw [nI_clamp (by omega), sm_nar1]
      have ewy : sm_wy on ((r * n + c) * 4 + sd) = sm_way on ((r * n + c) * 4) ((r * n + c) * 4 + sd) 4 := by
        unfold sm_wy
        rw [sm_t_m hsd, Nat.add_sub_cancel]
      have body : ∀ s, s < 4 → sm_way on ((r * n + c) * 4) ((r * n + c) * 4 + sd) 4 = (r * n + c) * 4 + s → ((nI s = 0 → wY_follow_66 post (wY_follow_15 post (nI (sm_pl n d)) (nI n) dp (f + 1)) (nI (sm_pl n d)) (nI r) (nI c) (nI i) (nI s) (-1) (nI r) (nI n) dp al hd sq fo ot (upd pa (sm_pl n (r * n + c)) 1)) ∧ (¬ nI s = 0 → ((nI s = 2 → wY_follow_66 post (wY_follow_15 post (nI (sm_pl n d)) (nI n) dp (f + 1)) (nI (sm_pl n d)) (nI r) (nI c) (nI i) (nI s) 1 (nI r) (nI n) dp al hd sq fo ot (upd pa (sm_pl n (r * n + c)) 1)) ∧ (¬ nI s = 2 → wY_follow_66 post (wY_follow_15 post (nI (sm_pl n d)) (nI n) dp (f + 1)) (nI (sm_pl n d)) (nI r) (nI c) (nI i) (nI s) 0 (nI r) (nI n) dp al hd sq fo ot (upd pa (sm_pl n (r * n + c)) 1))))) := by
        intro s hs hway
        rw [← ewy] at hway
        refine sy_f66 h1 h5 hd2 hr hc hs (fun e he => ?_) (fun r2 c2 s2 hr2 hc2 hs2 ho ha => ⟨fun z => ?_, fun z => ?_⟩)
        · have h2 := hp (upd pa (sm_pl n (r * n + c)) 1) (fun m hm => ?_)
          · rw [sm_fol_S, hway, he] at h2
            rw [← sm_eS]
            exact h2
          · rw [sm_fol_S, hway, he]
            show sm_PA n _ (m ||| 2 ^ (((r * n + c) * 4 + sd) / 4))
            rw [sm_t_4 hsd]
            exact sm_PA_or h5 hl hm
        · have eb : Nat.beq (sm_acr n ((r * n + c) * 4 + s) / 4) d = true := by
            rw [ha, sm_t_4 hs2]
            exact sm_beq_t z
          have h2 := hp (upd pa (sm_pl n (r * n + c)) 1) (fun m hm => ?_)
          · rw [sm_fol_S, hway, ho] at h2
            have h3 : post (sm_e (bif Nat.beq (sm_acr n ((r * n + c) * 4 + s) / 4) d then ((0, 0 ||| 2 ^ (((r * n + c) * 4 + sd) / 4)) : Nat × Nat) else sm_fol on n d f (sm_acr n ((r * n + c) * 4 + s)) (0 ||| 2 ^ (((r * n + c) * 4 + sd) / 4))).1) (nI n, dp, al, hd, sq, fo, ot, upd pa (sm_pl n (r * n + c)) 1) := h2
            rw [eb] at h3
            rw [← sm_e0]
            exact h3
          · rw [sm_fol_S, hway, ho]
            show sm_PA n _ (bif Nat.beq (sm_acr n ((r * n + c) * 4 + s) / 4) d then ((0, m ||| 2 ^ (((r * n + c) * 4 + sd) / 4)) : Nat × Nat) else sm_fol on n d f (sm_acr n ((r * n + c) * 4 + s)) (m ||| 2 ^ (((r * n + c) * 4 + sd) / 4))).2
            rw [eb]
            show sm_PA n _ (m ||| 2 ^ (((r * n + c) * 4 + sd) / 4))
            rw [sm_t_4 hsd]
            exact sm_PA_or h5 hl hm
        · have eb : Nat.beq (sm_acr n ((r * n + c) * 4 + s) / 4) d = false := by
            rw [ha, sm_t_4 hs2]
            exact sm_beq_f z
          have ef : ∀ m, sm_fol on n d (f + 1) ((r * n + c) * 4 + sd) m = sm_fol on n d f ((r2 * n + c2) * 4 + s2) (m ||| 2 ^ (r * n + c)) := by
            intro m
            rw [sm_fol_S, hway, ho]
            show (bif Nat.beq (sm_acr n ((r * n + c) * 4 + s) / 4) d then ((0, m ||| 2 ^ (((r * n + c) * 4 + sd) / 4)) : Nat × Nat) else sm_fol on n d f (sm_acr n ((r * n + c) * 4 + s)) (m ||| 2 ^ (((r * n + c) * 4 + sd) / 4))) = _
            rw [eb, ha, sm_t_4 hsd]
            rfl
          refine ih (i + 1) r2 c2 s2 _ (by omega) hr2 hc2 hs2 (fun pa' hpa => ?_)
          have h2 := hp pa' (fun m hm => ?_)
          · rw [ef, sm_fol_1 on n d f _ _ 0] at h2
            exact h2
          · rw [ef]
            exact hpa _ (sm_PA_or h5 hl hm)
      refine br_f (nI_ge (b := 30) (by omega) (by decide)) ?_
      rw [e5]
      refine ⟨vp_in_nI hpl (by decide), nm_r eu (sy_otherSide (t := (r * n + c) * 4 + sd) h5 hq hon hr hc rfl rfl (fun s hs => ?_) body (fun z => body sd hsd z))⟩
      rw [nI_eq (by omega) (by omega)]
      omega
  obtain ⟨r, c, hr, hc, rfl⟩ := sm_q_of hd2
  have hpl := sm_pl_lt h5 hd2
  have g1 : nI (sm_pl n (r * n + c)) / 5 = nI r := by rw [sm_d5 (by omega), sm_pl_d h5 hd2, sm_rd hc]
  have g2 : nI (sm_pl n (r * n + c)) - nI (sm_pl n (r * n + c)) / 5 * 5 = nI c := by rw [sm_m5 (by omega), sm_pl_m h5 hd2, sm_rmd hc]
  exact ⟨by decide, nm_r g1 ⟨by decide, nm_r g2 ⟨_, key 30 0 r c sd pa rfl hr hc hsd hp⟩⟩⟩
theorem sy_endOf {post : Int32 → SY → Prop} {e : Nat} {x : Int32} (h1 : 1 ≤ n) (h5 : n ≤ 5) (hq : sm_YQ n fo dg) (hon : sm_oY n dg on) (he : e < 4 * n) (hx : x = nI e)
    (hp : ∀ pa', (∀ m, sm_PA n pa m → sm_PA n pa' (sm_fol on n (sm_op n e / 4) 30 (sm_op n e) m).2) → post (sm_e (sm_fol on n (sm_op n e / 4) 30 (sm_op n e) 0).1) (nI n, dp, al, hd, sq, fo, ot, pa')) :
    wpY_endOf post (nI n, dp, al, hd, sq, fo, ot, pa) x := by
  subst hx
  obtain ⟨o1, o2, o3, o4⟩ := sm_opF n (by omega) e he
  have n0 : ¬ nI n = 0 := nI_ne0 (by omega) (by omega)
  rw [o1, sm_t_4 o4] at hp
  unfold wpY_endOf
  dsimp only
  refine sy_outerPlace h1 h5 he rfl ⟨n0, ?_⟩
  exact sy_follow h1 h5 hq hon (sm_rc_lt o2 o3) o4 (by rw [sm_pl_rc o3]) (pk_div (by omega) (by omega) (by omega)) hp
theorem sy_patternHere {post : Int32 → SY → Prop} (h1 : 1 ≤ n) (h5 : n ≤ 5) (hq : sm_YQ n fo dg) (hP : sm_Path n dg on) (hp : ∀ pa', post (sm_pat on n (4 * n) 0 0) (nI n, dp, al, hd, sq, fo, ot, pa')) :
    wpY_patternHere post (nI n, dp, al, hd, sq, fo, ot, pa) := by
  have hon : sm_oY n dg on := fun t ht => (hP.1 t ht).2
  have e4 : (4 : Int32) * nI n = nI (4 * n) := pk_mul 4 n
  have key : ∀ k e a pa, e + k = 4 * n → (∀ pa', post (sm_pat on n k e a) (nI n, dp, al, hd, sq, fo, ot, pa')) → wY_patternHere_4 post (k + 1) a (nI e) (nI n) dp al hd sq fo ot pa := by
    intro k
    induction k with
    | zero =>
      intro e a pa he hp
      refine br_t ?_ (hp pa)
      rw [e4]
      exact nI_le (by omega) (by omega)
    | succ k ih =>
      intro e a pa he hp
      have he4 : e < 4 * n := by omega
      rw [sm_pat] at hp
      refine br_f ?_ (sy_isOuterOn h1 h5 hq hon he4 rfl (fun z => ?_) (fun z => ?_))
      · rw [e4]
        exact nI_ge he4 (by omega)
      · rw [z] at hp
        obtain ⟨p1, p2⟩ := hP.2.1 e he4 z
        refine br_f (by decide) (sy_endOf h1 h5 hq hon he4 rfl (fun pa' _ => ?_))
        dsimp only
        rw [← p1, sm_e_le (by omega) (by omega)]
        refine br_c (fun w => nm_r (show (2 : Int32) * a + 0 = a * 2 + 0 from by rw [Int32.mul_comm]) (nm_r (nI_1 e) (ih (e + 1) _ _ (by omega) (fun pa'' => ?_)))) (fun w => nm_r (show (2 : Int32) * a + 1 = a * 2 + 1 from by rw [Int32.mul_comm]) (nm_r (nI_1 e) (ih (e + 1) _ _ (by omega) (fun pa'' => ?_))))
        · have := hp pa''
          rw [if_pos w] at this
          exact this
        · have := hp pa''
          rw [if_neg w] at this
          exact this
      · rw [z] at hp
        exact br_t rfl (nm_r (nI_1 e) (ih (e + 1) a pa (by omega) hp))
  exact ⟨_, key (4 * n) 0 0 pa (by omega) hp⟩
end
