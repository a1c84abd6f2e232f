/-! Y: edges -/
/-- the square found -/
def sm_YQ (n : Nat) (fo : Nat → Int32) (dg : Nat → Nat) : Prop := ∀ q, q < n * n → fo (sm_pl n q) = sm_e (dg q) ∧ dg q ≤ 2
theorem sm_brB {b : Bool} {A B : Prop} {c : Prop} (h : c ↔ b = true) (f : b = true → A) (g : b = false → B) : (c → A) ∧ (¬ c → B) := sm_brb h.symm f g
theorem sm_opG : ∀ n, n < 6 → ∀ e, e < 4 * n → (n ≤ e ↔ 1 ≤ e / n) ∧ (2 * n ≤ e ↔ 2 ≤ e / n) ∧ (3 * n ≤ e ↔ 3 ≤ e / n) := by decide +kernel
section
variable {post : Int32 → Prop} {sz dp : Int32} {al hd sq fo ot pa : Nat → Int32} {n : Nat} {dg : Nat → Nat} {on : Nat → Bool}
theorem sy_across {r c : Nat} {x y : Int32} (h5 : n ≤ 5) (hq : sm_YQ n fo dg) (hr : r < n) (hc : c < n) (hx : x = nI r) (hy : y = nI c) (hp : post (nI (sm_ns (fun j => dg (r * n + j)) (c + 1)) - nI (c + 1))) :
    wpY_sumAcross post (sz, dp, al, hd, sq, fo, ot, pa) x y := by
  subst hx hy
  refine loop_0 (fun k i a => wY_sumAcross_5 post (nI r) (nI c) sz dp al hd sq fo ot pa k a (nI i)) (fun i a => a = sm_sum (fun j => sm_e (dg (r * n + j))) i) (c + 1) 0 rfl ?_ ?_
  · rintro k a rfl
    refine br_t (nI_lt (by omega) (by omega)) ?_
    rw [sm_sum_e]
    exact hp
  · rintro k i a hi rfl hk
    refine br_f (nI_nlt (by omega) (by omega)) ?_
    rw [sm_5, nI_clamp (by omega), ← sm_pl_rc (n := n) (by omega), (hq _ (sm_rc_lt hr (by omega))).1]
    exact ⟨vp_in_nI (sm_pl_lt h5 (sm_rc_lt hr (by omega))) (by decide), nm_e (nm_r (nI_1 i) (hk _ rfl))⟩
theorem sy_down {r c : Nat} {x y : Int32} (h5 : n ≤ 5) (hq : sm_YQ n fo dg) (hr : r < n) (hc : c < n) (hx : x = nI r) (hy : y = nI c) (hp : post (nI (sm_ns (fun i => dg (c + i * n)) (r + 1)) - nI (r + 1))) :
    wpY_sumDown post (sz, dp, al, hd, sq, fo, ot, pa) x y := by
  subst hx hy
  refine loop_0 (fun k i a => wY_sumDown_5 post (nI r) (nI c) sz dp al hd sq fo ot pa k a (nI i)) (fun i a => a = sm_sum (fun j => sm_e (dg (c + j * n))) i) (r + 1) 0 rfl ?_ ?_
  · rintro k a rfl
    refine br_t (nI_lt (by omega) (by omega)) ?_
    rw [sm_sum_e]
    exact hp
  · rintro k i a hi rfl hk
    have hl : c + i * n < n * n := by
      rw [Nat.add_comm]
      exact sm_rc_lt (by omega) hc
    refine br_f (nI_nlt (by omega) (by omega)) ?_
    rw [sm_5, nI_clamp (by omega), ← sm_pl_cr hc, (hq _ hl).1]
    exact ⟨vp_in_nI (sm_pl_lt h5 hl) (by decide), nm_e (nm_r (nI_1 i) (hk _ rfl))⟩
theorem sy_leadsOut {r c s : Nat} {x y z : Int32} (h5 : n ≤ 5) (hq : sm_YQ n fo dg) (hr : r < n) (hc : c < n) (hs : s < 4) (hx : x = nI r) (hy : y = nI c) (hz : z = nI s) (ht : sm_lo n dg r c s = true → post 1) (hf : sm_lo n dg r c s = false → post 0) :
    wpY_leadsOut post (sz, dp, al, hd, sq, fo, ot, pa) x y z := by
  subst hx hy hz
  have hR : ∀ m, m ≤ n → sm_ns (fun j => dg (r * n + j)) m ≤ 10 := fun m hm => sm_ns2 (by omega) (fun j hj => (hq _ (sm_rc_lt hr (by omega))).2)
  have hC : ∀ m, m ≤ n → sm_ns (fun i => dg (c + i * n)) m ≤ 10 := fun m hm => sm_ns2 (by omega) (fun i hi => (hq _ (by rw [Nat.add_comm]; exact sm_rc_lt (by omega) hc)).2)
  rcases sm_four hs with rfl | rfl | rfl | rfl
  · refine br_t rfl (pk_eq r 0 (fun e => ht ?_) (fun e => ?_))
    · show (Nat.beq r 0 || _) = true
      rw [sm_beq_t e]
      rfl
    · have e0 : sm_lo n dg r c 0 = Nat.beq (sm_ns (fun i => dg (c + i * n)) r) r := by
        show (Nat.beq r 0 || _) = _
        rw [sm_beq_f e]
        rfl
      rw [e0] at ht hf
      refine sy_down (r := r - 1) h5 hq (by omega) hc (pk_sub (b := 1) (by omega)) rfl ?_
      rw [show r - 1 + 1 = r by omega, sm_z (by have := hC r (by omega); omega) (by omega)]
      exact sm_brb sm_beq ht hf
  · refine br_f (by decide) (br_t rfl (sy_across h5 hq hr hc rfl rfl ?_))
    rw [sm_z (by have := hR (c + 1) (by omega); omega) (by omega)]
    exact sm_brb sm_beq ht hf
  · refine br_f (by decide) (br_f (by decide) (br_t rfl (sy_down h5 hq hr hc rfl rfl ?_)))
    rw [sm_1 (by have := hC (r + 1) (by omega); omega) (by omega)]
    exact sm_brb sm_beq ht hf
  · refine br_f (by decide) (br_f (by decide) (br_f (by decide) (pk_le c 0 (fun e => hf ?_) (fun e => ?_))))
    · show (Nat.ble 1 c && _) = false
      rw [show c = 0 by omega]
      rfl
    · have e0 : sm_lo n dg r c 3 = Nat.beq (sm_ns (fun j => dg (r * n + j)) c) (c + 1) := by
        show (Nat.ble 1 c && _) = _
        rw [Nat.ble_eq_true_of_le (show 1 ≤ c by omega)]
        rfl
      rw [e0] at ht hf
      refine sy_across (c := c - 1) h5 hq hr (by omega) rfl (pk_sub (b := 1) (by omega)) ?_
      rw [show c - 1 + 1 = c by omega, sm_1 (by have := hR c (by omega); omega) (by omega)]
      exact sm_brb sm_beq ht hf
theorem sy_isOn {r c s : Nat} {x y z : Int32} (h5 : n ≤ 5) (hq : sm_YQ n fo dg) (hr : r < n) (hc : c < n) (hs : s < 4) (hx : x = nI r) (hy : y = nI c) (hz : z = nI s) (ht : sm_onY n dg r c s = true → post 1) (hf : sm_onY n dg r c s = false → post 0) :
    wpY_isOn post (sz, dp, al, hd, sq, fo, ot, pa) x y z := by
  subst hx hy hz
  have e : (nI r + nI c) - (nI r + nI c) / 2 * 2 = nI ((r + c) % 2) := by
    rw [nI_add]
    exact pk_rem (d := 2) (by omega) (by decide) (by decide)
  have fin : ∀ b, sm_lo n dg r c s = b → (¬ (2 : Int32) = 0 ∧ (((((nI r + nI c) - (nI r + nI c) / 2 * 2) = 1 → wY_isOn_21 post 1 (sm_bI b) sz dp al hd sq fo ot pa) ∧ (¬ ((nI r + nI c) - (nI r + nI c) / 2 * 2) = 1 → wY_isOn_21 post 0 (sm_bI b) sz dp al hd sq fo ot pa)))) := by
    intro b hb
    unfold sm_onY at ht hf
    rw [hb] at ht hf
    refine ⟨by decide, ?_⟩
    rw [e]
    rcases Nat.mod_two_eq_zero_or_one (r + c) with h | h
    · rw [h] at ht hf ⊢
      refine br_f (by decide) ?_
      cases b with
      | true => exact br_f (by decide) (hf rfl)
      | false => exact br_t rfl (ht rfl)
    · rw [h] at ht hf ⊢
      refine br_t rfl ?_
      cases b with
      | true => exact br_t rfl (ht rfl)
      | false => exact br_f (by decide) (hf rfl)
  unfold wpY_isOn
  dsimp only
  exact sy_leadsOut h5 hq hr hc hs rfl rfl rfl (fun z => fin true z) (fun z => fin false z)
theorem sy_outerPlace {e : Nat} {x : Int32} (h1 : 1 ≤ n) (h5 : n ≤ 5) (he : e < 4 * n) (hx : x = nI e) (hp : post (nI (5 * sm_opr n e + sm_opc n e))) :
    wpY_outerPlace post (nI n, dp, al, hd, sq, fo, ot, pa) x := by
  subst hx
  obtain ⟨o1, o2, o3, o4⟩ := sm_opF n (by omega) e he
  obtain ⟨g1, g2, g3⟩ := sm_opG n (by omega) e he
  have n0 : ¬ nI n = 0 := nI_ne0 (by omega) (by omega)
  have hm : e % n < n := Nat.mod_lt _ (by omega)
  have e2 : (2 : Int32) * nI n = nI (2 * n) := pk_mul 2 n
  have e3 : (3 : Int32) * nI n = nI (3 * n) := pk_mul 3 n
  refine ⟨n0, nm_r (pk_rem (by omega) (by omega) (by omega)) ?_⟩
  rw [e2, e3, sm_n1 h1]
  have key : ∀ a r c, sm_opr n e = r → sm_opc n e = c → a = nI (5 * r + c) → post a := by
    rintro _ _ _ rfl rfl rfl
    exact hp
  rcases sm_four o4 with hk | hk | hk | hk
  · refine br_f (nI_ge (by omega) (by omega)) (key _ 0 (e % n) ?_ ?_ ?_)
    · unfold sm_opr
      rw [hk]
      rfl
    · unfold sm_opc
      rw [hk]
      rfl
    · rw [Nat.mul_zero, Nat.zero_add]
  · refine br_t (nI_le (by omega) (by omega)) (br_f (nI_ge (by omega) (by omega)) (key _ (e % n) (n - 1) ?_ ?_ ?_))
    · unfold sm_opr
      rw [hk]
      rfl
    · unfold sm_opc
      rw [hk]
      rfl
    · rw [sm_5, show nI (5 * (e % n) + n) - 1 = nI (5 * (e % n) + n - 1) from pk_sub (b := 1) (by omega), show 5 * (e % n) + n - 1 = 5 * (e % n) + (n - 1) by omega]
  · refine br_t (nI_le (by omega) (by omega)) (br_t (nI_le (by omega) (by omega)) (br_f (nI_ge (by omega) (by omega)) (key _ (n - 1) (n - 1 - e % n) ?_ ?_ ?_)))
    · unfold sm_opr
      rw [hk]
      rfl
    · unfold sm_opc
      rw [hk]
      rfl
    · rw [sm_5, show nI (5 * (n - 1) + n) - 1 = nI (5 * (n - 1) + n - 1) from pk_sub (b := 1) (by omega), pk_sub (by omega), show 5 * (n - 1) + n - 1 - e % n = 5 * (n - 1) + (n - 1 - e % n) by omega]
  · refine br_t (nI_le (by omega) (by omega)) (br_t (nI_le (by omega) (by omega)) (br_t (nI_le (by omega) (by omega)) (key _ (n - 1 - e % n) 0 ?_ ?_ ?_)))
    · unfold sm_opr
      rw [hk]
      rfl
    · unfold sm_opc
      rw [hk]
      rfl
    · rw [pk_sub (by omega), show (5 : Int32) = nI 5 from rfl, pk_mul, Nat.add_zero]
/-- Y's test of a port -/
def sm_oY (n : Nat) (dg : Nat → Nat) (on : Nat → Bool) : Prop := ∀ t, t < 4 * (n * n) → on t = sm_onY n dg (t / 4 / n) (t / 4 % n) (t % 4)
theorem sm_oY_rc (hon : sm_oY n dg on) {r c s : Nat} (hr : r < n) (hc : c < n) (hs : s < 4) : on ((r * n + c) * 4 + s) = sm_onY n dg r c s := by
  rw [hon _ (sm_t_lt hr hc hs), sm_t_4 hs, sm_t_m hs, sm_rd hc, sm_rmd hc]
theorem sy_isOuterOn {e : Nat} {x : Int32} (h1 : 1 ≤ n) (h5 : n ≤ 5) (hq : sm_YQ n fo dg) (hon : sm_oY n dg on) (he : e < 4 * n) (hx : x = nI e) (ht : on (sm_op n e) = true → post 1) (hf : on (sm_op n e) = false → post 0) :
    wpY_isOuterOn post (nI n, dp, al, hd, sq, fo, ot, pa) x := by
  subst hx
  obtain ⟨o1, o2, o3, o4⟩ := sm_opF n (by omega) e he
  have n0 : ¬ nI n = 0 := nI_ne0 (by omega) (by omega)
  rw [o1, sm_oY_rc hon o2 o3 o4] at ht hf
  unfold wpY_isOuterOn
  dsimp only
  refine sy_outerPlace h1 h5 he rfl ⟨by decide, by decide, n0, ?_⟩
  refine sy_isOn h5 hq o2 o3 o4 ?_ ?_ (pk_div (by omega) (by omega) (by omega)) (fun z => ⟨rfl, ht z⟩) (fun z => ⟨rfl, hf z⟩)
  · rw [sm_d5 (by omega), sm_div5 (by omega)]
  · rw [sm_m5 (by omega), sm_mod5 (by omega)]
theorem sy_otherSide {r c t : Nat} {x y z : Int32} (h5 : n ≤ 5) (hq : sm_YQ n fo dg) (hon : sm_oY n dg on) (hr : r < n) (hc : c < n) (hx : x = nI r) (hy : y = nI c) (hz : ∀ s, s < 4 → (nI s = z ↔ (r * n + c) * 4 + s = t))
    (hp : ∀ s, s < 4 → sm_way on ((r * n + c) * 4) t 4 = (r * n + c) * 4 + s → post (nI s)) (he : sm_way on ((r * n + c) * 4) t 4 = t → post z) :
    wpY_otherSide post (nI n, dp, al, hd, sq, fo, ot, pa) x y z := by
  subst hx hy
  refine ⟨5, ?_⟩
  have key : ∀ k i, i + k = 4 → sm_way on ((r * n + c) * 4) t k = sm_way on ((r * n + c) * 4) t 4 → wY_otherSide_3 post (nI r) (nI c) z (nI n) dp al hd sq fo ot pa (k + 1) (nI i) := by
    intro k
    induction k with
    | zero =>
      intro i hi h
      exact br_t (nI_le (a := 4) (by omega) (by omega)) (he h.symm)
    | succ k ih =>
      intro i hi h
      rw [sm_way, show 3 - k = i by omega] at h
      refine br_f (nI_ge (b := 4) (by omega) (by decide)) ?_
      rw [hz i (by omega)]
      refine br_c (fun w => nm_r (nI_1 i) (ih (i + 1) (by omega) ?_)) (fun w => sy_isOn h5 hq hr hc (s := i) (by omega) rfl rfl rfl (fun o => br_f (by decide) (hp i (by omega) ?_)) (fun o => br_t rfl (nm_r (nI_1 i) (ih (i + 1) (by omega) ?_))))
      · rw [sm_beq_t w] at h
        exact h
      · rw [sm_beq_f w, sm_oY_rc hon hr hc (by omega), o] at h
        exact h.symm
      · rw [sm_beq_f w, sm_oY_rc hon hr hc (by omega), o] at h
        exact h
  exact key 4 0 rfl rfl
end
