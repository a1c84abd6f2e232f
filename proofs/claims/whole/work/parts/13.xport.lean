/-! X: edges and paths -/
theorem sm_brb {b : Bool} {c A B : Prop} (h : b = true ↔ c) (f : b = true → A) (g : b = false → B) : (c → A) ∧ (¬ c → B) := by
  refine br_c (fun z => f (h.mpr z)) (fun z => g ?_)
  cases b with
  | false => rfl
  | true => exact absurd (h.mp rfl) z
theorem sm_beq {a b : Nat} : Nat.beq a b = true ↔ a = b := by rw [Nat.beq_eq]
theorem sm_beq_t {a b : Nat} (h : a = b) : Nat.beq a b = true := sm_beq.mpr h
theorem sm_beq_f {a b : Nat} (h : ¬ a = b) : Nat.beq a b = false := by
  cases e : Nat.beq a b with
  | false => rfl
  | true => exact absurd (sm_beq.mp e) h
theorem sm_t4 {t : Nat} (ht : t < 100) : nI t / 4 = nI (t / 4) := pk_div (d := 4) (by omega) (by decide) (by decide)
theorem sm_tm {t : Nat} (ht : t < 100) : nI t - nI t / 4 * 4 = nI (t % 4) := pk_rem (d := 4) (by omega) (by decide) (by decide)
theorem sm_e0 : sm_e 0 = -1 := by decide
theorem sm_eS (e : Nat) : sm_e (e + 1) = nI e := nI_pred e
def sm_bI (b : Bool) : Int32 := bif b then 1 else 0
section
variable {post : Int32 → Prop} {sz pls gc fc : Int32} {en st al hd dr : Nat → Int32} {n s : Nat} {dg : Nat → Nat} {on : Nat → Bool}
theorem sx_on165 {r c : Nat} {b : Bool} {z : Int32} (hr : r < 100) (hc : c < 100) (hz : z = sm_bI b) (ht : (b == Nat.beq ((r + c) % 2) 0) = true → post 1) (hf : (b == Nat.beq ((r + c) % 2) 0) = false → post 0) :
    wX_isOn_165 post (nI r) (nI c) z sz pls gc fc en st al hd dr := by
  subst hz
  have e : (nI r + nI c) - (nI r + nI c) / 2 * 2 = nI ((r + c) % 2) := by
    rw [nI_add]
    exact pk_rem (d := 2) (by omega) (by decide) (by decide)
  refine ⟨by decide, ?_⟩
  rw [e]
  rcases Nat.mod_two_eq_zero_or_one (r + c) with h | h
  · rw [h] at ht hf ⊢
    refine br_t rfl ?_
    cases b with
    | true => exact br_t rfl (ht rfl)
    | false => exact br_f (by decide) (hf rfl)
  · rw [h] at ht hf ⊢
    refine br_f (by decide) ?_
    cases b with
    | true => exact br_f (by decide) (hf rfl)
    | false => exact br_t rfl (ht rfl)
theorem sx_row {r m : Nat} {x z : Int32} (h5 : n ≤ 5) (hs : s + n * n ≤ 10725) (hv : ∀ q, q < n * n → en (s + q) = sm_e (dg q)) (hr : r < n) (hm : m ≤ n) (hx : x = nI s + nI r * nI n) (hz : z = nI m)
    (hp : post (nI (sm_ns (fun j => dg (r * n + j)) m) - nI m)) : wpX_sumOfLine__entries post (sz, pls, gc, fc, en, st, al, hd, dr) x 1 z := by
  have hnn := sm_nn h5
  have hl : r * n + n ≤ n * n := by
    have h : (r + 1) * n ≤ n * n := Nat.mul_le_mul_right n hr
    rw [Nat.add_mul] at h
    omega
  refine sx_sumE (f := s + r * n) (s := 1) (m := m) (fun j => sm_e (dg (r * n + j))) (by rw [hx, pk_mul, nI_add]) rfl hz (by omega) (fun j hj => by omega) (fun j hj => ?_) ?_
  · rw [Nat.mul_one, Nat.add_assoc]
    exact hv _ (by omega)
  · rw [sm_sum_e]
    exact hp
theorem sx_col {c m : Nat} {x z : Int32} (h5 : n ≤ 5) (hs : s + n * n ≤ 10725) (hv : ∀ q, q < n * n → en (s + q) = sm_e (dg q)) (hc : c < n) (hm : m ≤ n) (hx : x = nI s + nI c) (hz : z = nI m)
    (hp : post (nI (sm_ns (fun i => dg (c + i * n)) m) - nI m)) : wpX_sumOfLine__entries post (sz, pls, gc, fc, en, st, al, hd, dr) x (nI n) z := by
  have hnn := sm_nn h5
  have hl : ∀ i, i < m → c + i * n < n * n := by
    intro i hi
    have h : (i + 1) * n ≤ n * n := Nat.mul_le_mul_right n (by omega)
    rw [Nat.add_mul] at h
    omega
  refine sx_sumE (f := s + c) (s := n) (m := m) (fun i => sm_e (dg (c + i * n))) (by rw [hx, nI_add]) rfl hz (by omega) (fun j hj => by have := hl j hj; omega) (fun j hj => ?_) ?_
  · rw [Nat.add_assoc]
    exact hv _ (hl j hj)
  · rw [sm_sum_e]
    exact hp
/-- the square at start s of the entries -/
def sm_SQ (n : Nat) (en : Nat → Int32) (s : Nat) (dg : Nat → Nat) : Prop := s + n * n ≤ 10725 ∧ ∀ q, q < n * n → en (s + q) = sm_e (dg q) ∧ dg q ≤ 2
theorem sm_ns2 {g : Nat → Nat} {m : Nat} (hm : m ≤ 5) (h : ∀ i, i < m → g i ≤ 2) : sm_ns g m ≤ 10 := by
  have := sm_ns_le (b := 2) h
  omega
theorem sx_isOn {t : Nat} {x y : Int32} (h1 : 1 ≤ n) (h5 : n ≤ 5) (hq : sm_SQ n en s dg) (ht4 : t < 4 * (n * n)) (hx : x = nI s) (hy : y = nI t) (ht : sm_onX n dg t = true → post 1) (hf : sm_onX n dg t = false → post 0) :
    wpX_isOn post (nI n, pls, gc, fc, en, st, al, hd, dr) x y := by
  subst hx hy
  obtain ⟨hs, hv2⟩ := hq
  have hv : ∀ q, q < n * n → en (s + q) = sm_e (dg q) := fun q h => (hv2 q h).1
  have hnn := sm_nn h5
  obtain ⟨r, c, sd, hr, hc, hsd, rfl⟩ := sm_t_of ht4
  have hl := sm_rc_lt hr hc
  have a1 : nI ((r * n + c) * 4 + sd) - nI ((r * n + c) * 4 + sd) / 4 * 4 = nI sd := by rw [sm_tm (by omega), sm_t_m hsd]
  have a2 : nI ((r * n + c) * 4 + sd) / 4 = nI (r * n + c) := by rw [sm_t4 (by omega), sm_t_4 hsd]
  have a3 : nI (r * n + c) / nI n = nI r := by rw [pk_div (by omega) (by omega) (by omega), sm_rd hc]
  have a4 : nI (r * n + c) - nI (r * n + c) / nI n * nI n = nI c := by rw [pk_rem (by omega) (by omega) (by omega), sm_rmd hc]
  have n0 : ¬ nI n = 0 := nI_ne0 (by omega) (by omega)
  have f0 : ¬ (4 : Int32) = 0 := by decide
  have hon : sm_onX n dg ((r * n + c) * 4 + sd) = (sm_in n dg r c sd == Nat.beq ((r + c) % 2) 0) := by
    unfold sm_onX
    rw [sm_t_4 hsd, sm_t_m hsd, sm_rd hc, sm_rmd hc]
  rw [hon] at ht hf
  have hR : ∀ m, m ≤ n → sm_ns (fun j => dg (r * n + j)) m ≤ 10 := fun m hm => sm_ns2 (by omega) (fun j hj => (hv2 _ (sm_rc_lt hr (by omega))).2)
  have hC : ∀ m, m ≤ n → sm_ns (fun i => dg (c + i * n)) m ≤ 10 := fun m hm => sm_ns2 (by omega) (fun i hi => (hv2 _ (by rw [Nat.add_comm]; exact sm_rc_lt (by omega) hc)).2)
  have fin : ∀ b, sm_in n dg r c sd = b → wX_isOn_165 post (nI r) (nI c) (sm_bI b) (nI n) pls gc fc en st al hd dr := by
    intro b hb
    rw [hb] at ht hf
    exact sx_on165 (by omega) (by omega) rfl ht hf
  refine ⟨f0, nm_r a1 ⟨f0, n0, ?_⟩⟩
  rw [a2]
  refine nm_r a3 ⟨f0, n0, nm_r a4 ?_⟩
  clear ht hf hon a1 a2 ht4
  rcases (by omega : sd = 0 ∨ sd = 1 ∨ sd = 2 ∨ sd = 3) with rfl | rfl | rfl | rfl
  · refine br_f (by decide) (br_f (by decide) (br_f (by decide) (sx_col h5 hs hv hc (m := r) (by omega) rfl rfl (br_f (by decide) ?_))))
    rw [sm_1 (by have := hC r (by omega); omega) (by omega)]
    exact sm_brb sm_beq (fun z => fin true z) (fun z => fin false z)
  · refine br_f (by decide) (br_t rfl (br_t rfl (sx_row h5 hs hv hr (m := c + 1) (by omega) rfl (nI_1 c) (br_t rfl ?_))))
    rw [sm_1 (by have := hR (c + 1) (by omega); omega) (by omega)]
    exact sm_brb sm_beq (fun z => fin true z) (fun z => fin false z)
  · refine br_f (by decide) (br_f (by decide) (br_t rfl (sx_col h5 hs hv hc (m := r + 1) (by omega) rfl (nI_1 r) (br_t rfl ?_))))
    rw [sm_z (by have := hC (r + 1) (by omega); omega) (by omega)]
    exact sm_brb sm_beq (fun z => fin true z) (fun z => fin false z)
  · refine br_t rfl (br_f (by decide) (sx_row h5 hs hv hr (m := c) (by omega) rfl rfl (br_f (by decide) ?_)))
    rw [sm_z (by have := hR c (by omega); omega) (by omega)]
    exact sm_brb sm_beq (fun z => fin true z) (fun z => fin false z)
theorem sx_wayOn {t : Nat} {x y : Int32} (h1 : 1 ≤ n) (h5 : n ≤ 5) (hq : sm_SQ n en s dg) (hon : ∀ t, t < 4 * (n * n) → on t = sm_onX n dg t) (ht4 : t < 4 * (n * n)) (hx : x = nI s) (hy : y = nI t) (hp : post (nI (sm_wy on t))) :
    wpX_wayOn post (nI n, pls, gc, fc, en, st, al, hd, dr) x y := by
  subst hx hy
  have hnn := sm_nn h5
  have a1 : nI t - (nI t - nI t / 4 * 4) = nI (t - t % 4) := by rw [sm_tm (by omega), pk_sub (Nat.mod_le _ _)]
  refine ⟨by decide, nm_r a1 ⟨5, ?_⟩⟩
  have key : ∀ k i, i + k = 4 → post (nI (sm_way on (t - t % 4) t k)) → wX_wayOn_9 post (nI s) (nI t) (nI (t - t % 4)) (nI n) pls gc fc en st al hd dr (k + 1) (nI i) := by
    intro k
    induction k with
    | zero =>
      intro i hi hp
      exact br_t (nI_le (a := 4) (by omega) (by omega)) hp
    | succ k ih =>
      intro i hi hp
      rw [sm_way, show 3 - k = i by omega] at hp
      refine br_f (nI_ge (b := 4) (by omega) (by decide)) (nm_r (nI_add _ _) ?_)
      rw [nI_eq (by omega) (by omega)]
      by_cases e : t - t % 4 + i = t
      · rw [sm_beq_t e] at hp
        exact br_t e (nm_r (nI_1 i) (ih (i + 1) (by omega) hp))
      · rw [sm_beq_f e] at hp
        refine br_f e (sx_isOn h1 h5 hq (t := t - t % 4 + i) (by omega) rfl rfl ?_ ?_)
        · intro z
          rw [hon _ (by omega), z] at hp
          exact br_f (by decide) hp
        · intro z
          rw [hon _ (by omega), z] at hp
          exact br_t rfl (nm_r (nI_1 i) (ih (i + 1) (by omega) hp))
  exact key 4 0 rfl hp
theorem sx_outerNumber {t : Nat} {y : Int32} (h1 : 1 ≤ n) (h5 : n ≤ 5) (ht4 : t < 4 * (n * n)) (hy : y = nI t) (hp : post (sm_e (sm_out n t))) :
    wpX_outerNumber post (nI n, pls, gc, fc, en, st, al, hd, dr) y := by
  subst hy
  have hnn := sm_nn h5
  obtain ⟨r, c, sd, hr, hc, hsd, rfl⟩ := sm_t_of ht4
  have hl := sm_rc_lt hr hc
  have a1 : nI ((r * n + c) * 4 + sd) - nI ((r * n + c) * 4 + sd) / 4 * 4 = nI sd := by rw [sm_tm (by omega), sm_t_m hsd]
  have a2 : nI ((r * n + c) * 4 + sd) / 4 = nI (r * n + c) := by rw [sm_t4 (by omega), sm_t_4 hsd]
  have a3 : nI (r * n + c) / nI n = nI r := by rw [pk_div (by omega) (by omega) (by omega), sm_rd hc]
  have a4 : nI (r * n + c) - nI (r * n + c) / nI n * nI n = nI c := by rw [pk_rem (by omega) (by omega) (by omega), sm_rmd hc]
  have n0 : ¬ nI n = 0 := nI_ne0 (by omega) (by omega)
  have f0 : ¬ (4 : Int32) = 0 := by decide
  refine ⟨f0, nm_r a1 ⟨f0, n0, ?_⟩⟩
  rw [a2]
  refine nm_r a3 ⟨f0, n0, nm_r a4 (nm_r (sm_n1 h1) ?_)⟩
  clear a1 a2 ht4
  rcases (by omega : sd = 0 ∨ sd = 1 ∨ sd = 2 ∨ sd = 3) with rfl | rfl | rfl | rfl
  · rw [sm_out0 hc] at hp
    refine br_t rfl (pk_eq r 0 (fun e => ?_) (fun e => ?_))
    · rw [sm_beq_t e] at hp
      rw [← sm_eS]
      exact hp
    · rw [sm_beq_f e] at hp
      have hp2 : post (-1) := by
        rw [← sm_e0]
        exact hp
      exact br_f (by decide) (br_f (by decide) (br_f (by decide) hp2))
  · rw [sm_out1 hc] at hp
    refine br_f (by decide) (br_t rfl (pk_eq c (n - 1) (fun e => ?_) (fun e => ?_)))
    · rw [sm_beq_t (by omega)] at hp
      rw [nI_add, ← sm_eS]
      exact hp
    · rw [sm_beq_f (by omega)] at hp
      have hp2 : post (-1) := by
        rw [← sm_e0]
        exact hp
      exact br_f (by decide) (br_f (by decide) hp2)
  · rw [sm_out2 hc] at hp
    refine br_f (by decide) (br_f (by decide) (br_t rfl (pk_eq r (n - 1) (fun e => ?_) (fun e => ?_))))
    · rw [sm_beq_t (by omega)] at hp
      rw [show ((2 : Int32) * nI n + nI (n - 1)) - nI c = nI (2 * n + (n - 1 - c)) from by
        rw [show (2 : Int32) = nI 2 from rfl, pk_mul, nI_add, pk_sub (by omega), show 2 * n + (n - 1) - c = 2 * n + (n - 1 - c) by omega], ← sm_eS]
      exact hp
    · rw [sm_beq_f (by omega)] at hp
      have hp2 : post (-1) := by
        rw [← sm_e0]
        exact hp
      exact br_f (by decide) hp2
  · rw [sm_out3 hc] at hp
    refine br_f (by decide) (br_f (by decide) (br_f (by decide) (br_t rfl (pk_eq c 0 (fun e => ?_) (fun e => ?_)))))
    · rw [sm_beq_t (by omega)] at hp
      rw [show ((3 : Int32) * nI n + nI (n - 1)) - nI r = nI (3 * n + (n - 1 - r)) from by
        rw [show (3 : Int32) = nI 3 from rfl, pk_mul, nI_add, pk_sub (by omega), show 3 * n + (n - 1) - r = 3 * n + (n - 1 - r) by omega], ← sm_eS]
      exact hp
    · rw [sm_beq_f (by omega)] at hp
      rw [← sm_e0]
      exact hp
theorem sx_portAcross {t : Nat} {y : Int32} (h5 : n ≤ 5) (ht4 : t < 4 * (n * n)) (hy : y = nI t) (ho : sm_out n t = 0) (hp : post (nI (sm_acr n t))) :
    wpX_portAcross post (nI n, pls, gc, fc, en, st, al, hd, dr) y := by
  subst hy
  have hnn := sm_nn h5
  obtain ⟨r, c, sd, hr, hc, hsd, rfl⟩ := sm_t_of ht4
  have hl := sm_rc_lt hr hc
  have a1 : nI ((r * n + c) * 4 + sd) - nI ((r * n + c) * 4 + sd) / 4 * 4 = nI sd := by rw [sm_tm (by omega), sm_t_m hsd]
  have a2 : nI ((r * n + c) * 4 + sd) / 4 = nI (r * n + c) := by rw [sm_t4 (by omega), sm_t_4 hsd]
  have f0 : ¬ (4 : Int32) = 0 := by decide
  refine ⟨f0, nm_r a1 ⟨f0, nm_r a2 ?_⟩⟩
  clear a1 a2 ht4
  have m4 : ∀ a b : Nat, nI a * 4 + nI b = nI (a * 4 + b) := by
    intro a b
    rw [show (4 : Int32) = nI 4 from rfl, pk_mul, nI_add]
  rcases (by omega : sd = 0 ∨ sd = 1 ∨ sd = 2 ∨ sd = 3) with rfl | rfl | rfl | rfl
  · refine br_t rfl ?_
    rw [sm_out0 hc] at ho
    cases r with
    | zero => cases ho
    | succ r =>
      rw [sm_acr0] at hp
      rw [show nI ((r + 1) * n + c) - nI n = nI (r * n + c) from by
        rw [pk_sub (by rw [Nat.add_mul]; omega), Nat.add_mul, Nat.one_mul, show r * n + n + c - n = r * n + c by omega]]
      exact (m4 _ 2).symm ▸ hp
  · refine br_f (by decide) (br_t rfl ?_)
    rw [sm_acr1] at hp
    rw [nI_1]
    exact (m4 _ 3).symm ▸ hp
  · refine br_f (by decide) (br_f (by decide) (br_t rfl ?_))
    rw [sm_acr2] at hp
    rw [show nI (r * n + c) + nI n = nI ((r + 1) * n + c) from by
      rw [nI_add, Nat.add_mul, Nat.one_mul, show r * n + c + n = r * n + n + c by omega]]
    exact (m4 _ 0).symm ▸ hp
  · refine br_f (by decide) (br_f (by decide) (br_f (by decide) ?_))
    rw [sm_out3 hc] at ho
    cases c with
    | zero => cases ho
    | succ c =>
      rw [sm_acr3] at hp
      rw [show nI (r * n + (c + 1)) - 1 = nI (r * n + c) from nI_pred (r * n + c)]
      exact (m4 _ 1).symm ▸ hp
end
