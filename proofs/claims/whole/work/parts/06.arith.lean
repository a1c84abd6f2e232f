/-! places and ports -/
theorem sm_rd {n r c : Nat} (hc : c < n) : (r * n + c) / n = r := by
  rw [Nat.mul_comm, Nat.mul_add_div (by omega), Nat.div_eq_of_lt hc, Nat.add_zero]
theorem sm_rmd {n r c : Nat} (hc : c < n) : (r * n + c) % n = c := by
  rw [Nat.mul_comm, Nat.mul_add_mod, Nat.mod_eq_of_lt hc]
theorem sm_rc_lt {n r c : Nat} (hr : r < n) (hc : c < n) : r * n + c < n * n := by
  have h : (r + 1) * n ≤ n * n := Nat.mul_le_mul_right n hr
  rw [Nat.add_mul] at h
  omega
theorem sm_nn {n : Nat} (h : n ≤ 5) : n * n ≤ 25 := Nat.mul_le_mul h h
theorem sm_nn1 {n : Nat} (h : 1 ≤ n) : 1 ≤ n * n := Nat.mul_le_mul h h
theorem sm_mn {r n : Nat} (h : n ≤ 5) (hr : r ≤ n) : r * n ≤ 25 := Nat.le_trans (Nat.mul_le_mul hr (Nat.le_refl n)) (sm_nn h)
theorem sm_q_r {n q : Nat} (h : q < n * n) : q / n < n := Nat.div_lt_of_lt_mul h
theorem sm_q_c {n q : Nat} (h : q < n * n) : q % n < n := Nat.mod_lt _ (by
  rcases Nat.eq_zero_or_pos n with h0 | h0
  · subst h0
    omega
  · exact h0)
theorem sm_q_eq (n q : Nat) : q / n * n + q % n = q := Nat.div_add_mod' q n
theorem sm_q_of {n q : Nat} (h : q < n * n) : ∃ r c, r < n ∧ c < n ∧ q = r * n + c := ⟨q / n, q % n, sm_q_r h, sm_q_c h, (sm_q_eq n q).symm⟩
/-- Y's cell of X's place q -/
def sm_pl (n q : Nat) : Nat := 5 * (q / n) + q % n
theorem sm_pl_rc {n r c : Nat} (hc : c < n) : sm_pl n (r * n + c) = 5 * r + c := by
  unfold sm_pl
  rw [sm_rd hc, sm_rmd hc]
theorem sm_pl_lt {n q : Nat} (hn : n ≤ 5) (h : q < n * n) : sm_pl n q < 25 := by
  have h1 := sm_q_r h
  have h2 := sm_q_c h
  unfold sm_pl
  omega
theorem sm_pl_inj {n p q : Nat} (hn : n ≤ 5) (hp : p < n * n) (hq : q < n * n) (h : sm_pl n p = sm_pl n q) : p = q := by
  have h1 := sm_q_c hp
  have h2 := sm_q_c hq
  have e1 := sm_q_eq n p
  have e2 := sm_q_eq n q
  unfold sm_pl at h
  have a : p / n = q / n := by omega
  have b : p % n = q % n := by omega
  rw [← e1, ← e2, a, b]
theorem sm_t_4 {P s : Nat} (hs : s < 4) : (P * 4 + s) / 4 = P := by omega
theorem sm_t_m {P s : Nat} (hs : s < 4) : (P * 4 + s) % 4 = s := by omega
theorem sm_t_of {n t : Nat} (h : t < 4 * (n * n)) : ∃ r c s, r < n ∧ c < n ∧ s < 4 ∧ t = (r * n + c) * 4 + s := by
  have h1 : t / 4 < n * n := by omega
  refine ⟨t / 4 / n, t / 4 % n, t % 4, sm_q_r h1, sm_q_c h1, Nat.mod_lt _ (by decide), ?_⟩
  rw [sm_q_eq]
  omega
theorem sm_t_lt {n r c s : Nat} (hr : r < n) (hc : c < n) (hs : s < 4) : (r * n + c) * 4 + s < 4 * (n * n) := by
  have := sm_rc_lt hr hc
  omega
theorem sm_s4 {s : Nat} {P : Nat → Prop} (hs : s < 4) (p0 : P 0) (p1 : P 1) (p2 : P 2) (p3 : P 3) : P s := by
  rcases (by omega : s = 0 ∨ s = 1 ∨ s = 2 ∨ s = 3) with rfl | rfl | rfl | rfl
  · exact p0
  · exact p1
  · exact p2
  · exact p3
section
variable {n r c : Nat}
theorem sm_out0 (hc : c < n) : sm_out n ((r * n + c) * 4 + 0) = bif Nat.beq r 0 then c + 1 else 0 := by
  unfold sm_out
  rw [sm_t_m (by omega), sm_t_4 (by omega), sm_rd hc, sm_rmd hc]
  rfl
theorem sm_out1 (hc : c < n) : sm_out n ((r * n + c) * 4 + 1) = bif Nat.beq (c + 1) n then n + r + 1 else 0 := by
  unfold sm_out
  rw [sm_t_m (by omega), sm_t_4 (by omega), sm_rd hc, sm_rmd hc]
  rfl
theorem sm_out2 (hc : c < n) : sm_out n ((r * n + c) * 4 + 2) = bif Nat.beq (r + 1) n then 2 * n + (n - 1 - c) + 1 else 0 := by
  unfold sm_out
  rw [sm_t_m (by omega), sm_t_4 (by omega), sm_rd hc, sm_rmd hc]
  rfl
theorem sm_out3 (hc : c < n) : sm_out n ((r * n + c) * 4 + 3) = bif Nat.beq c 0 then 3 * n + (n - 1 - r) + 1 else 0 := by
  unfold sm_out
  rw [sm_t_m (by omega), sm_t_4 (by omega), sm_rd hc, sm_rmd hc]
  rfl
theorem sm_acr0 : sm_acr n (((r + 1) * n + c) * 4 + 0) = (r * n + c) * 4 + 2 := by
  unfold sm_acr
  rw [sm_t_m (by omega), sm_t_4 (by omega), Nat.add_mul, Nat.one_mul]
  show (r * n + n + c - n) * 4 + 2 = _
  rw [show r * n + n + c - n = r * n + c by omega]
theorem sm_acr1 : sm_acr n ((r * n + c) * 4 + 1) = (r * n + (c + 1)) * 4 + 3 := by
  unfold sm_acr
  rw [sm_t_m (by omega), sm_t_4 (by omega)]
  rfl
theorem sm_acr2 : sm_acr n ((r * n + c) * 4 + 2) = ((r + 1) * n + c) * 4 + 0 := by
  have h : (r + 1) * n = r * n + n := by rw [Nat.add_mul, Nat.one_mul]
  unfold sm_acr
  rw [sm_t_m (by omega), sm_t_4 (by omega), h]
  show (r * n + c + n) * 4 = _
  omega
theorem sm_acr3 : sm_acr n ((r * n + (c + 1)) * 4 + 3) = (r * n + c) * 4 + 1 := by
  unfold sm_acr
  rw [sm_t_m (by omega), sm_t_4 (by omega)]
  rfl
end
/-- the next port lies within, if the way out is no outer edge -/
theorem sm_acr_lt {n t : Nat} (h : t < 4 * (n * n)) (ho : sm_out n t = 0) : sm_acr n t < 4 * (n * n) := by
  obtain ⟨r, c, s, hr, hc, hs, rfl⟩ := sm_t_of h
  revert ho h
  refine sm_s4 (P := fun s => (r * n + c) * 4 + s < 4 * (n * n) → sm_out n ((r * n + c) * 4 + s) = 0 → sm_acr n ((r * n + c) * 4 + s) < 4 * (n * n)) hs ?_ ?_ ?_ ?_
  · intro _ ho
    rw [sm_out0 hc] at ho
    cases r with
    | zero => cases ho
    | succ r =>
      rw [sm_acr0]
      exact sm_t_lt (by omega) hc (by omega)
  · intro _ ho
    rw [sm_out1 hc] at ho
    by_cases e : c + 1 = n
    · rw [(Nat.beq_eq ▸ e : Nat.beq (c + 1) n = true)] at ho
      cases ho
    · rw [sm_acr1]
      exact sm_t_lt hr (by omega) (by omega)
  · intro _ ho
    rw [sm_out2 hc] at ho
    by_cases e : r + 1 = n
    · rw [(Nat.beq_eq ▸ e : Nat.beq (r + 1) n = true)] at ho
      cases ho
    · rw [sm_acr2]
      exact sm_t_lt (by omega) hc (by omega)
  · intro _ ho
    rw [sm_out3 hc] at ho
    cases c with
    | zero => cases ho
    | succ c =>
      rw [sm_acr3]
      exact sm_t_lt hr (by omega) (by omega)
theorem sm_out_le {n t : Nat} (h : t < 4 * (n * n)) : sm_out n t ≤ 4 * n := by
  obtain ⟨r, c, s, hr, hc, hs, rfl⟩ := sm_t_of h
  clear h
  refine sm_s4 (P := fun s => sm_out n ((r * n + c) * 4 + s) ≤ 4 * n) hs ?_ ?_ ?_ ?_
  · rw [sm_out0 hc]
    cases Nat.beq r 0
    · exact Nat.zero_le _
    · show c + 1 ≤ 4 * n
      omega
  · rw [sm_out1 hc]
    cases Nat.beq (c + 1) n
    · exact Nat.zero_le _
    · show n + r + 1 ≤ 4 * n
      omega
  · rw [sm_out2 hc]
    cases Nat.beq (r + 1) n
    · exact Nat.zero_le _
    · show 2 * n + (n - 1 - c) + 1 ≤ 4 * n
      omega
  · rw [sm_out3 hc]
    cases Nat.beq c 0
    · exact Nat.zero_le _
    · show 3 * n + (n - 1 - r) + 1 ≤ 4 * n
      omega
theorem sm_way_s (on : Nat → Bool) (f t : Nat) : ∀ k, k ≤ 4 → sm_way on f t k = t ∨ ∃ s, s < 4 ∧ sm_way on f t k = f + s
  | 0, _ => Or.inl rfl
  | k + 1, hk => by
    rw [sm_way]
    cases (!(Nat.beq (f + (3 - k)) t) && on (f + (3 - k))) with
    | false => exact sm_way_s on f t k (by omega)
    | true => exact Or.inr ⟨3 - k, by omega, rfl⟩
theorem sm_wy_s (on : Nat → Bool) {P s : Nat} (hs : s < 4) : ∃ s', s' < 4 ∧ sm_wy on (P * 4 + s) = P * 4 + s' := by
  unfold sm_wy
  rw [sm_t_m hs, Nat.add_sub_cancel]
  rcases sm_way_s on (P * 4) (P * 4 + s) 4 (Nat.le_refl _) with h | ⟨s', hs', h⟩
  · exact ⟨s, hs, h⟩
  · exact ⟨s', hs', h⟩
theorem sm_wy_lt (on : Nat → Bool) {n t : Nat} (h : t < 4 * (n * n)) : sm_wy on t < 4 * (n * n) := by
  obtain ⟨r, c, s, hr, hc, hs, rfl⟩ := sm_t_of h
  obtain ⟨s', hs', e⟩ := sm_wy_s on (P := r * n + c) hs
  rw [e]
  exact sm_t_lt hr hc hs'
/-- the outer edge's place, as X and Y reckon it -/
def sm_opr (n e : Nat) : Nat :=
  match e / n with
  | 0 => 0
  | 1 => e % n
  | 2 => n - 1
  | _ => n - 1 - e % n
def sm_opc (n e : Nat) : Nat :=
  match e / n with
  | 0 => e % n
  | 1 => n - 1
  | 2 => n - 1 - e % n
  | _ => 0
theorem sm_opF : ∀ n, n < 6 → ∀ e, e < 4 * n → sm_op n e = (sm_opr n e * n + sm_opc n e) * 4 + e / n ∧ sm_opr n e < n ∧ sm_opc n e < n ∧ e / n < 4 := by decide +kernel
theorem sm_op_lt {n e : Nat} (hn : n ≤ 5) (he : e < 4 * n) : sm_op n e < 4 * (n * n) := by
  obtain ⟨a, b, c, d⟩ := sm_opF n (by omega) e he
  rw [a]
  exact sm_t_lt b c d
