/-! pasted pure rows, then sums of entries -/
theorem pk_us {f : Nat → Int32} {k : Nat} {x : Int32} : upd f k x k = x := if_pos rfl
theorem pk_un {f : Nat → Int32} {k j : Nat} {x : Int32} (h : j ≠ k) : upd f k x j = f j := if_neg h
theorem pk_sub {a b : Nat} (h : b ≤ a) : nI a - nI b = nI (a - b) := by
  obtain ⟨c, rfl⟩ : ∃ c, a = c + b := ⟨a - b, by omega⟩
  rw [← nI_add, Int32.add_sub_cancel, Nat.add_sub_cancel]
theorem pk_m1 (n : Nat) : nI (n + 1) + (-1) = nI n := by
  rw [← nI_1, Int32.add_assoc, show (1 : Int32) + (-1) = 0 from rfl, Int32.add_zero]
theorem pk_mul (a b : Nat) : nI a * nI b = nI (a * b) := (Int32.ofNat_mul a b).symm
theorem pk_div {a d : Nat} (ha : a < 2 ^ 31) (h0 : 0 < d) (hd : d < 2 ^ 31) : nI a / nI d = nI (a / d) := by
  apply Int32.toInt_inj.mp
  rw [lg_idiv_nonneg (by rw [nI_toInt ha]; omega) (by rw [nI_toInt hd]; omega), nI_toInt ha, nI_toInt hd, nI_toInt (Nat.lt_of_le_of_lt (Nat.div_le_self a d) ha)]
  first | rfl | exact (Int.natCast_ediv _ _).symm
theorem pk_rem {a d : Nat} (ha : a < 2 ^ 31) (h0 : 0 < d) (hd : d < 2 ^ 31) : nI a - nI a / nI d * nI d = nI (a % d) := by
  rw [pk_div ha h0 hd, pk_mul, pk_sub (Nat.div_mul_le_self a d)]
  exact congrArg nI (by have := Nat.div_add_mod' a d; omega)
theorem pk_sub_toInt {a b : Nat} (ha : a < 2 ^ 30) (hb : b < 2 ^ 30) : (nI a - nI b).toInt = (a : Int) - b := by
  rw [Int32.toInt_sub, nI_toInt (by omega), nI_toInt (by omega)]
  exact Int.bmod_eq_of_le (by omega) (by omega)
theorem pk_sneg {a b : Nat} (hb : b < 2 ^ 30) (h : a < b) : nI a - nI b < 0 := by
  rw [Int32.lt_iff_toInt_lt, pk_sub_toInt (by omega) hb, show (0 : Int32).toInt = 0 from by decide]
  omega
theorem pk_ix (x : Int32) {n : Nat} (hn : n < 2 ^ 31) : x < 0 ∨ nI n ≤ x ∨ ∃ j : Nat, j < n ∧ x = nI j := by
  by_cases h : x < 0
  · exact Or.inl h
  · obtain ⟨j, hj, rfl⟩ := nI_of h
    by_cases h2 : j < n
    · exact Or.inr (Or.inr ⟨j, h2, rfl⟩)
    · exact Or.inr (Or.inl (nI_le (by omega) hj))
theorem pk_le {x y : Int32} {A B : Prop} (a b : Nat) (f : a ≤ b → A) (g : b < a → B) (hx : x = nI a := by rfl) (hy : y = nI b := by rfl) (ha : a < 2 ^ 31 := by omega) (hb : b < 2 ^ 31 := by omega) : (x ≤ y → A) ∧ (¬ x ≤ y → B) := by
  subst hx hy
  rw [nI_leI ha hb]
  exact ⟨f, fun z => g (by omega)⟩
theorem pk_lt {x y : Int32} {A B : Prop} (a b : Nat) (f : a < b → A) (g : b ≤ a → B) (hx : x = nI a := by rfl) (hy : y = nI b := by rfl) (ha : a < 2 ^ 31 := by omega) (hb : b < 2 ^ 31 := by omega) : (x < y → A) ∧ (¬ x < y → B) := by
  subst hx hy
  rw [nI_ltI ha hb]
  exact ⟨f, fun z => g (by omega)⟩
theorem pk_eq {x y : Int32} {A B : Prop} (a b : Nat) (f : a = b → A) (g : a ≠ b → B) (hx : x = nI a := by rfl) (hy : y = nI b := by rfl) (ha : a < 2 ^ 31 := by omega) (hb : b < 2 ^ 31 := by omega) : (x = y → A) ∧ (¬ x = y → B) := by
  subst hx hy
  rw [nI_eq ha hb]
  exact ⟨f, g⟩
theorem pk_in {x : Int32} (n N : Nat) (h : n < N) (hx : x = nI n := by rfl) (hN : N < 2 ^ 31 := by omega) : vp_in x N := by
  subst hx
  exact vp_in_nI h hN
theorem pk_cl {x : Int32} (n : Nat) (hx : x = nI n := by rfl) (h : n < 2 ^ 31 := by omega) : x.toNatClampNeg = n := by
  subst hx
  exact nI_clamp h
theorem pk_tn {n : Nat} (h : n < 2 ^ 32) : (nI n).toBitVec.toNat = n := Nat.mod_eq_of_lt h
theorem pk_and (x : Int32) {m : Int32} (k : Nat) (hm : m.toBitVec.toNat = 2 ^ k - 1) : x &&& m = nI (x.toBitVec.toNat % 2 ^ k) := by
  apply Int32.toBitVec_inj.mp
  apply BitVec.eq_of_toNat_eq
  rw [Int32.toBitVec_and, BitVec.toNat_and, hm, Nat.and_two_pow_sub_one_eq_mod]
  show _ = (BitVec.ofNat 32 _).toNat
  rw [BitVec.toNat_ofNat]
  exact (Nat.mod_eq_of_lt (Nat.lt_of_le_of_lt (Nat.mod_le _ _) x.toBitVec.isLt)).symm
theorem pk_andN {n : Nat} (h : n < 2 ^ 32) {m : Int32} (k : Nat) (hm : m.toBitVec.toNat = 2 ^ k - 1) : nI n &&& m = nI (n % 2 ^ k) := by
  rw [pk_and _ k hm, pk_tn h]
theorem pk_shr (a s : Int32) (k : Nat) (hs : (s.toBitVec.smod 32).toNat = k) : (a >>> s).toInt = a.toInt >>> k := by
  show (a.toBitVec.sshiftRight (s.toBitVec.smod 32).toNat).toInt = _
  rw [hs, BitVec.toInt_sshiftRight]
  rfl
theorem pk_shrN {n : Nat} (h : n < 2 ^ 31) (s : Int32) (k : Nat) (hs : (s.toBitVec.smod 32).toNat = k) : nI n >>> s = nI (n / 2 ^ k) := by
  apply Int32.toInt_inj.mp
  have h2 : n / 2 ^ k ≤ n := Nat.div_le_self _ _
  rw [pk_shr _ _ k hs, nI_toInt h, nI_toInt (by omega), Int.shiftRight_eq_div_pow]
  rfl
theorem pk_loop {σ : Type} (W : Nat → Nat → σ → Prop) (I : Nat → σ → Prop) (e i0 : Nat) (s : σ) (hi : i0 ≤ e) (h0 : I i0 s) (hx : ∀ n s, I e s → W (n + 1) e s)
    (hs : ∀ n i s, i < e → I i s → (∀ s', I (i + 1) s' → W n (i + 1) s') → W (n + 1) i s) : ∃ n, W n i0 s :=
  ⟨e + 1, loop_i W I e hx hs (e + 1) i0 s hi (by omega) h0⟩
theorem pk_loopD {σ : Type} (W : Nat → Nat → σ → Prop) (I : Nat → σ → Prop) (hx : ∀ n s, I 0 s → W (n + 1) 0 s)
    (hs : ∀ n i s, I (i + 1) s → (∀ s', I i s' → W n i s') → W (n + 1) (i + 1) s) : ∀ (e : Nat) (s : σ), I e s → W (e + 1) e s := by
  intro e
  induction e with
  | zero => exact fun s h => hx 0 s h
  | succ e ih => exact fun s h => hs (e + 1) e s h (fun s' h' => ih s' h')
theorem sb_cl0 : (0 : Int32).toNatClampNeg = 0 := by decide
/-! sums from the left, over Int32 and over Nat -/
def sm_sum (g : Nat → Int32) : Nat → Int32
  | 0 => 0
  | m + 1 => sm_sum g m + g m
def sm_ns (g : Nat → Nat) : Nat → Nat
  | 0 => 0
  | m + 1 => sm_ns g m + g m
theorem sm_sum_congr {g h : Nat → Int32} : ∀ {m : Nat}, (∀ i, i < m → g i = h i) → sm_sum g m = sm_sum h m
  | 0, _ => rfl
  | m + 1, H => by
    show sm_sum g m + g m = sm_sum h m + h m
    rw [sm_sum_congr (fun i hi => H i (by omega)), H m (by omega)]
theorem sm_ns_congr {g h : Nat → Nat} : ∀ {m : Nat}, (∀ i, i < m → g i = h i) → sm_ns g m = sm_ns h m
  | 0, _ => rfl
  | m + 1, H => by
    show sm_ns g m + g m = sm_ns h m + h m
    rw [sm_ns_congr (fun i hi => H i (by omega)), H m (by omega)]
theorem sm_ns_le {g : Nat → Nat} {b : Nat} : ∀ {m : Nat}, (∀ i, i < m → g i ≤ b) → sm_ns g m ≤ b * m
  | 0, _ => Nat.zero_le _
  | m + 1, H => by
    have h1 := sm_ns_le (g := g) (b := b) (m := m) (fun i hi => H i (by omega))
    have h2 := H m (by omega)
    show sm_ns g m + g m ≤ b * (m + 1)
    rw [Nat.mul_add]
    omega
/-- the entry that a digit stands for -/
def sm_e (d : Nat) : Int32 := nI d - 1
theorem sm_e_def (d : Nat) : sm_e d = nI d - 1 := rfl
theorem sm_sum_e (g : Nat → Nat) : ∀ m : Nat, sm_sum (fun i => sm_e (g i)) m = nI (sm_ns g m) - nI m
  | 0 => (Int32.sub_self _).symm
  | m + 1 => by
    show sm_sum (fun i => sm_e (g i)) m + (nI (g m) - 1) = nI (sm_ns g m + g m) - nI (m + 1)
    rw [sm_sum_e g m, ← nI_add, ← nI_1]
    grind
theorem sm_z {a b : Nat} (ha : a < 2 ^ 31) (hb : b < 2 ^ 31) : nI a - nI b = 0 ↔ a = b := by
  rw [Int32.sub_eq_iff_eq_add, Int32.zero_add]
  exact nI_eq ha hb
theorem sm_1 {a b : Nat} (ha : a < 2 ^ 31) (hb : b + 1 < 2 ^ 31) : nI a - nI b = 1 ↔ a = b + 1 := by
  rw [Int32.sub_eq_iff_eq_add, Int32.add_comm, nI_1]
  exact nI_eq ha hb
theorem sm_e_inj {a b : Nat} (ha : a < 2 ^ 31) (hb : b < 2 ^ 31) : sm_e a = sm_e b ↔ a = b := by
  constructor
  · intro h
    have h2 : nI a = nI b := by
      have h3 : nI a - 1 = nI b - 1 := h
      grind
    exact (nI_eq ha hb).mp h2
  · rintro rfl
    rfl
theorem sm_e_m1 {d : Nat} (hd : d < 2 ^ 31) : sm_e d = -1 ↔ d = 0 := by
  rw [show (-1 : Int32) = sm_e 0 from by decide]
  exact sm_e_inj hd (by decide)
/-- the counter of the search at a place with j digits still to try -/
def sm_c (j : Nat) : Int32 := 1 - nI j
theorem sm_c3 : sm_c 3 = -2 := by decide
theorem sm_c0 : sm_c 0 = 1 := by decide
theorem sm_c_up (j : Nat) : sm_c (j + 1) + 1 = sm_c j := by
  show 1 - nI (j + 1) + 1 = 1 - nI j
  rw [← nI_1]
  grind
theorem sm_c_e {j : Nat} (h : j ≤ 2) : sm_c j = sm_e (2 - j) := by
  have : ∀ j, j < 3 → sm_c j = sm_e (2 - j) := by decide +kernel
  exact this j (by omega)
theorem sm_e_c {e : Nat} (h : e ≤ 2) : sm_e e = sm_c (2 - e) := by
  have : ∀ e, e < 3 → sm_e e = sm_c (2 - e) := by decide +kernel
  exact this e (by omega)
theorem sm_c_ne {j : Nat} (h : j ≤ 3) : sm_c j = 1 ↔ j = 0 := by
  have : ∀ j, j < 4 → (sm_c j = 1 ↔ j = 0) := by decide +kernel
  exact this j (by omega)
