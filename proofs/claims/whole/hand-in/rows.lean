section
/-! pasted pure rows, then sums of entries -/
theorem pk_us {f : Nat → Int32} {k : Nat} {x : Int32} : upd f k x k = x := if_pos rfl
theorem pk_un {f : Nat → Int32} {k j : Nat} {x : Int32} (h : j ≠ k) : upd f k x j = f j := if_neg h
theorem pk_sub {a b : Nat} (h : b ≤ a) : nI a - nI b = nI (a - b) := by
  obtain ⟨c, rfl⟩ : ∃ c, a = c + b := ⟨a - b, by omega⟩
  rw [← nI_add, Int32.add_sub_cancel, Nat.add_sub_cancel]
theorem pk_m1 (n : Nat) : nI (n + 1) + (-1) = nI n := by
  rw [← nI_1, Int32.add_assoc, show (1 : Int32) + (-1) = 0 from rfl, Int32.add_zero]
theorem pk_mul (a b : Nat) : nI a * nI b = nI (a * b) := (Int32.ofNat_mul a b).symm
theorem pk_div {a d : Nat} (ha : a < 2 ^ 31) (h0 : 0 < d) (hd : d < 2 ^ 31) : nI a / nI d = nI (a / d) := by
  apply Int32.toInt_inj.mp
  rw [lg_idiv_nonneg (by rw [nI_toInt ha]; omega) (by rw [nI_toInt hd]; omega), nI_toInt ha, nI_toInt hd, nI_toInt (Nat.lt_of_le_of_lt (Nat.div_le_self a d) ha)]
  first | rfl | exact (Int.natCast_ediv _ _).symm
theorem pk_rem {a d : Nat} (ha : a < 2 ^ 31) (h0 : 0 < d) (hd : d < 2 ^ 31) : nI a - nI a / nI d * nI d = nI (a % d) := by
  rw [pk_div ha h0 hd, pk_mul, pk_sub (Nat.div_mul_le_self a d)]
  exact congrArg nI (by have := Nat.div_add_mod' a d; omega)
theorem pk_sub_toInt {a b : Nat} (ha : a < 2 ^ 30) (hb : b < 2 ^ 30) : (nI a - nI b).toInt = (a : Int) - b := by
  rw [Int32.toInt_sub, nI_toInt (by omega), nI_toInt (by omega)]
  exact Int.bmod_eq_of_le (by omega) (by omega)
theorem pk_sneg {a b : Nat} (hb : b < 2 ^ 30) (h : a < b) : nI a - nI b < 0 := by
  rw [Int32.lt_iff_toInt_lt, pk_sub_toInt (by omega) hb, show (0 : Int32).toInt = 0 from by decide]
  omega
theorem pk_ix (x : Int32) {n : Nat} (hn : n < 2 ^ 31) : x < 0 ∨ nI n ≤ x ∨ ∃ j : Nat, j < n ∧ x = nI j := by
  by_cases h : x < 0
  · exact Or.inl h
  · obtain ⟨j, hj, rfl⟩ := nI_of h
    by_cases h2 : j < n
    · exact Or.inr (Or.inr ⟨j, h2, rfl⟩)
    · exact Or.inr (Or.inl (nI_le (by omega) hj))
theorem pk_le {x y : Int32} {A B : Prop} (a b : Nat) (f : a ≤ b → A) (g : b < a → B) (hx : x = nI a := by rfl) (hy : y = nI b := by rfl) (ha : a < 2 ^ 31 := by omega) (hb : b < 2 ^ 31 := by omega) : (x ≤ y → A) ∧ (¬ x ≤ y → B) := by
  subst hx hy
  rw [nI_leI ha hb]
  exact ⟨f, fun z => g (by omega)⟩
theorem pk_lt {x y : Int32} {A B : Prop} (a b : Nat) (f : a < b → A) (g : b ≤ a → B) (hx : x = nI a := by rfl) (hy : y = nI b := by rfl) (ha : a < 2 ^ 31 := by omega) (hb : b < 2 ^ 31 := by omega) : (x < y → A) ∧ (¬ x < y → B) := by
  subst hx hy
  rw [nI_ltI ha hb]
  exact ⟨f, fun z => g (by omega)⟩
theorem pk_eq {x y : Int32} {A B : Prop} (a b : Nat) (f : a = b → A) (g : a ≠ b → B) (hx : x = nI a := by rfl) (hy : y = nI b := by rfl) (ha : a < 2 ^ 31 := by omega) (hb : b < 2 ^ 31 := by omega) : (x = y → A) ∧ (¬ x = y → B) := by
  subst hx hy
  rw [nI_eq ha hb]
  exact ⟨f, g⟩
theorem pk_in {x : Int32} (n N : Nat) (h : n < N) (hx : x = nI n := by rfl) (hN : N < 2 ^ 31 := by omega) : vp_in x N := by
  subst hx
  exact vp_in_nI h hN
theorem pk_cl {x : Int32} (n : Nat) (hx : x = nI n := by rfl) (h : n < 2 ^ 31 := by omega) : x.toNatClampNeg = n := by
  subst hx
  exact nI_clamp h
theorem pk_tn {n : Nat} (h : n < 2 ^ 32) : (nI n).toBitVec.toNat = n := Nat.mod_eq_of_lt h
theorem pk_and (x : Int32) {m : Int32} (k : Nat) (hm : m.toBitVec.toNat = 2 ^ k - 1) : x &&& m = nI (x.toBitVec.toNat % 2 ^ k) := by
  apply Int32.toBitVec_inj.mp
  apply BitVec.eq_of_toNat_eq
  rw [Int32.toBitVec_and, BitVec.toNat_and, hm, Nat.and_two_pow_sub_one_eq_mod]
  show _ = (BitVec.ofNat 32 _).toNat
  rw [BitVec.toNat_ofNat]
  exact (Nat.mod_eq_of_lt (Nat.lt_of_le_of_lt (Nat.mod_le _ _) x.toBitVec.isLt)).symm
theorem pk_andN {n : Nat} (h : n < 2 ^ 32) {m : Int32} (k : Nat) (hm : m.toBitVec.toNat = 2 ^ k - 1) : nI n &&& m = nI (n % 2 ^ k) := by
  rw [pk_and _ k hm, pk_tn h]
theorem pk_shr (a s : Int32) (k : Nat) (hs : (s.toBitVec.smod 32).toNat = k) : (a >>> s).toInt = a.toInt >>> k := by
  show (a.toBitVec.sshiftRight (s.toBitVec.smod 32).toNat).toInt = _
  rw [hs, BitVec.toInt_sshiftRight]
  rfl
theorem pk_shrN {n : Nat} (h : n < 2 ^ 31) (s : Int32) (k : Nat) (hs : (s.toBitVec.smod 32).toNat = k) : nI n >>> s = nI (n / 2 ^ k) := by
  apply Int32.toInt_inj.mp
  have h2 : n / 2 ^ k ≤ n := Nat.div_le_self _ _
  rw [pk_shr _ _ k hs, nI_toInt h, nI_toInt (by omega), Int.shiftRight_eq_div_pow]
  rfl
theorem pk_loop {σ : Type} (W : Nat → Nat → σ → Prop) (I : Nat → σ → Prop) (e i0 : Nat) (s : σ) (hi : i0 ≤ e) (h0 : I i0 s) (hx : ∀ n s, I e s → W (n + 1) e s)
    (hs : ∀ n i s, i < e → I i s → (∀ s', I (i + 1) s' → W n (i + 1) s') → W (n + 1) i s) : ∃ n, W n i0 s :=
  ⟨e + 1, loop_i W I e hx hs (e + 1) i0 s hi (by omega) h0⟩
theorem pk_loopD {σ : Type} (W : Nat → Nat → σ → Prop) (I : Nat → σ → Prop) (hx : ∀ n s, I 0 s → W (n + 1) 0 s)
    (hs : ∀ n i s, I (i + 1) s → (∀ s', I i s' → W n i s') → W (n + 1) (i + 1) s) : ∀ (e : Nat) (s : σ), I e s → W (e + 1) e s := by
  intro e
  induction e with
  | zero => exact fun s h => hx 0 s h
  | succ e ih => exact fun s h => hs (e + 1) e s h (fun s' h' => ih s' h')
theorem sb_cl0 : (0 : Int32).toNatClampNeg = 0 := by decide
/-! sums from the left, over Int32 and over Nat -/
def sm_sum (g : Nat → Int32) : Nat → Int32
  | 0 => 0
  | m + 1 => sm_sum g m + g m
def sm_ns (g : Nat → Nat) : Nat → Nat
  | 0 => 0
  | m + 1 => sm_ns g m + g m
theorem sm_sum_congr {g h : Nat → Int32} : ∀ {m : Nat}, (∀ i, i < m → g i = h i) → sm_sum g m = sm_sum h m
  | 0, _ => rfl
  | m + 1, H => by
    show sm_sum g m + g m = sm_sum h m + h m
    rw [sm_sum_congr (fun i hi => H i (by omega)), H m (by omega)]
theorem sm_ns_congr {g h : Nat → Nat} : ∀ {m : Nat}, (∀ i, i < m → g i = h i) → sm_ns g m = sm_ns h m
  | 0, _ => rfl
  | m + 1, H => by
    show sm_ns g m + g m = sm_ns h m + h m
    rw [sm_ns_congr (fun i hi => H i (by omega)), H m (by omega)]
theorem sm_ns_le {g : Nat → Nat} {b : Nat} : ∀ {m : Nat}, (∀ i, i < m → g i ≤ b) → sm_ns g m ≤ b * m
  | 0, _ => Nat.zero_le _
  | m + 1, H => by
    have h1 := sm_ns_le (g := g) (b := b) (m := m) (fun i hi => H i (by omega))
    have h2 := H m (by omega)
    show sm_ns g m + g m ≤ b * (m + 1)
    rw [Nat.mul_add]
    omega
/-- the entry that a digit stands for -/
def sm_e (d : Nat) : Int32 := nI d - 1
theorem sm_e_def (d : Nat) : sm_e d = nI d - 1 := rfl
theorem sm_sum_e (g : Nat → Nat) : ∀ m : Nat, sm_sum (fun i => sm_e (g i)) m = nI (sm_ns g m) - nI m
  | 0 => (Int32.sub_self _).symm
  | m + 1 => by
    show sm_sum (fun i => sm_e (g i)) m + (nI (g m) - 1) = nI (sm_ns g m + g m) - nI (m + 1)
    rw [sm_sum_e g m, ← nI_add, ← nI_1]
    grind
theorem sm_z {a b : Nat} (ha : a < 2 ^ 31) (hb : b < 2 ^ 31) : nI a - nI b = 0 ↔ a = b := by
  rw [Int32.sub_eq_iff_eq_add, Int32.zero_add]
  exact nI_eq ha hb
theorem sm_1 {a b : Nat} (ha : a < 2 ^ 31) (hb : b + 1 < 2 ^ 31) : nI a - nI b = 1 ↔ a = b + 1 := by
  rw [Int32.sub_eq_iff_eq_add, Int32.add_comm, nI_1]
  exact nI_eq ha hb
theorem sm_e_inj {a b : Nat} (ha : a < 2 ^ 31) (hb : b < 2 ^ 31) : sm_e a = sm_e b ↔ a = b := by
  constructor
  · intro h
    have h2 : nI a = nI b := by
      have h3 : nI a - 1 = nI b - 1 := h
      grind
    exact (nI_eq ha hb).mp h2
  · rintro rfl
    rfl
theorem sm_e_m1 {d : Nat} (hd : d < 2 ^ 31) : sm_e d = -1 ↔ d = 0 := by
  rw [show (-1 : Int32) = sm_e 0 from by decide]
  exact sm_e_inj hd (by decide)
/-- the counter of the search at a place with j digits still to try -/
def sm_c (j : Nat) : Int32 := 1 - nI j
theorem sm_c3 : sm_c 3 = -2 := by decide
theorem sm_c0 : sm_c 0 = 1 := by decide
theorem sm_c_up (j : Nat) : sm_c (j + 1) + 1 = sm_c j := by
  show 1 - nI (j + 1) + 1 = 1 - nI j
  rw [← nI_1]
  grind
theorem sm_c_e {j : Nat} (h : j ≤ 2) : sm_c j = sm_e (2 - j) := by
  have : ∀ j, j < 3 → sm_c j = sm_e (2 - j) := by decide +kernel
  exact this j (by omega)
theorem sm_e_c {e : Nat} (h : e ≤ 2) : sm_e e = sm_c (2 - e) := by
  have : ∀ e, e < 3 → sm_e e = sm_c (2 - e) := by decide +kernel
  exact this e (by omega)
theorem sm_c_ne {j : Nat} (h : j ≤ 3) : sm_c j = 1 ↔ j = 0 := by
  have : ∀ j, j < 4 → (sm_c j = 1 ↔ j = 0) := by decide +kernel
  exact this j (by omega)
end
section
/-! words of digits, the head being the last place; the search tree over them -/
def sm_get : List Nat → Nat → Nat
  | [], _ => 0
  | e :: _, 0 => e
  | _ :: w, i + 1 => sm_get w i
/-- the digit at place q of a word -/
def sm_dg (w : List Nat) (q : Nat) : Nat := sm_get w (w.length - 1 - q)
theorem sm_dg_top (e : Nat) (w : List Nat) : sm_dg (e :: w) w.length = e := by
  unfold sm_dg
  rw [List.length_cons, show w.length + 1 - 1 - w.length = 0 by omega]
  rfl
theorem sm_dg_low (e : Nat) (w : List Nat) {q : Nat} (h : q < w.length) : sm_dg (e :: w) q = sm_dg w q := by
  unfold sm_dg
  rw [List.length_cons, show w.length + 1 - 1 - q = (w.length - 1 - q) + 1 by omega]
  rfl
/-- all digits are 0, 1, 2 -/
def sm_wd (w : List Nat) : Prop := ∀ e, e ∈ w → e ≤ 2
theorem sm_wd_nil : sm_wd [] := fun _ h => nomatch h
theorem sm_wd_cons {e : Nat} {w : List Nat} (he : e ≤ 2) (h : sm_wd w) : sm_wd (e :: w) := by
  intro x hx
  rcases List.mem_cons.mp hx with rfl | hx
  · exact he
  · exact h x hx
theorem sm_wd_tail {e : Nat} {w : List Nat} (h : sm_wd (e :: w)) : sm_wd w := fun x hx => h x (List.mem_cons_of_mem _ hx)
theorem sm_wd_head {e : Nat} {w : List Nat} (h : sm_wd (e :: w)) : e ≤ 2 := h e List.mem_cons_self
theorem sm_get_le : ∀ {w : List Nat} {i : Nat}, sm_wd w → sm_get w i ≤ 2
  | [], _, _ => Nat.zero_le _
  | _ :: _, 0, h => sm_wd_head h
  | _ :: w, i + 1, h => sm_get_le (w := w) (i := i) (sm_wd_tail h)
theorem sm_dg_le {w : List Nat} {q : Nat} (h : sm_wd w) : sm_dg w q ≤ 2 := sm_get_le h
def sm_kids (ok : Nat → List Nat → Bool) (g : List Nat → List (List Nat)) (p : Nat) (w : List Nat) : Nat → List (List Nat)
  | 0 => []
  | j + 1 => (bif ok p ((2 - j) :: w) then g ((2 - j) :: w) else []) ++ sm_kids ok g p w j
def sm_gen (ok : Nat → List Nat → Bool) : Nat → Nat → List Nat → List (List Nat)
  | 0, _, w => [w]
  | k + 1, p, w => sm_kids ok (fun v => sm_gen ok k (p + 1) v) p w 3
def sm_rest (ok : Nat → List Nat → Bool) : Nat → List Nat → List (List Nat)
  | _, [] => []
  | k, e :: w => sm_kids ok (fun v => sm_gen ok k (w.length + 1) v) w.length w (2 - e) ++ sm_rest ok (k + 1) w
def sm_kst (ok : Nat → List Nat → Bool) (g : List Nat → Nat) (p : Nat) (w : List Nat) : Nat → Nat
  | 0 => 1
  | j + 1 => 1 + (bif ok p ((2 - j) :: w) then g ((2 - j) :: w) else 0) + sm_kst ok g p w j
def sm_st (ok : Nat → List Nat → Bool) : Nat → Nat → List Nat → Nat
  | 0, _, _ => 1
  | k + 1, p, w => sm_kst ok (fun v => sm_st ok k (p + 1) v) p w 3
def sm_rst (ok : Nat → List Nat → Bool) : Nat → List Nat → Nat
  | _, [] => 0
  | k, e :: w => sm_kst ok (fun v => sm_st ok k (w.length + 1) v) w.length w (2 - e) + sm_rst ok (k + 1) w
/-- what is still to come at a word with j digits to try -/
def sm_rem (ok : Nat → List Nat → Bool) (k : Nat) (w : List Nat) (j : Nat) : List (List Nat) :=
  sm_kids ok (fun v => sm_gen ok k (w.length + 1) v) w.length w j ++ sm_rest ok (k + 1) w
/-- the steps still to come there -/
def sm_rs (ok : Nat → List Nat → Bool) (k : Nat) (w : List Nat) (j : Nat) : Nat :=
  sm_kst ok (fun v => sm_st ok k (w.length + 1) v) w.length w j + sm_rst ok (k + 1) w
theorem sm_rem_no {ok : Nat → List Nat → Bool} {k : Nat} {w : List Nat} {j : Nat} (h : ok w.length ((2 - j) :: w) = false) : sm_rem ok k w (j + 1) = sm_rem ok k w j := by
  unfold sm_rem
  rw [sm_kids, h]
  rfl
theorem sm_rs_no {ok : Nat → List Nat → Bool} {k : Nat} {w : List Nat} {j : Nat} (h : ok w.length ((2 - j) :: w) = false) : sm_rs ok k w (j + 1) = sm_rs ok k w j + 1 := by
  unfold sm_rs
  rw [sm_kst, h]
  show 1 + 0 + _ + _ = _
  omega
theorem sm_rem_in {ok : Nat → List Nat → Bool} {k : Nat} {w : List Nat} {j : Nat} (hj : j ≤ 2) (h : ok w.length ((2 - j) :: w) = true) : sm_rem ok (k + 1) w (j + 1) = sm_rem ok k ((2 - j) :: w) 3 := by
  unfold sm_rem
  rw [sm_kids, h, sm_rest, show 2 - (2 - j) = j by omega, List.append_assoc]
  rfl
theorem sm_rs_in {ok : Nat → List Nat → Bool} {k : Nat} {w : List Nat} {j : Nat} (hj : j ≤ 2) (h : ok w.length ((2 - j) :: w) = true) : sm_rs ok (k + 1) w (j + 1) = sm_rs ok k ((2 - j) :: w) 3 + 1 := by
  unfold sm_rs
  rw [sm_kst, h, sm_rst, show 2 - (2 - j) = j by omega]
  show 1 + sm_st ok (k + 1) (w.length + 1) ((2 - j) :: w) + _ + _ = _
  rw [sm_st]
  show 1 + sm_kst ok (fun v => sm_st ok k (w.length + 1 + 1) v) (w.length + 1) ((2 - j) :: w) 3 + _ + _ = sm_kst ok (fun v => sm_st ok k (w.length + 1 + 1) v) (w.length + 1) ((2 - j) :: w) 3 + _ + 1
  omega
theorem sm_rem_leaf {ok : Nat → List Nat → Bool} {w : List Nat} {j : Nat} (hj : j ≤ 2) (h : ok w.length ((2 - j) :: w) = true) : sm_rem ok 0 w (j + 1) = ((2 - j) :: w) :: sm_rest ok 0 ((2 - j) :: w) := by
  unfold sm_rem
  rw [sm_kids, h, sm_rest, show 2 - (2 - j) = j by omega, List.append_assoc]
  rfl
theorem sm_rs_leaf {ok : Nat → List Nat → Bool} {w : List Nat} {j : Nat} (hj : j ≤ 2) (h : ok w.length ((2 - j) :: w) = true) : sm_rs ok 0 w (j + 1) = sm_rst ok 0 ((2 - j) :: w) + 2 := by
  unfold sm_rs
  rw [sm_kst, h, sm_rst, show 2 - (2 - j) = j by omega]
  show 1 + 1 + _ + _ = _
  omega
theorem sm_rem_pop {ok : Nat → List Nat → Bool} {k : Nat} {w : List Nat} {e : Nat} : sm_rem ok k (e :: w) 0 = sm_rem ok (k + 1) w (2 - e) := by
  unfold sm_rem
  rw [sm_kids, sm_rest]
  rfl
theorem sm_rs_pop {ok : Nat → List Nat → Bool} {k : Nat} {w : List Nat} {e : Nat} : sm_rs ok k (e :: w) 0 = sm_rs ok (k + 1) w (2 - e) + 1 := by
  unfold sm_rs
  rw [sm_kst, sm_rst]
  omega
theorem sm_rest_rem {ok : Nat → List Nat → Bool} {k : Nat} {w : List Nat} {e : Nat} : sm_rest ok k (e :: w) = sm_rem ok k w (2 - e) := by
  unfold sm_rem
  rw [sm_rest]
theorem sm_rst_rs {ok : Nat → List Nat → Bool} {k : Nat} {w : List Nat} {e : Nat} : sm_rst ok k (e :: w) = sm_rs ok k w (2 - e) := by
  unfold sm_rs
  rw [sm_rst]
theorem sm_rem_all {ok : Nat → List Nat → Bool} {k : Nat} : sm_rem ok k [] 3 = sm_gen ok (k + 1) 0 [] := by
  unfold sm_rem
  rw [sm_rest, sm_gen, List.append_nil]
  rfl
theorem sm_rs_all {ok : Nat → List Nat → Bool} {k : Nat} : sm_rs ok k [] 3 = sm_st ok (k + 1) 0 [] := by
  unfold sm_rs
  rw [sm_rst, sm_st]
  rfl
/-- the search up to its next full word -/
theorem sm_adv (ok : Nat → List Nat → Bool) (all : Nat) (E : List Nat → Nat → Prop) (Lf : List Nat → Prop) (En : Prop)
    (h1 : ∀ w j, w.length + 1 < all → j ≤ 2 → sm_wd w → ok w.length ((2 - j) :: w) = true → E ((2 - j) :: w) 3 → E w (j + 1))
    (h2 : ∀ w j, w.length + 1 = all → j ≤ 2 → sm_wd w → ok w.length ((2 - j) :: w) = true → Lf ((2 - j) :: w) → E w (j + 1))
    (h3 : ∀ w j, w.length < all → j ≤ 2 → sm_wd w → ok w.length ((2 - j) :: w) = false → E w j → E w (j + 1))
    (h4 : ∀ e w, w.length + 1 < all → sm_wd (e :: w) → E w (2 - e) → E (e :: w) 0)
    (h5 : En → E [] 0) :
    ∀ (N k : Nat) (w : List Nat) (j : Nat), w.length + k + 1 = all → j ≤ 3 → sm_wd w → sm_rs ok k w j ≤ N →
      (∀ v L, sm_rem ok k w j = v :: L → sm_wd v → v.length = all → sm_rest ok 0 v = L → Lf v) →
      (sm_rem ok k w j = [] → En) → E w j := by
  intro N
  induction N with
  | zero =>
    intro k w j _ _ _ hN
    exfalso
    have : 1 ≤ sm_rs ok k w j := by
      unfold sm_rs
      cases j <;> rw [sm_kst] <;> omega
    omega
  | succ N ih =>
    intro k w j hk hj hw hN hL hE
    cases j with
    | zero =>
      cases w with
      | nil =>
        refine h5 (hE ?_)
        unfold sm_rem
        rw [sm_kids, sm_rest]
        rfl
      | cons e w =>
        rw [List.length_cons] at hk
        refine h4 e w (by omega) hw (ih (k + 1) w (2 - e) (by omega) (by omega) (sm_wd_tail hw) ?_ ?_ ?_)
        · rw [sm_rs_pop] at hN
          omega
        · intro v L hv
          exact hL v L (sm_rem_pop.trans hv)
        · intro hv
          exact hE (sm_rem_pop.trans hv)
    | succ j =>
      have hj2 : j ≤ 2 := by omega
      cases hok : ok w.length ((2 - j) :: w) with
      | false =>
        refine h3 w j (by omega) hj2 hw hok (ih k w j hk (by omega) hw ?_ ?_ ?_)
        · rw [sm_rs_no hok] at hN
          omega
        · intro v L hv
          exact hL v L ((sm_rem_no hok).trans hv)
        · intro hv
          exact hE ((sm_rem_no hok).trans hv)
      | true =>
        have hw2 : sm_wd ((2 - j) :: w) := sm_wd_cons (by omega) hw
        cases k with
        | zero =>
          refine h2 w j (by omega) hj2 hw hok (hL _ _ (sm_rem_leaf hj2 hok) hw2 ?_ rfl)
          rw [List.length_cons]
          omega
        | succ k =>
          refine h1 w j (by omega) hj2 hw hok (ih k ((2 - j) :: w) 3 ?_ (by omega) hw2 ?_ ?_ ?_)
          · rw [List.length_cons]
            omega
          · rw [sm_rs_in hj2 hok] at hN
            omega
          · intro v L hv
            exact hL v L ((sm_rem_in hj2 hok).trans hv)
          · intro hv
            exact hE ((sm_rem_in hj2 hok).trans hv)
/-- the search to its end, with its steps counted and its full words kept -/
theorem sm_full (ok : Nat → List Nat → Bool) (all T : Nat) (G : List (List Nat)) (E : List Nat → Nat → Nat → List (List Nat) → Prop) (Lf : List Nat → Nat → List (List Nat) → Prop)
    (h1 : ∀ w j s A, w.length + 1 < all → j ≤ 2 → sm_wd w → s < T → ok w.length ((2 - j) :: w) = true → E ((2 - j) :: w) 3 (s + 1) A → E w (j + 1) s A)
    (h2 : ∀ w j s A, w.length + 1 = all → j ≤ 2 → sm_wd w → s < T → ok w.length ((2 - j) :: w) = true → Lf ((2 - j) :: w) (s + 1) A → E w (j + 1) s A)
    (h3 : ∀ w j s A, w.length < all → j ≤ 2 → sm_wd w → s < T → ok w.length ((2 - j) :: w) = false → E w j (s + 1) A → E w (j + 1) s A)
    (h4 : ∀ e w s A, w.length + 1 < all → sm_wd (e :: w) → s < T → E w (2 - e) (s + 1) A → E (e :: w) 0 s A)
    (h5 : ∀ s, s < T → E [] 0 s G)
    (h6 : ∀ e w s A L, w.length + 1 = all → sm_wd (e :: w) → s < T → A ++ (e :: w) :: L = G → E w (2 - e) (s + 1) (A ++ [e :: w]) → Lf (e :: w) s A) :
    ∀ (N k : Nat) (w : List Nat) (j s : Nat) (A : List (List Nat)), w.length + k + 1 = all → j ≤ 3 → sm_wd w → sm_rs ok k w j ≤ N →
      s + sm_rs ok k w j ≤ T → A ++ sm_rem ok k w j = G → E w j s A := by
  intro N
  induction N using Nat.strongRecOn with
  | ind N ih =>
    intro k w j s A hk hj hw hN hT hG
    have hpos : 1 ≤ sm_rs ok k w j := by
      unfold sm_rs
      cases j <;> rw [sm_kst] <;> omega
    cases j with
    | zero =>
      cases w with
      | nil =>
        have hA : A = G := by
          rw [← hG]
          unfold sm_rem
          rw [sm_kids, sm_rest]
          exact (List.append_nil A).symm
        rw [hA]
        exact h5 s (by omega)
      | cons e w =>
        rw [List.length_cons] at hk
        rw [sm_rs_pop] at hN hT
        rw [sm_rem_pop] at hG
        exact h4 e w s A (by omega) hw (by omega) (ih _ (by omega) (k + 1) w (2 - e) (s + 1) A (by omega) (by omega) (sm_wd_tail hw) (Nat.le_refl _) (by omega) hG)
    | succ j =>
      have hj2 : j ≤ 2 := by omega
      cases hok : ok w.length ((2 - j) :: w) with
      | false =>
        rw [sm_rs_no hok] at hN hT
        rw [sm_rem_no hok] at hG
        exact h3 w j s A (by omega) hj2 hw (by omega) hok (ih _ (by omega) k w j (s + 1) A hk (by omega) hw (Nat.le_refl _) (by omega) hG)
      | true =>
        have hw2 : sm_wd ((2 - j) :: w) := sm_wd_cons (by omega) hw
        cases k with
        | zero =>
          rw [sm_rs_leaf hj2 hok, sm_rst_rs] at hN hT
          rw [sm_rem_leaf hj2 hok] at hG
          have hG2 : A ++ [(2 - j) :: w] ++ sm_rem ok 0 w (2 - (2 - j)) = G := by
            rw [← hG, sm_rest_rem, List.append_assoc]
            rfl
          exact h2 w j s A (by omega) hj2 hw (by omega) hok (h6 (2 - j) w (s + 1) A _ (by omega) hw2 (by omega) hG
            (ih _ (by omega) 0 w (2 - (2 - j)) (s + 1 + 1) _ hk (by omega) hw (Nat.le_refl _) (by omega) hG2))
        | succ k =>
          rw [sm_rs_in hj2 hok] at hN hT
          rw [sm_rem_in hj2 hok] at hG
          exact h1 w j s A (by omega) hj2 hw (by omega) hok (ih _ (by omega) k ((2 - j) :: w) 3 (s + 1) A (by rw [List.length_cons]; omega) (by omega) hw2 (Nat.le_refl _) (by omega) hG)
/-- what the full words are like -/
theorem sm_kids_mem {ok : Nat → List Nat → Bool} {g : List Nat → List (List Nat)} {p : Nat} {w v : List Nat} : ∀ {j : Nat}, v ∈ sm_kids ok g p w j → ∃ d, d ≤ 2 ∧ ok p (d :: w) = true ∧ v ∈ g (d :: w)
  | 0, h => by
    rw [sm_kids] at h
    cases h
  | j + 1, h => by
    rw [sm_kids, List.mem_append] at h
    rcases h with h | h
    · cases hok : ok p ((2 - j) :: w) with
      | false =>
        rw [hok] at h
        cases h
      | true =>
        rw [hok] at h
        exact ⟨2 - j, by omega, hok, h⟩
    · exact sm_kids_mem h
theorem sm_gen_mem {ok : Nat → List Nat → Bool} : ∀ {k p : Nat} {w v : List Nat}, w.length = p → v ∈ sm_gen ok k p w → v.length = p + k ∧ (∀ q, q < p → sm_dg v q = sm_dg w q) ∧ (sm_wd w → sm_wd v)
  | 0, p, w, v, hp, h => by
    rw [sm_gen, List.mem_singleton] at h
    subst h
    exact ⟨hp, fun _ _ => rfl, id⟩
  | k + 1, p, w, v, hp, h => by
    rw [sm_gen] at h
    obtain ⟨d, hd, _, hv⟩ := sm_kids_mem h
    obtain ⟨a, b, c⟩ := sm_gen_mem (w := d :: w) (by rw [List.length_cons, hp]) hv
    refine ⟨by omega, fun q hq => ?_, fun hw => c (sm_wd_cons hd hw)⟩
    rw [b q (by omega), sm_dg_low d w (by omega)]
theorem sm_gen_top {ok : Nat → List Nat → Bool} {k p d : Nat} {w v : List Nat} (hp : w.length = p) (h : v ∈ sm_gen ok k (p + 1) (d :: w)) : sm_dg v p = d := by
  obtain ⟨_, b, _⟩ := sm_gen_mem (w := d :: w) (by rw [List.length_cons, hp]) h
  rw [b p (by omega), ← hp, sm_dg_top]
/-- a word fits from place p on -/
def sm_fit (al : Nat → Nat → Bool) (all p : Nat) (v : List Nat) : Bool := decide (∀ q, q < all → p ≤ q → al q (sm_dg v q) = true)
theorem sm_fit_iff {al : Nat → Nat → Bool} {all p : Nat} {v : List Nat} : sm_fit al all p v = true ↔ ∀ q, q < all → p ≤ q → al q (sm_dg v q) = true := decide_eq_true_iff
theorem sm_fit_end {al : Nat → Nat → Bool} {p : Nat} {v : List Nat} : sm_fit al p p v = true := sm_fit_iff.mpr fun q h1 h2 => absurd h1 (by omega)
theorem sm_fit_no {al : Nat → Nat → Bool} {all p d : Nat} {v : List Nat} (hp : p < all) (hd : sm_dg v p = d) (h : al p d = false) : sm_fit al all p v = false := by
  cases hf : sm_fit al all p v with
  | false => rfl
  | true =>
    have := sm_fit_iff.mp hf p hp (Nat.le_refl _)
    rw [hd, h] at this
    cases this
theorem sm_fit_yes {al : Nat → Nat → Bool} {all p d : Nat} {v : List Nat} (hd : sm_dg v p = d) (h : al p d = true) : sm_fit al all p v = sm_fit al all (p + 1) v := by
  rw [Bool.eq_iff_iff, sm_fit_iff, sm_fit_iff]
  constructor
  · intro H q h1 h2
    exact H q h1 (by omega)
  · intro H q h1 h2
    by_cases e : q = p
    · subst e
      rw [hd]
      exact h
    · exact H q h1 (by omega)
/-- the search with a test of the digit finds the words that fit, in the same order -/
theorem sm_gen_fit (ok : Nat → List Nat → Bool) (al : Nat → Nat → Bool) (ok2 : Nat → List Nat → Bool) (h2 : ∀ p d w, ok2 p (d :: w) = (ok p (d :: w) && al p d)) (all : Nat) :
    ∀ (k p : Nat) (w : List Nat), w.length = p → p + k = all → sm_gen ok2 k p w = (sm_gen ok k p w).filter (sm_fit al all p)
  | 0, p, w, _, ha => by
    rw [sm_gen, sm_gen]
    have : sm_fit al all p w = true := by
      rw [← ha]
      exact sm_fit_end
    rw [List.filter_cons_of_pos this, List.filter_nil]
  | k + 1, p, w, hp, ha => by
    rw [sm_gen, sm_gen]
    have key : ∀ j, sm_kids ok2 (fun v => sm_gen ok2 k (p + 1) v) p w j = (sm_kids ok (fun v => sm_gen ok k (p + 1) v) p w j).filter (sm_fit al all p) := by
      intro j
      induction j with
      | zero => rfl
      | succ j ihj =>
        rw [sm_kids, sm_kids, List.filter_append, ihj, h2]
        congr 1
        have hg := sm_gen_fit ok al ok2 h2 all k (p + 1) ((2 - j) :: w) (by rw [List.length_cons, hp]) (by omega)
        cases ho : ok p ((2 - j) :: w) with
        | false => rfl
        | true =>
          cases hal : al p (2 - j) with
          | false =>
            show [] = _
            symm
            rw [List.filter_eq_nil_iff]
            intro v hv
            rw [sm_fit_no (by omega) (sm_gen_top hp hv) hal]
            exact Bool.false_ne_true
          | true =>
            show sm_gen ok2 k (p + 1) ((2 - j) :: w) = (sm_gen ok k (p + 1) ((2 - j) :: w)).filter _
            rw [hg]
            apply List.filter_congr
            intro v hv
            exact (sm_fit_yes (sm_gen_top hp hv) hal).symm
    exact key 3
end
section
/-! the test of a place, and what the kernel reckons over all good squares of the five sizes -/
def sm_okl (n c s : Nat) : Bool := Nat.beq s (c + 2) || (Nat.beq s (c + 1) && Nat.ble (c + 2) n)
theorem sm_okl_iff {n c s : Nat} : sm_okl n c s = true ↔ s = c + 2 ∨ (s = c + 1 ∧ c + 2 ≤ n) := by
  unfold sm_okl
  rw [Bool.or_eq_true, Bool.and_eq_true, Nat.beq_eq, Nat.beq_eq, Nat.ble_eq]
def sm_ok (n p : Nat) (v : List Nat) : Bool :=
  sm_okl n (p % n) (sm_ns (fun j => sm_get v (p - (p / n * n + j))) (p % n + 1)) && sm_okl n (p / n) (sm_ns (fun i => sm_get v (p - (p % n + i * n))) (p / n + 1))
theorem sm_ok_dg {n p : Nat} {v : List Nat} (h : v.length = p + 1) : sm_ok n p v = (sm_okl n (p % n) (sm_ns (fun j => sm_dg v (p / n * n + j)) (p % n + 1)) && sm_okl n (p / n) (sm_ns (fun i => sm_dg v (p % n + i * n)) (p / n + 1))) := by
  unfold sm_ok sm_dg
  rw [h]
  rfl
/-! the edges that are on, by X's test and by Y's; a port is 4 * place + side -/
def sm_in (n : Nat) (dg : Nat → Nat) (r c : Nat) : Nat → Bool
  | 0 => Nat.beq (sm_ns (fun i => dg (c + i * n)) r) (r + 1)
  | 1 => Nat.beq (sm_ns (fun j => dg (r * n + j)) (c + 1)) (c + 2)
  | 2 => Nat.beq (sm_ns (fun i => dg (c + i * n)) (r + 1)) (r + 1)
  | _ => Nat.beq (sm_ns (fun j => dg (r * n + j)) c) c
def sm_onX (n : Nat) (dg : Nat → Nat) (t : Nat) : Bool := sm_in n dg (t / 4 / n) (t / 4 % n) (t % 4) == Nat.beq ((t / 4 / n + t / 4 % n) % 2) 0
def sm_lo (n : Nat) (dg : Nat → Nat) (r c : Nat) : Nat → Bool
  | 0 => Nat.beq r 0 || Nat.beq (sm_ns (fun i => dg (c + i * n)) r) r
  | 1 => Nat.beq (sm_ns (fun j => dg (r * n + j)) (c + 1)) (c + 1)
  | 2 => Nat.beq (sm_ns (fun i => dg (c + i * n)) (r + 1)) (r + 2)
  | _ => Nat.ble 1 c && Nat.beq (sm_ns (fun j => dg (r * n + j)) c) (c + 1)
def sm_onY (n : Nat) (dg : Nat → Nat) (r c s : Nat) : Bool := sm_lo n dg r c s == Nat.beq ((r + c) % 2) 1
/-- the first side that is on and isn't port t, of the place with ports from f on; k sides are left -/
def sm_way (on : Nat → Bool) (f t : Nat) : Nat → Nat
  | 0 => t
  | k + 1 => bif !(Nat.beq (f + (3 - k)) t) && on (f + (3 - k)) then f + (3 - k) else sm_way on f t k
/-- 0 at an edge between two places, else the outer edge's number and 1 -/
def sm_out (n t : Nat) : Nat :=
  match t % 4 with
  | 0 => bif Nat.beq (t / 4 / n) 0 then t / 4 % n + 1 else 0
  | 1 => bif Nat.beq (t / 4 % n + 1) n then n + t / 4 / n + 1 else 0
  | 2 => bif Nat.beq (t / 4 / n + 1) n then 2 * n + (n - 1 - t / 4 % n) + 1 else 0
  | _ => bif Nat.beq (t / 4 % n) 0 then 3 * n + (n - 1 - t / 4 / n) + 1 else 0
def sm_acr (n t : Nat) : Nat :=
  match t % 4 with
  | 0 => (t / 4 - n) * 4 + 2
  | 1 => (t / 4 + 1) * 4 + 3
  | 2 => (t / 4 + n) * 4
  | _ => (t / 4 - 1) * 4 + 1
def sm_op (n e : Nat) : Nat :=
  match e / n with
  | 0 => e % n * 4
  | 1 => (e % n * n + (n - 1)) * 4 + 1
  | 2 => ((n - 1) * n + (n - 1 - e % n)) * 4 + 2
  | _ => (n - 1 - e % n) * n * 4 + 3
def sm_wy (on : Nat → Bool) (t : Nat) : Nat := sm_way on (t - t % 4) t 4
def sm_fc {α : Type} (m : Nat) (f : Nat → α) : α :=
  match m with
  | 0 => f 0
  | m + 1 => f (m + 1)
theorem sm_fc_eq {α : Type} (m : Nat) (f : Nat → α) : sm_fc m f = f m := by
  cases m <;> rfl
def sm_end (on : Nat → Bool) (n : Nat) : Nat → Nat → Nat
  | 0, _ => 0
  | f + 1, t => sm_fc (sm_wy on t) (fun o =>
    match sm_out n o with
    | 0 => sm_end on n f (sm_acr n o)
    | e + 1 => e + 1)
/-- Y's walk from port t with the mask m of places passed: the end, and the mask behind it -/
def sm_fol (on : Nat → Bool) (n start : Nat) : Nat → Nat → Nat → Nat × Nat
  | 0, _, m => (0, m)
  | f + 1, t, m => sm_fc (sm_wy on t) (fun o =>
    match sm_out n o with
    | 0 => bif Nat.beq (sm_acr n o / 4) start then (0, m ||| 2 ^ (t / 4)) else sm_fol on n start f (sm_acr n o) (m ||| 2 ^ (t / 4))
    | e + 1 => (e + 1, m ||| 2 ^ (t / 4)))
/-- the mask of the places passed from the k outer edges from e on -/
def sm_rm (on : Nat → Bool) (n : Nat) : Nat → Nat → Nat → Nat
  | 0, _, m => m
  | k + 1, e, m => bif on (sm_op n e) then sm_rm on n k (e + 1) (sm_fol on n (sm_op n e / 4) 30 (sm_op n e) m).2 else sm_rm on n k (e + 1) m
/-- Y's count of rings: k places from d on are to be seen -/
def sm_ry (on : Nat → Bool) (n : Nat) : Nat → Nat → Nat → Nat → Nat
  | 0, _, c, _ => c
  | k + 1, d, c, m => sm_fc m (fun m => bif Nat.testBit m d then sm_ry on n k (d + 1) c m else sm_ry on n k (d + 1) (c + 1) (sm_fol on n d 30 (sm_way on (4 * d) (4 * d + 4) 4) m).2)
def sm_fr (on : Nat → Bool) (n d : Nat) : Nat → Nat → Bool
  | 0, _ => false
  | f + 1, t => sm_fc (sm_wy on t) (fun o =>
    match sm_out n o with
    | 0 => bif Nat.ble (sm_acr n o / 4 + 1) d then false else bif Nat.beq (sm_acr n o / 4) d then true else sm_fr on n d f (sm_acr n o)
    | _ + 1 => false)
def sm_f0 (on : Nat → Bool) (d : Nat) : Nat := bif on (d * 4) then d * 4 else sm_wy on (d * 4)
def sm_rx (on : Nat → Bool) (n : Nat) : Nat → Nat
  | 0 => 0
  | d + 1 => bif sm_fr on n d (n * n) (sm_f0 on d) then sm_rx on n d + 1 else sm_rx on n d
def sm_all (P : Nat → Bool) : Nat → Bool
  | 0 => true
  | k + 1 => P k && sm_all P k
theorem sm_all_lt {P : Nat → Bool} : ∀ {k : Nat}, sm_all P k = true → ∀ i, i < k → P i = true
  | 0, _, i, hi => absurd hi (by omega)
  | k + 1, h, i, hi => by
    rw [sm_all, Bool.and_eq_true] at h
    by_cases e : i = k
    · subst e
      exact h.1
    · exact sm_all_lt h.2 i (by omega)
def sm_mk (f : Nat → Bool) : Nat → Nat
  | 0 => 0
  | t + 1 => sm_mk f t + (bif f t then 2 ^ t else 0)
def sm_cd : List Nat → Nat
  | [] => 0
  | e :: w => e + 4 * sm_cd w
def sm_dc (a code q : Nat) : Nat := Nat.land (Nat.shiftRight code (2 * (a - 1 - q))) 3
def sm_chkM (n a : Nat) (dg : Nat → Nat) (m : Nat) : Bool :=
  sm_all (fun t => (Nat.testBit m t == sm_onX n dg t) && (Nat.testBit m t == sm_onY n dg (t / 4 / n) (t / 4 % n) (t % 4))) (4 * a) &&
  (sm_all (fun e => bif Nat.testBit m (sm_op n e) then Nat.beq (sm_end (Nat.testBit m) n a (sm_op n e)) (sm_fol (Nat.testBit m) n (sm_op n e / 4) 30 (sm_op n e) 0).1 && Nat.ble (sm_end (Nat.testBit m) n a (sm_op n e)) (4 * n) else true) (4 * n) &&
  (Nat.beq (sm_rx (Nat.testBit m) n a) (sm_ry (Nat.testBit m) n a 0 0 (sm_rm (Nat.testBit m) n (4 * n) 0 0)) &&
  sm_all (fun d => Nat.testBit m (4 * d) || Nat.testBit m (4 * d + 1) || Nat.testBit m (4 * d + 2) || Nat.testBit m (4 * d + 3)) a))
def sm_chkD (n a : Nat) (v : List Nat) (code : Nat) : Bool :=
  sm_all (fun q => Nat.beq (sm_dc a code q) (sm_get v (a - 1 - q))) a && sm_fc (sm_mk (sm_onX n (sm_dc a code)) (4 * a)) (sm_chkM n a (sm_dc a code))
def sm_chk (n a : Nat) (v : List Nat) : Bool := sm_fc (sm_cd v) (sm_chkD n a v)
theorem sm_st1 : Nat.ble (sm_st (sm_ok 1) 1 0 []) 1000000 = true := by decide +kernel
theorem sm_st2 : Nat.ble (sm_st (sm_ok 2) 4 0 []) 1000000 = true := by decide +kernel
theorem sm_st3 : Nat.ble (sm_st (sm_ok 3) 9 0 []) 1000000 = true := by decide +kernel
theorem sm_st4 : Nat.ble (sm_st (sm_ok 4) 16 0 []) 1000000 = true := by decide +kernel
theorem sm_st5 : Nat.ble (sm_st (sm_ok 5) 25 0 []) 1000000 = true := by decide +kernel
theorem sm_ln1 : Nat.ble (sm_gen (sm_ok 1) 1 0 []).length 429 = true := by decide +kernel
theorem sm_ln2 : Nat.ble (sm_gen (sm_ok 2) 4 0 []).length 429 = true := by decide +kernel
theorem sm_ln3 : Nat.ble (sm_gen (sm_ok 3) 9 0 []).length 429 = true := by decide +kernel
theorem sm_ln4 : Nat.ble (sm_gen (sm_ok 4) 16 0 []).length 429 = true := by decide +kernel
theorem sm_ln5 : Nat.ble (sm_gen (sm_ok 5) 25 0 []).length 429 = true := by decide +kernel
theorem sm_ck1 : (sm_gen (sm_ok 1) 1 0 []).all (sm_chk 1 1) = true := by decide +kernel
theorem sm_ck2 : (sm_gen (sm_ok 2) 4 0 []).all (sm_chk 2 4) = true := by decide +kernel
theorem sm_ck3 : (sm_gen (sm_ok 3) 9 0 []).all (sm_chk 3 9) = true := by decide +kernel
theorem sm_ck4 : (sm_gen (sm_ok 4) 16 0 []).all (sm_chk 4 16) = true := by decide +kernel
end
section
/-! the paths of the 429 squares of size 5, by their first two rows -/
theorem sm_q0 : (sm_gen (sm_ok 5) 15 10 [1, 2, 1, 1, 1, 2, 1, 1, 1, 1]).all (sm_chk 5 25) = true := by decide +kernel
theorem sm_q1 : (sm_gen (sm_ok 5) 15 10 [1, 1, 2, 1, 1, 2, 1, 1, 1, 1]).all (sm_chk 5 25) = true := by decide +kernel
theorem sm_q2 : (sm_gen (sm_ok 5) 15 10 [1, 1, 1, 2, 1, 2, 1, 1, 1, 1]).all (sm_chk 5 25) = true := by decide +kernel
theorem sm_q3 : (sm_gen (sm_ok 5) 15 10 [1, 1, 1, 1, 2, 2, 1, 1, 1, 1]).all (sm_chk 5 25) = true := by decide +kernel
theorem sm_q4 : (sm_gen (sm_ok 5) 15 10 [2, 1, 1, 1, 1, 1, 2, 1, 1, 1]).all (sm_chk 5 25) = true := by decide +kernel
theorem sm_q5 : (sm_gen (sm_ok 5) 15 10 [2, 0, 2, 1, 1, 1, 2, 1, 1, 1]).all (sm_chk 5 25) = true := by decide +kernel
theorem sm_q6 : (sm_gen (sm_ok 5) 15 10 [1, 1, 2, 1, 1, 1, 2, 1, 1, 1]).all (sm_chk 5 25) = true := by decide +kernel
theorem sm_q7 : (sm_gen (sm_ok 5) 15 10 [2, 0, 1, 2, 1, 1, 2, 1, 1, 1]).all (sm_chk 5 25) = true := by decide +kernel
theorem sm_q8 : (sm_gen (sm_ok 5) 15 10 [1, 1, 1, 2, 1, 1, 2, 1, 1, 1]).all (sm_chk 5 25) = true := by decide +kernel
theorem sm_q9 : (sm_gen (sm_ok 5) 15 10 [2, 0, 1, 1, 2, 1, 2, 1, 1, 1]).all (sm_chk 5 25) = true := by decide +kernel
theorem sm_q10 : (sm_gen (sm_ok 5) 15 10 [1, 1, 1, 1, 2, 1, 2, 1, 1, 1]).all (sm_chk 5 25) = true := by decide +kernel
theorem sm_q11 : (sm_gen (sm_ok 5) 15 10 [2, 1, 1, 1, 1, 1, 1, 2, 1, 1]).all (sm_chk 5 25) = true := by decide +kernel
theorem sm_q12 : (sm_gen (sm_ok 5) 15 10 [1, 2, 1, 1, 1, 1, 1, 2, 1, 1]).all (sm_chk 5 25) = true := by decide +kernel
theorem sm_q13 : (sm_gen (sm_ok 5) 15 10 [2, 1, 0, 2, 1, 1, 1, 2, 1, 1]).all (sm_chk 5 25) = true := by decide +kernel
theorem sm_q14 : (sm_gen (sm_ok 5) 15 10 [1, 2, 0, 2, 1, 1, 1, 2, 1, 1]).all (sm_chk 5 25) = true := by decide +kernel
theorem sm_q15 : (sm_gen (sm_ok 5) 15 10 [1, 1, 1, 2, 1, 1, 1, 2, 1, 1]).all (sm_chk 5 25) = true := by decide +kernel
theorem sm_q16 : (sm_gen (sm_ok 5) 15 10 [2, 1, 0, 1, 2, 1, 1, 2, 1, 1]).all (sm_chk 5 25) = true := by decide +kernel
theorem sm_q17 : (sm_gen (sm_ok 5) 15 10 [1, 2, 0, 1, 2, 1, 1, 2, 1, 1]).all (sm_chk 5 25) = true := by decide +kernel
theorem sm_q18 : (sm_gen (sm_ok 5) 15 10 [1, 1, 1, 1, 2, 1, 1, 2, 1, 1]).all (sm_chk 5 25) = true := by decide +kernel
theorem sm_q19 : (sm_gen (sm_ok 5) 15 10 [2, 1, 1, 1, 1, 1, 1, 1, 2, 1]).all (sm_chk 5 25) = true := by decide +kernel
theorem sm_q20 : (sm_gen (sm_ok 5) 15 10 [1, 2, 1, 1, 1, 1, 1, 1, 2, 1]).all (sm_chk 5 25) = true := by decide +kernel
theorem sm_q21 : (sm_gen (sm_ok 5) 15 10 [1, 1, 2, 1, 1, 1, 1, 1, 2, 1]).all (sm_chk 5 25) = true := by decide +kernel
theorem sm_q22 : (sm_gen (sm_ok 5) 15 10 [2, 1, 1, 0, 2, 1, 1, 1, 2, 1]).all (sm_chk 5 25) = true := by decide +kernel
theorem sm_q23 : (sm_gen (sm_ok 5) 15 10 [1, 2, 1, 0, 2, 1, 1, 1, 2, 1]).all (sm_chk 5 25) = true := by decide +kernel
theorem sm_q24 : (sm_gen (sm_ok 5) 15 10 [1, 1, 2, 0, 2, 1, 1, 1, 2, 1]).all (sm_chk 5 25) = true := by decide +kernel
theorem sm_q25 : (sm_gen (sm_ok 5) 15 10 [1, 1, 1, 1, 2, 1, 1, 1, 2, 1]).all (sm_chk 5 25) = true := by decide +kernel
theorem sm_q26 : (sm_gen (sm_ok 5) 15 10 [2, 1, 1, 1, 1, 1, 1, 1, 1, 2]).all (sm_chk 5 25) = true := by decide +kernel
theorem sm_q27 : (sm_gen (sm_ok 5) 15 10 [1, 2, 1, 1, 1, 1, 1, 1, 1, 2]).all (sm_chk 5 25) = true := by decide +kernel
theorem sm_q28 : (sm_gen (sm_ok 5) 15 10 [1, 1, 2, 1, 1, 1, 1, 1, 1, 2]).all (sm_chk 5 25) = true := by decide +kernel
theorem sm_q29 : (sm_gen (sm_ok 5) 15 10 [1, 1, 1, 2, 1, 1, 1, 1, 1, 2]).all (sm_chk 5 25) = true := by decide +kernel
theorem sm_p10 : sm_gen (sm_ok 5) 10 0 [] = [[1, 2, 1, 1, 1, 2, 1, 1, 1, 1], [1, 1, 2, 1, 1, 2, 1, 1, 1, 1], [1, 1, 1, 2, 1, 2, 1, 1, 1, 1], [1, 1, 1, 1, 2, 2, 1, 1, 1, 1], [2, 1, 1, 1, 1, 1, 2, 1, 1, 1], [2, 0, 2, 1, 1, 1, 2, 1, 1, 1], [1, 1, 2, 1, 1, 1, 2, 1, 1, 1], [2, 0, 1, 2, 1, 1, 2, 1, 1, 1], [1, 1, 1, 2, 1, 1, 2, 1, 1, 1], [2, 0, 1, 1, 2, 1, 2, 1, 1, 1], [1, 1, 1, 1, 2, 1, 2, 1, 1, 1], [2, 1, 1, 1, 1, 1, 1, 2, 1, 1], [1, 2, 1, 1, 1, 1, 1, 2, 1, 1], [2, 1, 0, 2, 1, 1, 1, 2, 1, 1], [1, 2, 0, 2, 1, 1, 1, 2, 1, 1], [1, 1, 1, 2, 1, 1, 1, 2, 1, 1], [2, 1, 0, 1, 2, 1, 1, 2, 1, 1], [1, 2, 0, 1, 2, 1, 1, 2, 1, 1], [1, 1, 1, 1, 2, 1, 1, 2, 1, 1], [2, 1, 1, 1, 1, 1, 1, 1, 2, 1], [1, 2, 1, 1, 1, 1, 1, 1, 2, 1], [1, 1, 2, 1, 1, 1, 1, 1, 2, 1], [2, 1, 1, 0, 2, 1, 1, 1, 2, 1], [1, 2, 1, 0, 2, 1, 1, 1, 2, 1], [1, 1, 2, 0, 2, 1, 1, 1, 2, 1], [1, 1, 1, 1, 2, 1, 1, 1, 2, 1], [2, 1, 1, 1, 1, 1, 1, 1, 1, 2], [1, 2, 1, 1, 1, 1, 1, 1, 1, 2], [1, 1, 2, 1, 1, 1, 1, 1, 1, 2], [1, 1, 1, 2, 1, 1, 1, 1, 1, 2]] := by decide +kernel
theorem sm_kids_all {ok : Nat → List Nat → Bool} {g g' : List Nat → List (List Nat)} {P Q : List Nat → Bool} {p : Nat} {w : List Nat} (h : ∀ v, (g v).all P = (g' v).all Q) : ∀ j, (sm_kids ok g p w j).all P = (sm_kids ok g' p w j).all Q
  | 0 => rfl
  | j + 1 => by
    rw [sm_kids, sm_kids, List.all_append, List.all_append, sm_kids_all h j]
    congr 1
    cases ok p ((2 - j) :: w) with
    | false => rfl
    | true => exact h _
theorem sm_gen_split (ok : Nat → List Nat → Bool) (P : List Nat → Bool) (k : Nat) : ∀ (m p : Nat) (w : List Nat), (sm_gen ok (m + k) p w).all P = (sm_gen ok m p w).all (fun u => (sm_gen ok k (p + m) u).all P)
  | 0, p, w => by
    rw [Nat.zero_add, sm_gen, List.all_cons, List.all_nil, Bool.and_true]
    rfl
  | m + 1, p, w => by
    rw [show m + 1 + k = (m + k) + 1 by omega, sm_gen, sm_gen]
    apply sm_kids_all
    intro v
    rw [sm_gen_split ok P k m (p + 1) v, show p + 1 + m = p + (m + 1) by omega]
theorem sm_allc {α : Type} {P : α → Bool} {a : α} {l : List α} (h : P a = true) (t : l.all P = true) : (a :: l).all P = true := by
  rw [List.all_cons, h, t]
  rfl
theorem sm_ck5 : (sm_gen (sm_ok 5) 25 0 []).all (sm_chk 5 25) = true := by
  refine Eq.trans (sm_gen_split (sm_ok 5) (sm_chk 5 25) 15 10 0 []) ?_
  rw [sm_p10]
  exact sm_allc sm_q0 (sm_allc sm_q1 (sm_allc sm_q2 (sm_allc sm_q3 (sm_allc sm_q4 (sm_allc sm_q5 (sm_allc sm_q6 (sm_allc sm_q7 (sm_allc sm_q8 (sm_allc sm_q9 (sm_allc sm_q10 (sm_allc sm_q11 (sm_allc sm_q12 (sm_allc sm_q13 (sm_allc sm_q14 (sm_allc sm_q15 (sm_allc sm_q16 (sm_allc sm_q17 (sm_allc sm_q18 (sm_allc sm_q19 (sm_allc sm_q20 (sm_allc sm_q21 (sm_allc sm_q22 (sm_allc sm_q23 (sm_allc sm_q24 (sm_allc sm_q25 (sm_allc sm_q26 (sm_allc sm_q27 (sm_allc sm_q28 (sm_allc sm_q29 rfl)))))))))))))))))))))))))))))
end
section
/-! what all sizes give -/
/-- all good squares of a size, in their order -/
def sm_G (n : Nat) : List (List Nat) := sm_gen (sm_ok n) (n * n) 0 []
theorem sm_15 {n : Nat} {P : Nat → Prop} (h1 : 1 ≤ n) (h5 : n ≤ 5) (p1 : P 1) (p2 : P 2) (p3 : P 3) (p4 : P 4) (p5 : P 5) : P n := by
  rcases (by omega : n = 1 ∨ n = 2 ∨ n = 3 ∨ n = 4 ∨ n = 5) with rfl | rfl | rfl | rfl | rfl
  · exact p1
  · exact p2
  · exact p3
  · exact p4
  · exact p5
theorem sm_stT {n : Nat} (h1 : 1 ≤ n) (h5 : n ≤ 5) : sm_st (sm_ok n) (n * n) 0 [] ≤ 1000000 :=
  sm_15 (P := fun n => sm_st (sm_ok n) (n * n) 0 [] ≤ 1000000) h1 h5 (Nat.le_of_ble_eq_true sm_st1) (Nat.le_of_ble_eq_true sm_st2) (Nat.le_of_ble_eq_true sm_st3) (Nat.le_of_ble_eq_true sm_st4) (Nat.le_of_ble_eq_true sm_st5)
theorem sm_lnT {n : Nat} (h1 : 1 ≤ n) (h5 : n ≤ 5) : (sm_G n).length ≤ 429 :=
  sm_15 (P := fun n => (sm_G n).length ≤ 429) h1 h5 (Nat.le_of_ble_eq_true sm_ln1) (Nat.le_of_ble_eq_true sm_ln2) (Nat.le_of_ble_eq_true sm_ln3) (Nat.le_of_ble_eq_true sm_ln4) (Nat.le_of_ble_eq_true sm_ln5)
theorem sm_ckT {n : Nat} (h1 : 1 ≤ n) (h5 : n ≤ 5) : (sm_G n).all (sm_chk n (n * n)) = true :=
  sm_15 (P := fun n => (sm_G n).all (sm_chk n (n * n)) = true) h1 h5 sm_ck1 sm_ck2 sm_ck3 sm_ck4 sm_ck5
theorem sm_G_len {n : Nat} {v : List Nat} (h : v ∈ sm_G n) : v.length = n * n := by
  have := (sm_gen_mem (p := 0) (w := []) rfl h).1
  omega
theorem sm_G_wd {n : Nat} {v : List Nat} (h : v ∈ sm_G n) : sm_wd v := (sm_gen_mem (p := 0) (w := []) rfl h).2.2 sm_wd_nil
/-- what is known of the paths of a good square -/
def sm_Path (n : Nat) (dg : Nat → Nat) (on : Nat → Bool) : Prop :=
  (∀ t, t < 4 * (n * n) → on t = sm_onX n dg t ∧ on t = sm_onY n dg (t / 4 / n) (t / 4 % n) (t % 4)) ∧
  (∀ e, e < 4 * n → on (sm_op n e) = true → sm_end on n (n * n) (sm_op n e) = (sm_fol on n (sm_op n e / 4) 30 (sm_op n e) 0).1 ∧ sm_end on n (n * n) (sm_op n e) ≤ 4 * n) ∧
  sm_rx on n (n * n) = sm_ry on n (n * n) 0 0 (sm_rm on n (4 * n) 0 0) ∧
  (∀ d, d < n * n → on (4 * d) = true ∨ on (4 * d + 1) = true ∨ on (4 * d + 2) = true ∨ on (4 * d + 3) = true)
/-- the digits of a word by its code, and the edges that are on by their mask -/
def sm_pdg (n : Nat) (v : List Nat) : Nat → Nat := sm_dc (n * n) (sm_cd v)
def sm_pon (n : Nat) (v : List Nat) : Nat → Bool := Nat.testBit (sm_mk (sm_onX n (sm_pdg n v)) (4 * (n * n)))
theorem sm_path {n : Nat} {v : List Nat} (h1 : 1 ≤ n) (h5 : n ≤ 5) (h : v ∈ sm_G n) : (∀ q, q < n * n → sm_pdg n v q = sm_dg v q) ∧ sm_Path n (sm_pdg n v) (sm_pon n v) := by
  unfold sm_pon sm_pdg
  have hc := List.all_eq_true.mp (sm_ckT h1 h5) v h
  rw [sm_chk, sm_fc_eq, sm_chkD, sm_fc_eq, sm_chkM, Bool.and_eq_true, Bool.and_eq_true, Bool.and_eq_true, Bool.and_eq_true] at hc
  obtain ⟨c0, c1, c2, c3, c4⟩ := hc
  refine ⟨?_, ?_, ?_, ?_, ?_⟩
  · intro q hq
    have := sm_all_lt c0 q hq
    rw [Nat.beq_eq] at this
    rw [this]
    unfold sm_dg
    rw [sm_G_len h]
  · intro t ht
    have := sm_all_lt c1 t ht
    rw [Bool.and_eq_true, beq_iff_eq, beq_iff_eq] at this
    exact this
  · intro e he ho
    have := sm_all_lt c2 e he
    rw [ho] at this
    have h2 : (Nat.beq _ _ && Nat.ble _ _) = true := this
    rw [Bool.and_eq_true, Nat.beq_eq, Nat.ble_eq] at h2
    exact h2
  · rw [Nat.beq_eq] at c3
    exact c3
  · intro d hd
    have := sm_all_lt c4 d hd
    rw [Bool.or_eq_true, Bool.or_eq_true, Bool.or_eq_true] at this
    rcases this with ((a | a) | a) | a
    · exact Or.inl a
    · exact Or.inr (Or.inl a)
    · exact Or.inr (Or.inr (Or.inl a))
    · exact Or.inr (Or.inr (Or.inr a))
end
section
/-! sums over the 5 by 5 places of Y against X's sums over n by n -/
theorem sm_sum_zero {g : Nat → Int32} : ∀ {m : Nat}, (∀ i, i < m → g i = 0) → sm_sum g m = 0
  | 0, _ => rfl
  | m + 1, H => by
    show sm_sum g m + g m = 0
    rw [sm_sum_zero (fun i hi => H i (by omega)), H m (by omega)]
    rfl
theorem sm_sum_five (g : Nat → Int32) : ∀ a : Nat, sm_sum g (5 * a) = sm_sum (fun i => sm_sum (fun j => g (5 * i + j)) 5) a
  | 0 => rfl
  | a + 1 => by
    show sm_sum g (5 * a) + g (5 * a) + g (5 * a + 1) + g (5 * a + 2) + g (5 * a + 3) + g (5 * a + 4) = sm_sum (fun i => sm_sum (fun j => g (5 * i + j)) 5) a + (0 + g (5 * a + 0) + g (5 * a + 1) + g (5 * a + 2) + g (5 * a + 3) + g (5 * a + 4))
    rw [sm_sum_five g a, Int32.zero_add]
    simp only [Int32.add_assoc]
    rfl
theorem sm_sum_if {g : Nat → Int32} {b : Nat} : ∀ {m : Nat}, b ≤ m → sm_sum (fun j => if j < b then g j else 0) m = sm_sum g b
  | 0, h => by
    rw [show b = 0 by omega]
    rfl
  | m + 1, h => by
    by_cases e : b ≤ m
    · show sm_sum (fun j => if j < b then g j else 0) m + (if m < b then g m else 0) = sm_sum g b
      rw [sm_sum_if e, if_neg (by omega), Int32.add_zero]
    · rw [show b = m + 1 by omega]
      apply sm_sum_congr
      intro i hi
      rw [if_pos hi]
theorem sm_sum_mul (x : Int32) (g : Nat → Int32) : ∀ m : Nat, sm_sum (fun j => x * g j) m = x * sm_sum g m
  | 0 => (Int32.mul_zero).symm
  | m + 1 => by
    show sm_sum (fun j => x * g j) m + x * g m = x * (sm_sum g m + g m)
    rw [sm_sum_mul x g m, Int32.mul_add]
theorem sm_sum_from (h : Nat → Int32) (a : Nat) : ∀ m : Nat, sm_sum (fun s => if a ≤ s then h s else 0) m = sm_sum (fun t => h (a + t)) (m - a)
  | 0 => by
    rw [Nat.zero_sub]
    rfl
  | m + 1 => by
    show sm_sum (fun s => if a ≤ s then h s else 0) m + (if a ≤ m then h m else 0) = _
    rw [sm_sum_from h a m]
    by_cases e : a ≤ m
    · rw [if_pos e, show m + 1 - a = (m - a) + 1 by omega]
      show _ = sm_sum (fun t => h (a + t)) (m - a) + h (a + (m - a))
      rw [show a + (m - a) = m by omega]
    · rw [if_neg e, show m + 1 - a = m - a by omega, Int32.add_zero]
/-- the corner sum, rows of n -/
def sm_C (e : Nat → Int32) (n r c : Nat) : Int32 := sm_sum (fun i => sm_sum (fun j => e (i * n + j)) (c + 1)) (r + 1)
theorem sm_div5 {i j : Nat} (h : j < 5) : (5 * i + j) / 5 = i := by omega
theorem sm_mod5 {i j : Nat} (h : j < 5) : (5 * i + j) % 5 = j := by omega
theorem sm_corner {e f : Nat → Int32} {n r c : Nat} (hn : n ≤ 5) (hr : r < n) (hc : c < n) (hf : ∀ i j, i < n → j < n → f (5 * i + j) = e (i * n + j)) :
    sm_sum (fun p => if p / 5 ≤ r ∧ p % 5 ≤ c then f p else 0) 25 = sm_C e n r c := by
  rw [show (25 : Nat) = 5 * 5 from rfl, sm_sum_five]
  have h1 : ∀ i, i < 5 → sm_sum (fun j => if (5 * i + j) / 5 ≤ r ∧ (5 * i + j) % 5 ≤ c then f (5 * i + j) else 0) 5 = if i < r + 1 then sm_sum (fun j => e (i * n + j)) (c + 1) else 0 := by
    intro i hi
    by_cases hir : i < r + 1
    · rw [if_pos hir, ← sm_sum_if (g := fun j => e (i * n + j)) (b := c + 1) (m := 5) (by omega)]
      apply sm_sum_congr
      intro j hj
      show (if (5 * i + j) / 5 ≤ r ∧ (5 * i + j) % 5 ≤ c then f (5 * i + j) else 0) = if j < c + 1 then e (i * n + j) else 0
      rw [sm_div5 hj, sm_mod5 hj]
      by_cases hjc : j < c + 1
      · rw [if_pos hjc, if_pos ⟨by omega, by omega⟩, hf i j (by omega) (by omega)]
      · rw [if_neg hjc, if_neg (by omega)]
    · rw [if_neg hir]
      apply sm_sum_zero
      intro j hj
      show (if (5 * i + j) / 5 ≤ r ∧ (5 * i + j) % 5 ≤ c then f (5 * i + j) else 0) = 0
      rw [sm_div5 hj, if_neg (by omega)]
  rw [sm_sum_congr h1, sm_sum_if (g := fun i => sm_sum (fun j => e (i * n + j)) (c + 1)) (b := r + 1) (m := 5) (by omega)]
  rfl
/-- what lies below and to the left -/
def sm_B (e : Nat → Int32) (n r c : Nat) : Int32 := sm_sum (fun t => sm_sum (fun d => e ((r + 1 + t) * n + d)) c) (n - (r + 1))
def sm_I (e : Nat → Int32) (n : Nat) : Int32 := sm_sum (fun r => sm_sum (fun c => e (r * n + c) * sm_B e n r c) n) n
def sm_inP (n p q : Nat) : Prop := (p / 5 < n ∧ p % 5 < n) ∧ (q / 5 < n ∧ q % 5 < n) ∧ p / 5 < q / 5 ∧ q % 5 < p % 5
theorem sm_inv_q {e f : Nat → Int32} {n i j : Nat} (hn : n ≤ 5) (hi : i < n) (hj : j < n) (hf : ∀ i j, i < n → j < n → f (5 * i + j) = e (i * n + j)) (T : Nat → Int32)
    (hT : ∀ q, (sm_inP n (5 * i + j) q → T q = f (5 * i + j) * f q) ∧ (¬ sm_inP n (5 * i + j) q → T q = 0)) :
    sm_sum T 25 = e (i * n + j) * sm_B e n i j := by
  rw [show (25 : Nat) = 5 * 5 from rfl, sm_sum_five]
  have h1 : ∀ s, s < 5 → sm_sum (fun d => T (5 * s + d)) 5 = if i + 1 ≤ s then (if s < n then e (i * n + j) * sm_sum (fun d => e (s * n + d)) j else 0) else 0 := by
    intro s hs
    by_cases a : i + 1 ≤ s ∧ s < n
    · rw [if_pos a.1, if_pos a.2, ← sm_sum_mul, ← sm_sum_if (g := fun d => e (i * n + j) * e (s * n + d)) (b := j) (m := 5) (by omega)]
      apply sm_sum_congr
      intro d hd
      show T (5 * s + d) = if d < j then e (i * n + j) * e (s * n + d) else 0
      by_cases b : d < j
      · rw [if_pos b, (hT _).1, hf i j hi hj, hf s d (by omega) (by omega)]
        unfold sm_inP
        rw [sm_div5 (by omega), sm_mod5 (by omega), sm_div5 hd, sm_mod5 hd]
        omega
      · rw [if_neg b, (hT _).2]
        unfold sm_inP
        rw [sm_div5 (by omega), sm_mod5 (by omega), sm_div5 hd, sm_mod5 hd]
        omega
    · have : (if i + 1 ≤ s then (if s < n then e (i * n + j) * sm_sum (fun d => e (s * n + d)) j else 0) else 0) = 0 := by
        by_cases b : i + 1 ≤ s
        · rw [if_pos b, if_neg (by omega)]
        · rw [if_neg b]
      rw [this]
      apply sm_sum_zero
      intro d hd
      show T (5 * s + d) = 0
      apply (hT _).2
      unfold sm_inP
      rw [sm_div5 (by omega), sm_mod5 (by omega), sm_div5 hd, sm_mod5 hd]
      omega
  rw [sm_sum_congr h1, sm_sum_from (fun s => if s < n then e (i * n + j) * sm_sum (fun d => e (s * n + d)) j else 0) (i + 1) 5]
  unfold sm_B
  rw [← sm_sum_mul, ← sm_sum_if (g := fun t => e (i * n + j) * sm_sum (fun d => e ((i + 1 + t) * n + d)) j) (b := n - (i + 1)) (m := 5 - (i + 1)) (by omega)]
  apply sm_sum_congr
  intro t ht
  show (if i + 1 + t < n then e (i * n + j) * sm_sum (fun d => e ((i + 1 + t) * n + d)) j else 0) = if t < n - (i + 1) then e (i * n + j) * sm_sum (fun d => e ((i + 1 + t) * n + d)) j else 0
  by_cases b : t < n - (i + 1)
  · rw [if_pos b, if_pos (by omega)]
  · rw [if_neg b, if_neg (by omega)]
theorem sm_inv {e f : Nat → Int32} {n : Nat} (hn : n ≤ 5) (hf : ∀ i j, i < n → j < n → f (5 * i + j) = e (i * n + j)) (T : Nat → Nat → Int32)
    (hT : ∀ p q, (sm_inP n p q → T p q = f p * f q) ∧ (¬ sm_inP n p q → T p q = 0)) :
    sm_sum (fun p => sm_sum (T p) 25) 25 = sm_I e n := by
  rw [show sm_sum (fun p => sm_sum (T p) 25) 25 = sm_sum (fun p => sm_sum (T p) 25) (5 * 5) from rfl, sm_sum_five]
  have h1 : ∀ i, i < 5 → sm_sum (fun j => sm_sum (T (5 * i + j)) 25) 5 = if i < n then sm_sum (fun c => e (i * n + c) * sm_B e n i c) n else 0 := by
    intro i hi
    by_cases a : i < n
    · rw [if_pos a, ← sm_sum_if (g := fun c => e (i * n + c) * sm_B e n i c) (b := n) (m := 5) hn]
      apply sm_sum_congr
      intro j hj
      show sm_sum (T (5 * i + j)) 25 = if j < n then e (i * n + j) * sm_B e n i j else 0
      by_cases b : j < n
      · rw [if_pos b]
        exact sm_inv_q hn a b hf (T (5 * i + j)) (hT (5 * i + j))
      · rw [if_neg b]
        apply sm_sum_zero
        intro q _
        apply (hT _ _).2
        unfold sm_inP
        rw [sm_div5 hj, sm_mod5 hj]
        omega
    · rw [if_neg a]
      apply sm_sum_zero
      intro j hj
      apply sm_sum_zero
      intro q _
      apply (hT _ _).2
      unfold sm_inP
      rw [sm_div5 hj, sm_mod5 hj]
      omega
  rw [sm_sum_congr h1, sm_sum_if (g := fun i => sm_sum (fun c => e (i * n + c) * sm_B e n i c) n) (b := n) (m := 5) hn]
  rfl
/-! a square is known by its corner sums -/
def sm_up (D : Nat → Nat → Int32) (r c : Nat) : Int32 := if 1 ≤ r then D (r - 1) c else 0
def sm_df (D : Nat → Nat → Int32) (r c : Nat) : Int32 := D r c - sm_up D r c - (if 1 ≤ c then D r (c - 1) else 0) + (if 1 ≤ c then sm_up D r (c - 1) else 0)
theorem sm_row {e : Nat → Int32} {n : Nat} {D : Nat → Nat → Int32} {r : Nat} (h : ∀ c, c < n → e (r * n + c) = sm_df D r c) :
    ∀ c, c < n → sm_sum (fun j => e (r * n + j)) (c + 1) = D r c - sm_up D r c
  | 0, hc => by
    show 0 + e (r * n + 0) = _
    rw [h 0 hc]
    unfold sm_df
    rw [if_neg (by omega), if_neg (by omega)]
    grind
  | c + 1, hc => by
    show sm_sum (fun j => e (r * n + j)) (c + 1) + e (r * n + (c + 1)) = _
    rw [sm_row h c (by omega), h (c + 1) hc]
    unfold sm_df
    rw [if_pos (by omega), if_pos (by omega), Nat.add_sub_cancel]
    grind
theorem sm_C_of {e : Nat → Int32} {n : Nat} {D : Nat → Nat → Int32} (h : ∀ r c, r < n → c < n → e (r * n + c) = sm_df D r c) :
    ∀ r c, r < n → c < n → sm_C e n r c = D r c
  | 0, c, hr, hc => by
    show 0 + sm_sum (fun j => e (0 * n + j)) (c + 1) = _
    rw [sm_row (h 0 · hr) c hc]
    unfold sm_up
    rw [if_neg (by omega)]
    grind
  | r + 1, c, hr, hc => by
    show sm_C e n r c + sm_sum (fun j => e ((r + 1) * n + j)) (c + 1) = _
    rw [sm_C_of h r c (by omega) hc, sm_row (h (r + 1) · hr) c hc]
    unfold sm_up
    rw [if_pos (by omega), Nat.add_sub_cancel]
    grind
theorem sm_of_C {e : Nat → Int32} {n : Nat} {D : Nat → Nat → Int32} (h : ∀ r c, r < n → c < n → sm_C e n r c = D r c) {r c : Nat} (hr : r < n) (hc : c < n) :
    e (r * n + c) = sm_df D r c := by
  have row : ∀ c, c < n → sm_sum (fun j => e (r * n + j)) (c + 1) = D r c - sm_up D r c := by
    intro c hc
    have a := h r c hr hc
    unfold sm_up
    cases r with
    | zero =>
      have b : (0 : Int32) + sm_sum (fun j => e (0 * n + j)) (c + 1) = D 0 c := a
      rw [if_neg (by omega), ← b]
      grind
    | succ r =>
      have b : sm_C e n r c + sm_sum (fun j => e ((r + 1) * n + j)) (c + 1) = D (r + 1) c := a
      rw [if_pos (by omega), Nat.add_sub_cancel, ← b, h r c (by omega) hc]
      grind
  have a := row c hc
  unfold sm_df
  cases c with
  | zero =>
    have b : (0 : Int32) + e (r * n + 0) = D r 0 - sm_up D r 0 := a
    rw [if_neg (by omega), if_neg (by omega), ← b]
    grind
  | succ c =>
    have b : sm_sum (fun j => e (r * n + j)) (c + 1) + e (r * n + (c + 1)) = D r (c + 1) - sm_up D r (c + 1) := a
    rw [row c (by omega)] at b
    rw [if_pos (by omega), if_pos (by omega), Nat.add_sub_cancel, ← b]
    grind
theorem sm_mixiff {e : Nat → Int32} {n : Nat} {D : Nat → Nat → Int32} : (∀ r c, r < n → c < n → sm_C e n r c = D r c) ↔ (∀ r c, r < n → c < n → e (r * n + c) = sm_df D r c) :=
  ⟨fun h _ _ hr hc => sm_of_C h hr hc, fun h r c hr hc => sm_C_of h r c hr hc⟩
end
section
/-! places and ports -/
theorem sm_rd {n r c : Nat} (hc : c < n) : (r * n + c) / n = r := by
  rw [Nat.mul_comm, Nat.mul_add_div (by omega), Nat.div_eq_of_lt hc, Nat.add_zero]
theorem sm_rmd {n r c : Nat} (hc : c < n) : (r * n + c) % n = c := by
  rw [Nat.mul_comm, Nat.mul_add_mod, Nat.mod_eq_of_lt hc]
theorem sm_rc_lt {n r c : Nat} (hr : r < n) (hc : c < n) : r * n + c < n * n := by
  have h : (r + 1) * n ≤ n * n := Nat.mul_le_mul_right n hr
  rw [Nat.add_mul] at h
  omega
theorem sm_nn {n : Nat} (h : n ≤ 5) : n * n ≤ 25 := Nat.mul_le_mul h h
theorem sm_nn1 {n : Nat} (h : 1 ≤ n) : 1 ≤ n * n := Nat.mul_le_mul h h
theorem sm_mn {r n : Nat} (h : n ≤ 5) (hr : r ≤ n) : r * n ≤ 25 := Nat.le_trans (Nat.mul_le_mul hr (Nat.le_refl n)) (sm_nn h)
theorem sm_q_r {n q : Nat} (h : q < n * n) : q / n < n := Nat.div_lt_of_lt_mul h
theorem sm_q_c {n q : Nat} (h : q < n * n) : q % n < n := Nat.mod_lt _ (by
  rcases Nat.eq_zero_or_pos n with h0 | h0
  · subst h0
    omega
  · exact h0)
theorem sm_q_eq (n q : Nat) : q / n * n + q % n = q := Nat.div_add_mod' q n
theorem sm_q_of {n q : Nat} (h : q < n * n) : ∃ r c, r < n ∧ c < n ∧ q = r * n + c := ⟨q / n, q % n, sm_q_r h, sm_q_c h, (sm_q_eq n q).symm⟩
/-- Y's cell of X's place q -/
def sm_pl (n q : Nat) : Nat := 5 * (q / n) + q % n
theorem sm_pl_rc {n r c : Nat} (hc : c < n) : sm_pl n (r * n + c) = 5 * r + c := by
  unfold sm_pl
  rw [sm_rd hc, sm_rmd hc]
theorem sm_pl_lt {n q : Nat} (hn : n ≤ 5) (h : q < n * n) : sm_pl n q < 25 := by
  have h1 := sm_q_r h
  have h2 := sm_q_c h
  unfold sm_pl
  omega
theorem sm_pl_inj {n p q : Nat} (hn : n ≤ 5) (hp : p < n * n) (hq : q < n * n) (h : sm_pl n p = sm_pl n q) : p = q := by
  have h1 := sm_q_c hp
  have h2 := sm_q_c hq
  have e1 := sm_q_eq n p
  have e2 := sm_q_eq n q
  unfold sm_pl at h
  have a : p / n = q / n := by omega
  have b : p % n = q % n := by omega
  rw [← e1, ← e2, a, b]
theorem sm_t_4 {P s : Nat} (hs : s < 4) : (P * 4 + s) / 4 = P := by omega
theorem sm_t_m {P s : Nat} (hs : s < 4) : (P * 4 + s) % 4 = s := by omega
theorem sm_t_of {n t : Nat} (h : t < 4 * (n * n)) : ∃ r c s, r < n ∧ c < n ∧ s < 4 ∧ t = (r * n + c) * 4 + s := by
  have h1 : t / 4 < n * n := by omega
  refine ⟨t / 4 / n, t / 4 % n, t % 4, sm_q_r h1, sm_q_c h1, Nat.mod_lt _ (by decide), ?_⟩
  rw [sm_q_eq]
  omega
theorem sm_t_lt {n r c s : Nat} (hr : r < n) (hc : c < n) (hs : s < 4) : (r * n + c) * 4 + s < 4 * (n * n) := by
  have := sm_rc_lt hr hc
  omega
theorem sm_s4 {s : Nat} {P : Nat → Prop} (hs : s < 4) (p0 : P 0) (p1 : P 1) (p2 : P 2) (p3 : P 3) : P s := by
  rcases (by omega : s = 0 ∨ s = 1 ∨ s = 2 ∨ s = 3) with rfl | rfl | rfl | rfl
  · exact p0
  · exact p1
  · exact p2
  · exact p3
section
variable {n r c : Nat}
theorem sm_out0 (hc : c < n) : sm_out n ((r * n + c) * 4 + 0) = bif Nat.beq r 0 then c + 1 else 0 := by
  unfold sm_out
  rw [sm_t_m (by omega), sm_t_4 (by omega), sm_rd hc, sm_rmd hc]
  rfl
theorem sm_out1 (hc : c < n) : sm_out n ((r * n + c) * 4 + 1) = bif Nat.beq (c + 1) n then n + r + 1 else 0 := by
  unfold sm_out
  rw [sm_t_m (by omega), sm_t_4 (by omega), sm_rd hc, sm_rmd hc]
  rfl
theorem sm_out2 (hc : c < n) : sm_out n ((r * n + c) * 4 + 2) = bif Nat.beq (r + 1) n then 2 * n + (n - 1 - c) + 1 else 0 := by
  unfold sm_out
  rw [sm_t_m (by omega), sm_t_4 (by omega), sm_rd hc, sm_rmd hc]
  rfl
theorem sm_out3 (hc : c < n) : sm_out n ((r * n + c) * 4 + 3) = bif Nat.beq c 0 then 3 * n + (n - 1 - r) + 1 else 0 := by
  unfold sm_out
  rw [sm_t_m (by omega), sm_t_4 (by omega), sm_rd hc, sm_rmd hc]
  rfl
theorem sm_acr0 : sm_acr n (((r + 1) * n + c) * 4 + 0) = (r * n + c) * 4 + 2 := by
  unfold sm_acr
  rw [sm_t_m (by omega), sm_t_4 (by omega), Nat.add_mul, Nat.one_mul]
  show (r * n + n + c - n) * 4 + 2 = _
  rw [show r * n + n + c - n = r * n + c by omega]
theorem sm_acr1 : sm_acr n ((r * n + c) * 4 + 1) = (r * n + (c + 1)) * 4 + 3 := by
  unfold sm_acr
  rw [sm_t_m (by omega), sm_t_4 (by omega)]
  rfl
theorem sm_acr2 : sm_acr n ((r * n + c) * 4 + 2) = ((r + 1) * n + c) * 4 + 0 := by
  have h : (r + 1) * n = r * n + n := by rw [Nat.add_mul, Nat.one_mul]
  unfold sm_acr
  rw [sm_t_m (by omega), sm_t_4 (by omega), h]
  show (r * n + c + n) * 4 = _
  omega
theorem sm_acr3 : sm_acr n ((r * n + (c + 1)) * 4 + 3) = (r * n + c) * 4 + 1 := by
  unfold sm_acr
  rw [sm_t_m (by omega), sm_t_4 (by omega)]
  rfl
end
/-- the next port lies within, if the way out is no outer edge -/
theorem sm_acr_lt {n t : Nat} (h : t < 4 * (n * n)) (ho : sm_out n t = 0) : sm_acr n t < 4 * (n * n) := by
  obtain ⟨r, c, s, hr, hc, hs, rfl⟩ := sm_t_of h
  revert ho h
  refine sm_s4 (P := fun s => (r * n + c) * 4 + s < 4 * (n * n) → sm_out n ((r * n + c) * 4 + s) = 0 → sm_acr n ((r * n + c) * 4 + s) < 4 * (n * n)) hs ?_ ?_ ?_ ?_
  · intro _ ho
    rw [sm_out0 hc] at ho
    cases r with
    | zero => cases ho
    | succ r =>
      rw [sm_acr0]
      exact sm_t_lt (by omega) hc (by omega)
  · intro _ ho
    rw [sm_out1 hc] at ho
    by_cases e : c + 1 = n
    · rw [(Nat.beq_eq ▸ e : Nat.beq (c + 1) n = true)] at ho
      cases ho
    · rw [sm_acr1]
      exact sm_t_lt hr (by omega) (by omega)
  · intro _ ho
    rw [sm_out2 hc] at ho
    by_cases e : r + 1 = n
    · rw [(Nat.beq_eq ▸ e : Nat.beq (r + 1) n = true)] at ho
      cases ho
    · rw [sm_acr2]
      exact sm_t_lt (by omega) hc (by omega)
  · intro _ ho
    rw [sm_out3 hc] at ho
    cases c with
    | zero => cases ho
    | succ c =>
      rw [sm_acr3]
      exact sm_t_lt hr (by omega) (by omega)
theorem sm_out_le {n t : Nat} (h : t < 4 * (n * n)) : sm_out n t ≤ 4 * n := by
  obtain ⟨r, c, s, hr, hc, hs, rfl⟩ := sm_t_of h
  clear h
  refine sm_s4 (P := fun s => sm_out n ((r * n + c) * 4 + s) ≤ 4 * n) hs ?_ ?_ ?_ ?_
  · rw [sm_out0 hc]
    cases Nat.beq r 0
    · exact Nat.zero_le _
    · show c + 1 ≤ 4 * n
      omega
  · rw [sm_out1 hc]
    cases Nat.beq (c + 1) n
    · exact Nat.zero_le _
    · show n + r + 1 ≤ 4 * n
      omega
  · rw [sm_out2 hc]
    cases Nat.beq (r + 1) n
    · exact Nat.zero_le _
    · show 2 * n + (n - 1 - c) + 1 ≤ 4 * n
      omega
  · rw [sm_out3 hc]
    cases Nat.beq c 0
    · exact Nat.zero_le _
    · show 3 * n + (n - 1 - r) + 1 ≤ 4 * n
      omega
theorem sm_way_s (on : Nat → Bool) (f t : Nat) : ∀ k, k ≤ 4 → sm_way on f t k = t ∨ ∃ s, s < 4 ∧ sm_way on f t k = f + s
  | 0, _ => Or.inl rfl
  | k + 1, hk => by
    rw [sm_way]
    cases (!(Nat.beq (f + (3 - k)) t) && on (f + (3 - k))) with
    | false => exact sm_way_s on f t k (by omega)
    | true => exact Or.inr ⟨3 - k, by omega, rfl⟩
theorem sm_wy_s (on : Nat → Bool) {P s : Nat} (hs : s < 4) : ∃ s', s' < 4 ∧ sm_wy on (P * 4 + s) = P * 4 + s' := by
  unfold sm_wy
  rw [sm_t_m hs, Nat.add_sub_cancel]
  rcases sm_way_s on (P * 4) (P * 4 + s) 4 (Nat.le_refl _) with h | ⟨s', hs', h⟩
  · exact ⟨s, hs, h⟩
  · exact ⟨s', hs', h⟩
theorem sm_wy_lt (on : Nat → Bool) {n t : Nat} (h : t < 4 * (n * n)) : sm_wy on t < 4 * (n * n) := by
  obtain ⟨r, c, s, hr, hc, hs, rfl⟩ := sm_t_of h
  obtain ⟨s', hs', e⟩ := sm_wy_s on (P := r * n + c) hs
  rw [e]
  exact sm_t_lt hr hc hs'
/-- the outer edge's place, as X and Y reckon it -/
def sm_opr (n e : Nat) : Nat :=
  match e / n with
  | 0 => 0
  | 1 => e % n
  | 2 => n - 1
  | _ => n - 1 - e % n
def sm_opc (n e : Nat) : Nat :=
  match e / n with
  | 0 => e % n
  | 1 => n - 1
  | 2 => n - 1 - e % n
  | _ => 0
theorem sm_opF : ∀ n, n < 6 → ∀ e, e < 4 * n → sm_op n e = (sm_opr n e * n + sm_opc n e) * 4 + e / n ∧ sm_opr n e < n ∧ sm_opc n e < n ∧ e / n < 4 := by decide +kernel
theorem sm_op_lt {n e : Nat} (hn : n ≤ 5) (he : e < 4 * n) : sm_op n e < 4 * (n * n) := by
  obtain ⟨a, b, c, d⟩ := sm_opF n (by omega) e he
  rw [a]
  exact sm_t_lt b c d
end
section
/-! lines that alternate; counts; folds over the fitting squares -/
theorem sm_01 (s : Int32) : (0 ≤ s ∧ s ≤ 1) ↔ (s = 0 ∨ s = 1) := by
  constructor
  · rintro ⟨a, b⟩
    rw [Int32.le_iff_toInt_le] at a b
    have h0 : (0 : Int32).toInt = 0 := by decide
    have h1 : (1 : Int32).toInt = 1 := by decide
    rcases (by omega : s.toInt = 0 ∨ s.toInt = 1) with h | h
    · exact Or.inl (Int32.toInt_inj.mp (by omega))
    · exact Or.inr (Int32.toInt_inj.mp (by omega))
  · rintro (rfl | rfl) <;> decide
theorem sm_10 : ¬ (0 : Int32) = 1 := by decide
/-- the line of the sums S alternates -/
def sm_alt (S : Nat → Int32) (n : Nat) : Prop := (∀ i, i < n → 0 ≤ S i ∧ S i ≤ 1) ∧ S (n - 1) = 1
def sm_okI (n c : Nat) (s : Int32) : Prop := s = 1 ∨ (s = 0 ∧ c + 1 < n)
theorem sm_alt_iff {S : Nat → Int32} {n : Nat} (hn : 1 ≤ n) : sm_alt S n ↔ ∀ c, c < n → sm_okI n c (S c) := by
  constructor
  · rintro ⟨a, b⟩ c hc
    rcases (sm_01 _).mp (a c hc) with h | h
    · by_cases e : c + 1 < n
      · exact Or.inr ⟨h, e⟩
      · rw [show n - 1 = c by omega, h] at b
        exact absurd b sm_10
    · exact Or.inl h
  · intro H
    constructor
    · intro i hi
      rcases H i hi with h | h
      · rw [h]
        decide
      · rw [h.1]
        decide
    · rcases H (n - 1) (by omega) with h | h
      · exact h
      · exact absurd h.2 (by omega)
/-- row sums and column sums of a square given by places -/
def sm_R (h : Nat → Int32) (n r c : Nat) : Int32 := sm_sum (fun j => h (r * n + j)) (c + 1)
def sm_K (h : Nat → Int32) (n r c : Nat) : Int32 := sm_sum (fun i => h (c + i * n)) (r + 1)
def sm_goodX (h : Nat → Int32) (n : Nat) : Prop := ∀ q, q < n * n → sm_okI n (q % n) (sm_R h n (q / n) (q % n)) ∧ sm_okI n (q / n) (sm_K h n (q / n) (q % n))
def sm_goodY (h : Nat → Int32) (n : Nat) : Prop := ∀ k, k < n → sm_alt (fun i => sm_R h n k i) n ∧ sm_alt (fun i => sm_K h n i k) n
theorem sm_good_iff {h : Nat → Int32} {n : Nat} (hn : 1 ≤ n) : sm_goodX h n ↔ sm_goodY h n := by
  constructor
  · intro H k hk
    rw [sm_alt_iff hn, sm_alt_iff hn]
    constructor
    · intro c hc
      have := (H (k * n + c) (sm_rc_lt hk hc)).1
      rw [sm_rd hc, sm_rmd hc] at this
      exact this
    · intro r hr
      have := (H (r * n + k) (sm_rc_lt hr hk)).2
      rw [sm_rd hk, sm_rmd hk] at this
      exact this
  · intro H q hq
    exact ⟨(sm_alt_iff hn).mp (H (q / n) (sm_q_r hq)).1 (q % n) (sm_q_c hq), (sm_alt_iff hn).mp (H (q % n) (sm_q_c hq)).2 (q / n) (sm_q_r hq)⟩
/-- the number of digits 0 -/
def sm_ng (dg : Nat → Nat) : Nat → Nat
  | 0 => 0
  | q + 1 => if dg q = 0 then sm_ng dg q + 1 else sm_ng dg q
theorem sm_ng_le (dg : Nat → Nat) : ∀ q, sm_ng dg q ≤ q
  | 0 => Nat.le_refl _
  | q + 1 => by
    have := sm_ng_le dg q
    rw [sm_ng]
    split <;> omega
theorem sm_ng_congr {f g : Nat → Nat} : ∀ {m : Nat}, (∀ q, q < m → f q = g q) → sm_ng f m = sm_ng g m
  | 0, _ => rfl
  | m + 1, H => by
    rw [sm_ng, sm_ng, sm_ng_congr (fun q hq => H q (by omega)), H m (by omega)]
def sm_pw (x : Int32) : Nat → Int32
  | 0 => 1
  | m + 1 => sm_pw x m * x
/-- the first word with P, counted from i; d if there is none -/
def sm_first (d : Int32) (P : List Nat → Bool) : List (List Nat) → Nat → Int32
  | [], _ => d
  | v :: L, i => bif P v then nI i else sm_first d P L (i + 1)
theorem sm_first_congr {d : Int32} {P Q : List Nat → Bool} : ∀ {L : List (List Nat)} {i : Nat}, (∀ v, v ∈ L → P v = Q v) → sm_first d P L i = sm_first d Q L i
  | [], _, _ => rfl
  | v :: L, i, H => by
    rw [sm_first, sm_first, H v List.mem_cons_self, sm_first_congr (fun v hv => H v (List.mem_cons_of_mem _ hv))]
theorem sm_first_3 (P : List Nat → Bool) : ∀ (L : List (List Nat)) (i : Nat), i + L.length < 2 ^ 31 →
    (sm_first (-2) P L i < 0 ∧ sm_first (-3) P L i = -3) ∨ (¬ sm_first (-2) P L i < 0 ∧ sm_first (-3) P L i = sm_first (-2) P L i)
  | [], _, _ => Or.inl ⟨by show (-2 : Int32) < 0; decide, rfl⟩
  | v :: L, i, h => by
    rw [List.length_cons] at h
    rw [sm_first, sm_first]
    cases P v with
    | true => exact Or.inr ⟨nI_pos (by omega), rfl⟩
    | false => exact sm_first_3 P L (i + 1) (by omega)
/-- X's loop over the numbers -/
theorem sm_foldX {α : Type} (F : List (List Nat)) (step : α → List Nat → α) (W : Nat → Nat → α → Prop) (post : α → Prop)
    (hx : ∀ n acc, post acc → W (n + 1) F.length acc)
    (hs : ∀ n i v acc, i < F.length → F[i]? = some v → W n (i + 1) (step acc v) → W (n + 1) i acc) :
    ∀ (L : List (List Nat)) (i : Nat) (acc : α) (n : Nat), i ≤ F.length → F.drop i = L → L.length < n → post (L.foldl step acc) → W n i acc := by
  intro L
  induction L with
  | nil =>
    intro i acc n hi hd hn hp
    have h1 : F.length ≤ i := List.drop_eq_nil_iff.mp hd
    obtain ⟨n, rfl⟩ : ∃ m, n = m + 1 := ⟨n - 1, by omega⟩
    rw [show i = F.length by omega]
    exact hx n acc hp
  | cons v L ih =>
    intro i acc n hi hd hn hp
    have h1 : i < F.length := by
      apply Nat.lt_of_not_le
      intro h
      rw [List.drop_eq_nil_of_le h] at hd
      cases hd
    rw [List.drop_eq_getElem_cons h1] at hd
    injection hd with ha hb
    rw [List.length_cons] at hn
    obtain ⟨n, rfl⟩ : ∃ m, n = m + 1 := ⟨n - 1, by omega⟩
    exact hs n i v acc h1 (by rw [List.getElem?_eq_getElem h1, ha]) (ih (i + 1) (step acc v) n h1 hb (by omega) hp)
/-- X's search for the first -/
theorem sm_firstX (d : Int32) (F : List (List Nat)) (P : List Nat → Bool) (W : Nat → Nat → Prop) (post : Int32 → Prop)
    (hx : ∀ n, post d → W (n + 1) F.length)
    (hs : ∀ n i v, i < F.length → F[i]? = some v → (P v = true → post (nI i)) → (P v = false → W n (i + 1)) → W (n + 1) i) :
    ∀ (L : List (List Nat)) (i n : Nat), i ≤ F.length → F.drop i = L → L.length < n → post (sm_first d P L i) → W n i := by
  intro L
  induction L with
  | nil =>
    intro i n hi hd hn hp
    have h1 : F.length ≤ i := List.drop_eq_nil_iff.mp hd
    obtain ⟨n, rfl⟩ : ∃ m, n = m + 1 := ⟨n - 1, by omega⟩
    rw [show i = F.length by omega]
    exact hx n hp
  | cons v L ih =>
    intro i n hi hd hn hp
    have h1 : i < F.length := by
      apply Nat.lt_of_not_le
      intro h
      rw [List.drop_eq_nil_of_le h] at hd
      cases hd
    rw [List.drop_eq_getElem_cons h1] at hd
    injection hd with ha hb
    rw [List.length_cons] at hn
    obtain ⟨n, rfl⟩ : ∃ m, n = m + 1 := ⟨n - 1, by omega⟩
    rw [sm_first] at hp
    refine hs n i v h1 (by rw [List.getElem?_eq_getElem h1, ha]) ?_ ?_
    · intro e
      rw [e] at hp
      exact hp
    · intro e
      rw [e] at hp
      exact ih (i + 1) n h1 hb (by omega) hp
end
section
/-! the fitting squares, and arrays that hold a word -/
theorem sm_bit (x : Int32) : x &&& 1 = 0 ∨ x &&& 1 = 1 := by
  rw [pk_and x 1 (by decide)]
  rcases Nat.mod_two_eq_zero_or_one x.toBitVec.toNat with h | h
  · exact Or.inl (by rw [show (2 : Nat) ^ 1 = 2 from rfl, h]; rfl)
  · exact Or.inr (by rw [show (2 : Nat) ^ 1 = 2 from rfl, h]; rfl)
theorem sm_bit_n {x : Int32} : ¬ x &&& 1 = 1 ↔ x &&& 1 = 0 := by
  constructor
  · intro h
    rcases sm_bit x with a | a
    · exact a
    · exact absurd a h
  · intro h a
    rw [h] at a
    exact sm_10 a
/-- digit d is allowed at place q -/
def sm_al (A : Nat → Int32) (q d : Nat) : Bool := decide ((A q >>> (nI d &&& 31)) &&& 1 = 1)
theorem sm_al_t {A : Nat → Int32} {q d : Nat} : sm_al A q d = true ↔ (A q >>> (nI d &&& 31)) &&& 1 = 1 := decide_eq_true_iff
theorem sm_al_f {A : Nat → Int32} {q d : Nat} : sm_al A q d = false ↔ (A q >>> (nI d &&& 31)) &&& 1 = 0 := by
  rw [← sm_bit_n]
  exact decide_eq_false_iff_not
def sm_F (n : Nat) (A : Nat → Int32) : List (List Nat) := (sm_G n).filter (sm_fit (sm_al A) (n * n) 0)
def sm_okA (n : Nat) (A : Nat → Int32) (p : Nat) (v : List Nat) : Bool :=
  match v with
  | d :: w => sm_ok n p (d :: w) && sm_al A p d
  | [] => false
theorem sm_F_gen (n : Nat) (A : Nat → Int32) : sm_gen (sm_okA n A) (n * n) 0 [] = sm_F n A :=
  sm_gen_fit (sm_ok n) (sm_al A) (sm_okA n A) (fun _ _ _ => rfl) (n * n) (n * n) 0 [] rfl (by omega)
theorem sm_F_G {n : Nat} {A : Nat → Int32} {v : List Nat} (h : v ∈ sm_F n A) : v ∈ sm_G n := (List.mem_filter.mp h).1
theorem sm_F_len {n : Nat} {A : Nat → Int32} (h1 : 1 ≤ n) (h5 : n ≤ 5) : (sm_F n A).length ≤ 429 :=
  Nat.le_trans (List.length_filter_le _ _) (sm_lnT h1 h5)
/-- the array f holds the word v, place q at cell pl q -/
def sm_ag (pl : Nat → Nat) (f : Nat → Int32) (v : List Nat) : Prop := ∀ q, q < v.length → f (pl q) = sm_e (sm_dg v q)
def sm_inj (pl : Nat → Nat) (all : Nat) : Prop := ∀ p q, p < all → q < all → pl p = pl q → p = q
theorem sm_inj_id (all : Nat) : sm_inj (fun q => q) all := fun _ _ _ _ h => h
theorem sm_inj_pl {n : Nat} (hn : n ≤ 5) : sm_inj (sm_pl n) (n * n) := fun _ _ hp hq h => sm_pl_inj hn hp hq h
theorem sm_ag_nil {pl : Nat → Nat} {f : Nat → Int32} : sm_ag pl f [] := fun _ h => absurd h (Nat.not_lt_zero _)
theorem sm_ag_push {pl : Nat → Nat} {all : Nat} (hi : sm_inj pl all) {f : Nat → Int32} {w : List Nat} {d : Nat} (hl : w.length < all) (h : sm_ag pl f w) : sm_ag pl (upd f (pl w.length) (sm_e d)) (d :: w) := by
  intro q hq
  rw [List.length_cons] at hq
  by_cases e : q = w.length
  · subst e
    rw [pk_us, sm_dg_top]
  · rw [pk_un (fun z => e (hi _ _ (by omega) hl z)), sm_dg_low d w (by omega)]
    exact h q (by omega)
theorem sm_ag_set {pl : Nat → Nat} {all : Nat} (hi : sm_inj pl all) {f : Nat → Int32} {w : List Nat} {p : Nat} {x : Int32} (hl : w.length ≤ p) (hp : p < all) (h : sm_ag pl f w) : sm_ag pl (upd f (pl p) x) w := by
  intro q hq
  rw [pk_un (fun z => absurd (hi _ _ (by omega) hp z) (by omega))]
  exact h q hq
theorem sm_ag_tail {pl : Nat → Nat} {f : Nat → Int32} {w : List Nat} {e : Nat} (h : sm_ag pl f (e :: w)) : sm_ag pl f w := by
  intro q hq
  rw [h q (by rw [List.length_cons]; omega), sm_dg_low e w hq]
theorem sm_ag_head {pl : Nat → Nat} {f : Nat → Int32} {w : List Nat} {e : Nat} (h : sm_ag pl f (e :: w)) : f (pl w.length) = sm_e e := by
  rw [h w.length (by rw [List.length_cons]; omega), sm_dg_top]
/-! the two sums that end at the last place of a word -/
theorem sm_okl_I {n c R : Nat} (hn : n ≤ 5) (hc : c < n) (hR : R ≤ 2 * (c + 1)) : sm_okl n c R = true ↔ sm_okI n c (nI R - nI (c + 1)) := by
  rw [sm_okl_iff]
  unfold sm_okI
  rw [sm_1 (by omega) (by omega), sm_z (by omega) (by omega)]
  constructor <;> rintro (h | h) <;> omega
def sm_lineR (v : List Nat) (n r c : Nat) : Nat := sm_ns (fun j => sm_dg v (r * n + j)) (c + 1)
def sm_lineC (v : List Nat) (n r c : Nat) : Nat := sm_ns (fun i => sm_dg v (c + i * n)) (r + 1)
theorem sm_lineR_le {v : List Nat} (h : sm_wd v) {n r c : Nat} : sm_lineR v n r c ≤ 2 * (c + 1) := sm_ns_le (fun _ _ => sm_dg_le h)
theorem sm_lineC_le {v : List Nat} (h : sm_wd v) {n r c : Nat} : sm_lineC v n r c ≤ 2 * (r + 1) := sm_ns_le (fun _ _ => sm_dg_le h)
theorem sm_R_line {pl : Nat → Nat} {f : Nat → Int32} {v : List Nat} {n r c : Nat} (h : sm_ag pl f v) (hl : r * n + c < v.length) :
    sm_sum (fun j => f (pl (r * n + j))) (c + 1) = nI (sm_lineR v n r c) - nI (c + 1) := by
  unfold sm_lineR
  rw [← sm_sum_e]
  apply sm_sum_congr
  intro j hj
  exact h _ (by omega)
theorem sm_C_line {pl : Nat → Nat} {f : Nat → Int32} {v : List Nat} {n r c : Nat} (h : sm_ag pl f v) (hl : r * n + c < v.length) :
    sm_sum (fun i => f (pl (c + i * n))) (r + 1) = nI (sm_lineC v n r c) - nI (r + 1) := by
  unfold sm_lineC
  rw [← sm_sum_e]
  apply sm_sum_congr
  intro i hi
  have : i * n ≤ r * n := Nat.mul_le_mul_right n (by omega)
  exact h _ (by omega)
/-- the test of a place, by the sums that the programs make -/
theorem sm_ok_I {pl : Nat → Nat} {f : Nat → Int32} {v : List Nat} {n r c : Nat} (hn : n ≤ 5) (hr : r < n) (hc : c < n) (hw : sm_wd v) (h : sm_ag pl f v) (hl : v.length = r * n + c + 1) :
    sm_ok n (r * n + c) v = true ↔ sm_okI n c (sm_sum (fun j => f (pl (r * n + j))) (c + 1)) ∧ sm_okI n r (sm_sum (fun i => f (pl (c + i * n))) (r + 1)) := by
  rw [sm_R_line h (by omega), sm_C_line h (by omega), ← sm_okl_I hn hc (sm_lineR_le hw), ← sm_okl_I hn hr (sm_lineC_le hw), sm_ok_dg hl, Bool.and_eq_true, sm_rd hc, sm_rmd hc]
  rfl
end
section
/-! the two searches, each over an abstract step of its loop -/
def sm_T (n : Nat) (pl : Nat → Nat) (f : Nat → Int32) (r c : Nat) : Prop :=
  sm_okI n c (sm_sum (fun j => f (pl (r * n + j))) (c + 1)) ∧ sm_okI n r (sm_sum (fun i => f (pl (c + i * n))) (r + 1))
theorem sm_T_ok {n : Nat} {pl : Nat → Nat} {f : Nat → Int32} {w : List Nat} {d r c : Nat} (h5 : n ≤ 5) (hi : sm_inj pl (n * n)) (hr : r < n) (hc : c < n) (hp : w.length = r * n + c) (hw : sm_wd w) (hd : d ≤ 2) (h : sm_ag pl f w) :
    sm_ok n w.length (d :: w) = true ↔ sm_T n pl (upd f (pl (r * n + c)) (sm_e d)) r c := by
  have hl : w.length < n * n := by
    rw [hp]
    exact sm_rc_lt hr hc
  have ha := sm_ag_push hi (d := d) hl h
  rw [hp] at ha ⊢
  exact sm_ok_I h5 hr hc (sm_wd_cons hd hw) ha (by rw [List.length_cons, hp])
/-- X's entries hold the words kept so far -/
def sm_EN (a : Nat) (en : Nat → Int32) (A : List (List Nat)) : Prop := ∀ i v, A[i]? = some v → ∀ q, q < a → en (i * a + q) = sm_e (sm_dg v q)
theorem sm_EN_nil {a : Nat} {en : Nat → Int32} : sm_EN a en [] := fun i v h => by
  rw [List.getElem?_nil] at h
  cases h
theorem sm_EN_add {a : Nat} {en en' : Nat → Int32} {A : List (List Nat)} {v : List Nat} (h : sm_EN a en A) (hk : ∀ i, i < A.length * a → en' i = en i) (hv : ∀ q, q < a → en' (A.length * a + q) = sm_e (sm_dg v q)) : sm_EN a en' (A ++ [v]) := by
  intro i u hu q hq
  by_cases hi : i < A.length
  · rw [List.getElem?_append_left hi] at hu
    have : i * a + q < A.length * a := by
      have : (i + 1) * a ≤ A.length * a := Nat.mul_le_mul_right a hi
      rw [Nat.add_mul] at this
      omega
    rw [hk _ this]
    exact h i u hu q hq
  · have hl : i < (A ++ [v]).length := by
      apply Nat.lt_of_not_le
      intro z
      rw [List.getElem?_eq_none z] at hu
      cases hu
    rw [List.length_append, List.length_singleton] at hl
    have e : i = A.length := by omega
    subst e
    rw [List.getElem?_append_right (Nat.le_refl _), Nat.sub_self] at hu
    cases hu
    exact hv q hq
theorem sm_fullX {n : Nat} (h1 : 1 ≤ n) (h5 : n ≤ 5) (W : Nat → Nat → Nat → (Nat → Int32) → (Nat → Int32) → Prop) (Fin : Nat → (Nat → Int32) → (Nat → Int32) → Prop)
    (t0 : ∀ p s m dr en, p < n * n → s < 1000000 → dr p = 1 → (∀ p', p = p' + 1 → W p' (s + 1) m dr en) → (p = 0 → Fin m dr en) → W p s m dr en)
    (t1 : ∀ r c s m dr en j, r < n → c < n → s < 1000000 → j ≤ 2 → dr (r * n + c) = sm_c (j + 1) → sm_T n (fun q => q) (upd dr (r * n + c) (sm_e (2 - j))) r c →
      (r * n + c + 1 < n * n → W (r * n + c + 1) (s + 1) m (upd (upd dr (r * n + c) (sm_e (2 - j))) (r * n + c + 1) (-2)) en) →
      (r * n + c + 1 = n * n → W (n * n) (s + 1) m (upd dr (r * n + c) (sm_e (2 - j))) en) → W (r * n + c) s m dr en)
    (t2 : ∀ r c s m dr en j, r < n → c < n → s < 1000000 → j ≤ 2 → dr (r * n + c) = sm_c (j + 1) → ¬ sm_T n (fun q => q) (upd dr (r * n + c) (sm_e (2 - j))) r c →
      W (r * n + c) (s + 1) m (upd dr (r * n + c) (sm_e (2 - j))) en → W (r * n + c) s m dr en)
    (t3 : ∀ s m dr en, s < 1000000 → m < 429 → (∀ en', (∀ i, i < m * (n * n) → en' i = en i) → (∀ q, q < n * n → en' (m * (n * n) + q) = dr q) → W (n * n - 1) (s + 1) (m + 1) dr en') → W (n * n) s m dr en)
    (hF : ∀ dr en, sm_EN (n * n) en (sm_G n) → Fin (sm_G n).length dr en) :
    ∀ dr en, dr 0 = -2 → W 0 0 0 dr en := by
  intro dr en hd
  have hnn := sm_nn1 h1
  have key := sm_full (sm_ok n) (n * n) 1000000 (sm_G n)
    (fun w j s A => ∀ dr en, sm_ag (fun q => q) dr w → dr w.length = sm_c j → sm_EN (n * n) en A → W w.length s A.length dr en)
    (fun v s A => ∀ dr en, sm_ag (fun q => q) dr v → sm_EN (n * n) en A → W (n * n) s A.length dr en)
    (by
      intro w j s A hl hj hw hs hok hE dr en ha hc he
      obtain ⟨r, c, hr, hcn, hp⟩ := sm_q_of (n := n) (q := w.length) (by omega)
      have hT := (sm_T_ok h5 (sm_inj_id _) hr hcn hp hw (by omega) ha).mp hok
      rw [hp] at hc hl ⊢
      refine t1 r c s A.length dr en j hr hcn hs hj hc hT ?_ ?_
      · intro _
        have := hE (upd (upd dr (r * n + c) (sm_e (2 - j))) (r * n + c + 1) (-2)) en ?_ ?_ he
        · rw [List.length_cons, hp] at this
          exact this
        · have hb := sm_ag_push (sm_inj_id (n * n)) (d := 2 - j) (by omega) ha
          have hc2 := sm_ag_set (sm_inj_id (n * n)) (p := r * n + c + 1) (x := -2) (by rw [List.length_cons]; omega) hl hb
          rw [hp] at hc2
          exact hc2
        · rw [List.length_cons, hp, pk_us, sm_c3]
      · intro e
        omega)
    (by
      intro w j s A hl hj hw hs hok hE dr en ha hc he
      obtain ⟨r, c, hr, hcn, hp⟩ := sm_q_of (n := n) (q := w.length) (by omega)
      have hT := (sm_T_ok h5 (sm_inj_id _) hr hcn hp hw (by omega) ha).mp hok
      rw [hp] at hc hl ⊢
      refine t1 r c s A.length dr en j hr hcn hs hj hc hT ?_ ?_
      · intro e
        omega
      · intro _
        have hb := sm_ag_push (sm_inj_id (n * n)) (d := 2 - j) (by omega) ha
        have hb2 := hE _ en hb he
        rw [hp] at hb2
        exact hb2)
    (by
      intro w j s A hl hj hw hs hok hE dr en ha hc he
      obtain ⟨r, c, hr, hcn, hp⟩ := sm_q_of (n := n) (q := w.length) (by omega)
      have hT : ¬ sm_T n (fun q => q) (upd dr (r * n + c) (sm_e (2 - j))) r c := by
        intro z
        rw [(sm_T_ok h5 (sm_inj_id _) hr hcn hp hw (by omega) ha).mpr z] at hok
        cases hok
      have hx := hE (upd dr (r * n + c) (sm_e (2 - j))) en ?_ ?_ he
      · rw [hp] at hc hx ⊢
        exact t2 r c s A.length dr en j hr hcn hs hj hc hT hx
      · have hb := sm_ag_set (sm_inj_id (n * n)) (p := w.length) (x := sm_e (2 - j)) (Nat.le_refl _) hl ha
        rw [hp] at hb
        exact hb
      · rw [hp, pk_us, sm_c_e hj])
    (by
      intro e w s A hl hw hs hE dr en ha hc he
      have hx := hE dr en (sm_ag_tail ha) ?_ he
      · rw [List.length_cons] at hc ⊢
        refine t0 (w.length + 1) s A.length dr en hl hs (by rw [hc, sm_c0]) ?_ ?_
        · intro p' hp'
          rw [show p' = w.length by omega]
          exact hx
        · intro z
          omega
      · rw [sm_ag_head ha]
        exact sm_e_c (sm_wd_head hw))
    (by
      intro s hs dr en _ hc he
      exact t0 0 s _ dr en (by omega) hs (by rw [← sm_c0]; exact hc) (fun p' hp' => by omega) (fun _ => hF dr en he))
    (by
      intro e w s A L hl hw hs hG hE dr en ha he
      have hlen : A.length < 429 := by
        have h2 := sm_lnT h1 h5
        rw [← hG, List.length_append, List.length_cons] at h2
        omega
      refine t3 s A.length dr en hs hlen ?_
      intro en' hk hv
      have hx := hE dr en' (sm_ag_tail ha) ?_ ?_
      · rw [List.length_append, List.length_singleton] at hx
        rw [show n * n - 1 = w.length by omega]
        exact hx
      · rw [sm_ag_head ha]
        exact sm_e_c (sm_wd_head hw)
      · refine sm_EN_add he hk ?_
        intro q hq
        rw [hv q hq]
        exact ha q (by rw [List.length_cons]; omega))
  have hst := sm_stT h1 h5
  have e1 : sm_rs (sm_ok n) (n * n - 1) [] 3 = sm_st (sm_ok n) (n * n) 0 [] := by
    rw [sm_rs_all, show n * n - 1 + 1 = n * n by omega]
  have e2 : sm_rem (sm_ok n) (n * n - 1) [] 3 = sm_G n := by
    rw [sm_rem_all, show n * n - 1 + 1 = n * n by omega]
    rfl
  exact key _ (n * n - 1) [] 3 0 [] (by rw [List.length_nil]; omega) (by omega) sm_wd_nil (Nat.le_refl _) (by omega) (by rw [e2]; rfl) dr en sm_ag_nil (by rw [sm_c3]; exact hd) sm_EN_nil
/-- where Y's search stands: L is still to come -/
def sm_pos (n : Nat) (A : Nat → Int32) (dp : Int32) (sq : Nat → Int32) (L : List (List Nat)) : Prop :=
  (dp = 0 ∧ sq 0 = -2 ∧ L = sm_F n A) ∨ (dp = nI (n * n) ∧ ∃ v, v.length = n * n ∧ sm_wd v ∧ sm_ag (sm_pl n) sq v ∧ sm_rest (sm_okA n A) 0 v = L)
theorem sm_okA_ok {n : Nat} {A : Nat → Int32} {p d : Nat} {w : List Nat} : sm_okA n A p (d :: w) = true ↔ sm_ok n p (d :: w) = true ∧ sm_al A p d = true := by
  show (sm_ok n p (d :: w) && sm_al A p d) = true ↔ _
  rw [Bool.and_eq_true]
def sm_TY (n : Nat) (A f : Nat → Int32) (r c d : Nat) : Prop := sm_T n (sm_pl n) f r c ∧ sm_al A (r * n + c) d = true
theorem sm_advY {n : Nat} (h1 : 1 ≤ n) (h5 : n ≤ 5) (A : Nat → Int32) (W : Nat → (Nat → Int32) → Prop) (Ex Fa : (Nat → Int32) → Prop)
    (s0 : ∀ p sq, p < n * n → sq (sm_pl n p) = 1 → (∀ p', p = p' + 1 → W p' (upd sq (sm_pl n p) 2)) → (p = 0 → Fa (upd sq (sm_pl n p) 2)) → W p sq)
    (s1 : ∀ r c sq j, r < n → c < n → j ≤ 2 → sq (sm_pl n (r * n + c)) = sm_c (j + 1) → sm_TY n A (upd sq (sm_pl n (r * n + c)) (sm_e (2 - j))) r c (2 - j) →
      (r * n + c + 1 < n * n → W (r * n + c + 1) (upd (upd sq (sm_pl n (r * n + c)) (sm_e (2 - j))) (sm_pl n (r * n + c + 1)) (-2))) →
      (r * n + c + 1 = n * n → Ex (upd sq (sm_pl n (r * n + c)) (sm_e (2 - j)))) → W (r * n + c) sq)
    (s2 : ∀ r c sq j, r < n → c < n → j ≤ 2 → sq (sm_pl n (r * n + c)) = sm_c (j + 1) → ¬ sm_TY n A (upd sq (sm_pl n (r * n + c)) (sm_e (2 - j))) r c (2 - j) →
      W (r * n + c) (upd sq (sm_pl n (r * n + c)) (sm_e (2 - j))) → W (r * n + c) sq)
    {L : List (List Nat)}
    (hL : ∀ v L' sq, L = v :: L' → v.length = n * n → sm_wd v → sm_ag (sm_pl n) sq v → sm_rest (sm_okA n A) 0 v = L' → Ex sq)
    (hE : ∀ sq, L = [] → Fa sq) :
    ∀ (k : Nat) (w : List Nat) (j : Nat) sq, w.length + k + 1 = n * n → j ≤ 3 → sm_wd w → sm_ag (sm_pl n) sq w → sq (sm_pl n w.length) = sm_c j → sm_rem (sm_okA n A) k w j = L → W w.length sq := by
  intro k w j sq hk hj hw ha hc hrem
  have hi := sm_inj_pl h5
  have key := sm_adv (sm_okA n A) (n * n)
    (fun w j => ∀ sq, sm_ag (sm_pl n) sq w → sq (sm_pl n w.length) = sm_c j → W w.length sq)
    (fun v => ∀ sq, sm_ag (sm_pl n) sq v → Ex sq) (∀ sq, Fa sq)
    (by
      intro w j hl hj hw hok hE sq ha hc
      obtain ⟨r, c, hr, hcn, hp⟩ := sm_q_of (n := n) (q := w.length) (by omega)
      have hT := (sm_T_ok h5 hi hr hcn hp hw (by omega) ha).mp (sm_okA_ok.mp hok).1
      have hA := (sm_okA_ok.mp hok).2
      rw [hp] at hc hl hA ⊢
      refine s1 r c sq j hr hcn hj hc ⟨hT, hA⟩ ?_ ?_
      · intro _
        have := hE (upd (upd sq (sm_pl n (r * n + c)) (sm_e (2 - j))) (sm_pl n (r * n + c + 1)) (-2)) ?_ ?_
        · rw [List.length_cons, hp] at this
          exact this
        · have hb := sm_ag_push hi (d := 2 - j) (by omega) ha
          have hc2 := sm_ag_set hi (p := r * n + c + 1) (x := -2) (by rw [List.length_cons]; omega) hl hb
          rw [hp] at hc2
          exact hc2
        · rw [List.length_cons, hp, pk_us, sm_c3]
      · intro e
        omega)
    (by
      intro w j hl hj hw hok hE sq ha hc
      obtain ⟨r, c, hr, hcn, hp⟩ := sm_q_of (n := n) (q := w.length) (by omega)
      have hT := (sm_T_ok h5 hi hr hcn hp hw (by omega) ha).mp (sm_okA_ok.mp hok).1
      have hA := (sm_okA_ok.mp hok).2
      rw [hp] at hc hl hA ⊢
      refine s1 r c sq j hr hcn hj hc ⟨hT, hA⟩ ?_ ?_
      · intro e
        omega
      · intro _
        have hb := sm_ag_push hi (d := 2 - j) (by omega) ha
        have hb2 := hE _ hb
        rw [hp] at hb2
        exact hb2)
    (by
      intro w j hl hj hw hok hE sq ha hc
      obtain ⟨r, c, hr, hcn, hp⟩ := sm_q_of (n := n) (q := w.length) (by omega)
      have hT : ¬ sm_TY n A (upd sq (sm_pl n (r * n + c)) (sm_e (2 - j))) r c (2 - j) := by
        intro z
        have z1 := (sm_T_ok h5 hi hr hcn hp hw (by omega) ha).mpr z.1
        have z2 := z.2
        rw [← hp] at z2
        rw [sm_okA_ok.mpr ⟨z1, z2⟩] at hok
        cases hok
      have hx := hE (upd sq (sm_pl n (r * n + c)) (sm_e (2 - j))) ?_ ?_
      · rw [hp] at hc hx ⊢
        exact s2 r c sq j hr hcn hj hc hT hx
      · have hb := sm_ag_set hi (p := w.length) (x := sm_e (2 - j)) (Nat.le_refl _) hl ha
        rw [hp] at hb
        exact hb
      · rw [hp, pk_us, sm_c_e hj])
    (by
      intro e w hl hw hE sq ha hc
      rw [List.length_cons] at hc ⊢
      have hx := hE (upd sq (sm_pl n (w.length + 1)) 2) ?_ ?_
      · refine s0 (w.length + 1) sq hl (by rw [hc, sm_c0]) ?_ ?_
        · intro p' hp'
          rw [show p' = w.length by omega]
          exact hx
        · intro z
          omega
      · exact sm_ag_set hi (by omega) hl (sm_ag_tail ha)
      · rw [pk_un (fun z => absurd (hi _ _ (by omega) hl z) (by omega)), sm_ag_head ha]
        exact sm_e_c (sm_wd_head hw))
    (by
      intro hE sq _ hc
      have hnn := sm_nn1 h1
      exact s0 0 sq (by omega) (by rw [← sm_c0]; exact hc) (fun p' hp' => by omega) (fun _ => hE _))
  exact key _ k w j hk hj hw (Nat.le_refl _) (fun v L' hv hwd hlen hr sq ha => hL v L' sq (hrem.symm.trans hv) hlen hwd ha hr) (fun hv sq => hE sq (hrem.symm.trans hv)) sq ha hc
end
section
/-! X: sums of lines, the test of a place -/
theorem sm_n1 {n : Nat} (h : 1 ≤ n) : nI n - 1 = nI (n - 1) := pk_sub (b := 1) h
section
variable {post : Int32 → Prop} {sz pls gc fc : Int32} {en st al hd dr : Nat → Int32}
theorem sx_sumD {f s m : Nat} {x y z : Int32} (g : Nat → Int32) (hx : x = nI f) (hy : y = nI s) (hz : z = nI m) (hm : m < 100) (hb : ∀ i, i < m → f + i * s < 25) (hg : ∀ i, i < m → dr (f + i * s) = g i) (hp : post (sm_sum g m)) :
    wpX_sumOfLine__draft post (sz, pls, gc, fc, en, st, al, hd, dr) x y z := by
  subst hx hy hz
  refine loop_0 (fun n i x => wX_sumOfLine__draft_6 post (nI f) (nI s) (nI m) sz pls gc fc en st al hd dr n x (nI i)) (fun i x => x = sm_sum g i) m 0 rfl ?_ ?_
  · rintro n x rfl
    exact br_t (nI_le (Nat.le_refl _) (by omega)) hp
  · rintro n i x hi rfl hk
    have e : nI f + nI i * nI s = nI (f + i * s) := by rw [pk_mul, nI_add]
    have hb2 := hb i hi
    refine br_f (nI_ge hi (by omega)) ⟨?_, nm_e (nm_r (nI_1 i) (hk _ ?_))⟩
    · rw [e]
      exact vp_in_nI hb2 (by decide)
    · rw [e, nI_clamp (by omega), hg i hi]
      rfl
theorem sx_sumH {f s m : Nat} {x y z : Int32} (g : Nat → Int32) (hx : x = nI f) (hy : y = nI s) (hz : z = nI m) (hm : m < 100) (hb : ∀ i, i < m → f + i * s < 25) (hg : ∀ i, i < m → hd (f + i * s) = g i) (hp : post (sm_sum g m)) :
    wpX_sumOfLine__hand post (sz, pls, gc, fc, en, st, al, hd, dr) x y z := by
  subst hx hy hz
  refine loop_0 (fun n i x => wX_sumOfLine__hand_6 post (nI f) (nI s) (nI m) sz pls gc fc en st al hd dr n x (nI i)) (fun i x => x = sm_sum g i) m 0 rfl ?_ ?_
  · rintro n x rfl
    exact br_t (nI_le (Nat.le_refl _) (by omega)) hp
  · rintro n i x hi rfl hk
    have e : nI f + nI i * nI s = nI (f + i * s) := by rw [pk_mul, nI_add]
    have hb2 := hb i hi
    refine br_f (nI_ge hi (by omega)) ⟨?_, nm_e (nm_r (nI_1 i) (hk _ ?_))⟩
    · rw [e]
      exact vp_in_nI hb2 (by decide)
    · rw [e, nI_clamp (by omega), hg i hi]
      rfl
theorem sx_sumE {f s m : Nat} {x y z : Int32} (g : Nat → Int32) (hx : x = nI f) (hy : y = nI s) (hz : z = nI m) (hm : m < 100) (hb : ∀ i, i < m → f + i * s < 10725) (hg : ∀ i, i < m → en (f + i * s) = g i) (hp : post (sm_sum g m)) :
    wpX_sumOfLine__entries post (sz, pls, gc, fc, en, st, al, hd, dr) x y z := by
  subst hx hy hz
  refine loop_0 (fun n i x => wX_sumOfLine__entries_6 post (nI f) (nI s) (nI m) sz pls gc fc en st al hd dr n x (nI i)) (fun i x => x = sm_sum g i) m 0 rfl ?_ ?_
  · rintro n x rfl
    exact br_t (nI_le (Nat.le_refl _) (by omega)) hp
  · rintro n i x hi rfl hk
    have e : nI f + nI i * nI s = nI (f + i * s) := by rw [pk_mul, nI_add]
    have hb2 := hb i hi
    refine br_f (nI_ge hi (by omega)) ⟨?_, nm_e (nm_r (nI_1 i) (hk _ ?_))⟩
    · rw [e]
      exact vp_in_nI hb2 (by decide)
    · rw [e, nI_clamp (by omega), hg i hi]
      rfl
theorem sx_alt76D {n r : Nat} (h1 : 1 ≤ n) (h5 : n ≤ 5) (hr : r < n) {C z : Int32} (ht : sm_okI n r C → ¬ z = 0 → post 1) (hf : ¬ (sm_okI n r C ∧ ¬ z = 0) → post 0) :
    wX_alternatesUpTo__draft_76 post (nI r) C z (nI n) pls gc fc en st al hd dr := by
  have T : sm_okI n r C → wX_alternatesUpTo__draft_104 post z 1 (nI n) pls gc fc en st al hd dr := fun h => br_c (fun a => hf (fun q => q.2 a)) (fun a => br_f (by decide) (ht h a))
  have N : ¬ sm_okI n r C → wX_alternatesUpTo__draft_104 post z 0 (nI n) pls gc fc en st al hd dr := fun h => br_c (fun a => hf (fun q => h q.1)) (fun a => br_t rfl (hf (fun q => h q.1)))
  refine br_c (fun a => T (Or.inl a)) (fun a => br_c (fun b => ?_) (fun b => N (fun q => q.elim a (fun w => b w.1))))
  rw [sm_n1 h1, nI_leI (by omega) (by omega)]
  exact br_c (fun d => N (fun q => q.elim a (fun w => absurd w.2 (by omega)))) (fun d => T (Or.inr ⟨b, by omega⟩))
theorem sx_altD {n r c : Nat} {x : Int32} (h1 : 1 ≤ n) (h5 : n ≤ 5) (hr : r < n) (hc : c < n) (hx : x = nI (r * n + c)) (ht : sm_T n (fun q => q) dr r c → post 1) (hf : ¬ sm_T n (fun q => q) dr r c → post 0) :
    wpX_alternatesUpTo__draft post (nI n, pls, gc, fc, en, st, al, hd, dr) x := by
  subst hx
  have hl := sm_rc_lt hr hc
  have hnn := sm_nn h5
  have n0 : ¬ nI n = 0 := nI_ne0 (by omega) (by omega)
  have e1 : nI (r * n + c) / nI n = nI r := by rw [pk_div (by omega) (by omega) (by omega), sm_rd hc]
  have e2 : nI (r * n + c) - nI (r * n + c) / nI n * nI n = nI c := by rw [pk_rem (by omega) (by omega) (by omega), sm_rmd hc]
  refine ⟨n0, nm_r e1 ⟨n0, nm_r e2 ?_⟩⟩
  refine sx_sumD (f := r * n) (s := 1) (m := c + 1) (fun j => dr (r * n + j)) (pk_mul r n) rfl (nI_1 c) (by omega) (fun i hi => by omega) (fun i hi => by rw [Nat.mul_one]) ?_
  refine sx_sumD (f := c) (s := n) (m := r + 1) (fun i => dr (c + i * n)) rfl rfl (nI_1 r) (by omega) ?_ (fun i hi => rfl) ?_
  · intro i hi
    have : i * n ≤ r * n := Nat.mul_le_mul_right n (by omega)
    omega
  · have A : sm_okI n c (sm_sum (fun j => dr (r * n + j)) (c + 1)) → wX_alternatesUpTo__draft_76 post (nI r) (sm_sum (fun i => dr (c + i * n)) (r + 1)) 1 (nI n) pls gc fc en st al hd dr :=
      fun h => sx_alt76D h1 h5 hr (fun a _ => ht ⟨h, a⟩) (fun a => hf (fun q => a ⟨q.2, by decide⟩))
    have B : ¬ sm_okI n c (sm_sum (fun j => dr (r * n + j)) (c + 1)) → wX_alternatesUpTo__draft_76 post (nI r) (sm_sum (fun i => dr (c + i * n)) (r + 1)) 0 (nI n) pls gc fc en st al hd dr :=
      fun h => sx_alt76D h1 h5 hr (fun _ b => absurd rfl b) (fun a => hf (fun q => h q.1))
    refine br_c (fun a => A (Or.inl a)) (fun a => br_c (fun b => ?_) (fun b => B (fun q => q.elim a (fun w => b w.1))))
    rw [sm_n1 h1, nI_leI (by omega) (by omega)]
    exact br_c (fun d => B (fun q => q.elim a (fun w => absurd w.2 (by omega)))) (fun d => A (Or.inr ⟨b, by omega⟩))
theorem sx_alt76H {n r : Nat} (h1 : 1 ≤ n) (h5 : n ≤ 5) (hr : r < n) {C z : Int32} (ht : sm_okI n r C → ¬ z = 0 → post 1) (hf : ¬ (sm_okI n r C ∧ ¬ z = 0) → post 0) :
    wX_alternatesUpTo__hand_76 post (nI r) C z (nI n) pls gc fc en st al hd dr := by
  have T : sm_okI n r C → wX_alternatesUpTo__hand_104 post z 1 (nI n) pls gc fc en st al hd dr := fun h => br_c (fun a => hf (fun q => q.2 a)) (fun a => br_f (by decide) (ht h a))
  have N : ¬ sm_okI n r C → wX_alternatesUpTo__hand_104 post z 0 (nI n) pls gc fc en st al hd dr := fun h => br_c (fun a => hf (fun q => h q.1)) (fun a => br_t rfl (hf (fun q => h q.1)))
  refine br_c (fun a => T (Or.inl a)) (fun a => br_c (fun b => ?_) (fun b => N (fun q => q.elim a (fun w => b w.1))))
  rw [sm_n1 h1, nI_leI (by omega) (by omega)]
  exact br_c (fun d => N (fun q => q.elim a (fun w => absurd w.2 (by omega)))) (fun d => T (Or.inr ⟨b, by omega⟩))
theorem sx_altH {n r c : Nat} {x : Int32} (h1 : 1 ≤ n) (h5 : n ≤ 5) (hr : r < n) (hc : c < n) (hx : x = nI (r * n + c)) (ht : sm_T n (fun q => q) hd r c → post 1) (hf : ¬ sm_T n (fun q => q) hd r c → post 0) :
    wpX_alternatesUpTo__hand post (nI n, pls, gc, fc, en, st, al, hd, dr) x := by
  subst hx
  have hl := sm_rc_lt hr hc
  have hnn := sm_nn h5
  have n0 : ¬ nI n = 0 := nI_ne0 (by omega) (by omega)
  have e1 : nI (r * n + c) / nI n = nI r := by rw [pk_div (by omega) (by omega) (by omega), sm_rd hc]
  have e2 : nI (r * n + c) - nI (r * n + c) / nI n * nI n = nI c := by rw [pk_rem (by omega) (by omega) (by omega), sm_rmd hc]
  refine ⟨n0, nm_r e1 ⟨n0, nm_r e2 ?_⟩⟩
  refine sx_sumH (f := r * n) (s := 1) (m := c + 1) (fun j => hd (r * n + j)) (pk_mul r n) rfl (nI_1 c) (by omega) (fun i hi => by omega) (fun i hi => by rw [Nat.mul_one]) ?_
  refine sx_sumH (f := c) (s := n) (m := r + 1) (fun i => hd (c + i * n)) rfl rfl (nI_1 r) (by omega) ?_ (fun i hi => rfl) ?_
  · intro i hi
    have : i * n ≤ r * n := Nat.mul_le_mul_right n (by omega)
    omega
  · have A : sm_okI n c (sm_sum (fun j => hd (r * n + j)) (c + 1)) → wX_alternatesUpTo__hand_76 post (nI r) (sm_sum (fun i => hd (c + i * n)) (r + 1)) 1 (nI n) pls gc fc en st al hd dr :=
      fun h => sx_alt76H h1 h5 hr (fun a _ => ht ⟨h, a⟩) (fun a => hf (fun q => a ⟨q.2, by decide⟩))
    have B : ¬ sm_okI n c (sm_sum (fun j => hd (r * n + j)) (c + 1)) → wX_alternatesUpTo__hand_76 post (nI r) (sm_sum (fun i => hd (c + i * n)) (r + 1)) 0 (nI n) pls gc fc en st al hd dr :=
      fun h => sx_alt76H h1 h5 hr (fun _ b => absurd rfl b) (fun a => hf (fun q => h q.1))
    refine br_c (fun a => A (Or.inl a)) (fun a => br_c (fun b => ?_) (fun b => B (fun q => q.elim a (fun w => b w.1))))
    rw [sm_n1 h1, nI_leI (by omega) (by omega)]
    exact br_c (fun d => B (fun q => q.elim a (fun w => absurd w.2 (by omega)))) (fun d => A (Or.inr ⟨b, by omega⟩))
end
end
section
/-! X: the search, the list of the fitting squares -/
section
variable {sz pls gc fc : Int32} {en st al hd dr : Nat → Int32}
theorem sx_keep {post : SX → Prop} {n m : Nat} (h5 : n ≤ 5) (hm : m < 429)
    (hp : ∀ en', (∀ i, i < m * (n * n) → en' i = en i) → (∀ q, q < n * n → en' (m * (n * n) + q) = dr q) → post (sz, nI (n * n), nI (m + 1), fc, en', st, al, hd, dr)) :
    wpX_keepDraft post (sz, nI (n * n), nI m, fc, en, st, al, hd, dr) := by
  have hnn := sm_nn h5
  have hmn : m * (n * n) ≤ 428 * 25 := Nat.mul_le_mul (by omega) hnn
  refine br_f (nI_ge (b := 429) hm (by decide)) (nm_r (pk_mul m (n * n)) ?_)
  refine loop_0 (fun k i en' => wX_keepDraft_22 post (nI (m * (n * n))) sz (nI (n * n)) (nI m) fc k (nI i) en' st al hd dr)
    (fun i en' => (∀ j, j < m * (n * n) → en' j = en j) ∧ (∀ q, q < i → en' (m * (n * n) + q) = dr q)) (n * n) en ⟨fun _ _ => rfl, fun q hq => absurd hq (Nat.not_lt_zero q)⟩ ?_ ?_
  · rintro k en' ⟨a, b⟩
    exact br_t (nI_le (Nat.le_refl _) (by omega)) (nm_r (nI_1 m) (hp en' a b))
  · rintro k i en' hi ⟨a, b⟩ hk
    have e : nI (m * (n * n)) + nI i = nI (m * (n * n) + i) := nI_add _ _
    refine br_f (nI_ge hi (by omega)) ⟨vp_in_nI (by omega) (by decide), ?_, nm_e (nm_r (nI_1 i) (hk _ ⟨?_, ?_⟩))⟩
    · rw [e]
      exact vp_in_nI (by omega) (by decide)
    · intro j hj
      rw [e, nI_clamp (by omega), pk_un (by omega)]
      exact a j hj
    · intro q hq
      rw [e, nI_clamp (n := m * (n * n) + i) (by omega), nI_clamp (n := i) (by omega)]
      by_cases z : q = i
      · subst z
        rw [pk_us]
      · rw [pk_un (by omega)]
        exact b q (by omega)
theorem sx_find {post : SX → Prop} {n : Nat} (h1 : 1 ≤ n) (h5 : n ≤ 5)
    (hp : ∀ en' dr', sm_EN (n * n) en' (sm_G n) → post (nI n, nI (n * n), nI (sm_G n).length, fc, en', st, al, hd, dr')) :
    wpX_findGoodSquares post (nI n, nI (n * n), nI 0, fc, en, st, al, hd, dr) := by
  have hnn := sm_nn h5
  have hn0 := sm_nn1 h1
  refine nm_e ⟨1000001, ?_⟩
  refine sm_fullX h1 h5 (fun p s m dr en => ∀ k, 1000001 ≤ k + s → wX_findGoodSquares_12 post k (nI p) (nI s) (nI n) (nI (n * n)) (nI m) fc en st al hd dr)
    (fun m dr en => post (nI n, nI (n * n), nI m, fc, en, st, al, hd, dr)) ?_ ?_ ?_ ?_ ?_ (upd dr 0 (-2)) en pk_us 1000001 (Nat.le_refl _)
  · intro p s m dr en hp hs h hW hF k hk
    obtain ⟨k, rfl⟩ : ∃ k', k = k' + 1 := ⟨k - 1, by omega⟩
    have hd : dr (nI p).toNatClampNeg = 1 := by rw [nI_clamp (by omega)]; exact h
    have ne : ¬ nI p = nI (n * n) := fun z => absurd ((nI_eq (by omega) (by omega)).mp z) (by omega)
    cases p with
    | zero =>
      obtain ⟨k, rfl⟩ : ∃ k', k = k' + 1 := ⟨k - 1, by omega⟩
      refine br_f (nI_ge (b := 1000000) hs (by decide)) (br_f (nI_pos (by decide)) (br_f ne ⟨vp_in_nI (by omega) (by decide), br_t hd (nm_e (nm_e ?_))⟩))
      exact br_c (fun _ => hF rfl) (fun _ => br_t (by decide) (hF rfl))
    | succ p =>
      exact br_f (nI_ge (b := 1000000) hs (by decide)) (br_f (nI_pos (by omega)) (br_f ne ⟨vp_in_nI (by omega) (by decide), br_t hd (nm_r (pk_m1 p) (nm_r (nI_1 s) (hW p rfl k (by omega))))⟩))
  · intro r c s m dr en j hr hc hs hj h hT hW1 hW2 k hk
    obtain ⟨k, rfl⟩ : ∃ k', k = k' + 1 := ⟨k - 1, by omega⟩
    have hl := sm_rc_lt hr hc
    have hd : dr (nI (r * n + c)).toNatClampNeg = sm_c (j + 1) := by rw [nI_clamp (by omega)]; exact h
    have ne : ¬ nI (r * n + c) = nI (n * n) := fun z => absurd ((nI_eq (by omega) (by omega)).mp z) (by omega)
    have n1 : ¬ dr (nI (r * n + c)).toNatClampNeg = 1 := fun z => absurd ((sm_c_ne (by omega)).mp (hd.symm.trans z)) (by omega)
    have eu : upd dr (nI (r * n + c)).toNatClampNeg (dr (nI (r * n + c)).toNatClampNeg + 1) = upd dr (r * n + c) (sm_e (2 - j)) := by
      rw [hd, sm_c_up, sm_c_e hj, nI_clamp (by omega)]
    have hin : vp_in (nI (r * n + c)) 25 := vp_in_nI (by omega) (by decide)
    by_cases e : r * n + c + 1 = n * n
    · have hk2 := hW2 e k (by omega)
      refine br_f (nI_ge (b := 1000000) hs (by decide)) (br_f (nI_pos (by omega)) (br_f ne ⟨hin, br_f n1 ⟨hin, hin, nm_r eu (sx_altD h1 h5 hr hc rfl (fun _ => br_f (by decide) (nm_r (nI_1 (r * n + c)) (br_t (nI_le (by omega) (by omega)) (nm_r (nI_1 s) ?_)))) (fun z => absurd hT z))⟩⟩))
      rw [e]
      exact hk2
    · have hk2 := hW1 (by omega) k (by omega)
      have ev : upd (upd dr (r * n + c) (sm_e (2 - j))) (nI (r * n + c + 1)).toNatClampNeg (-2) = upd (upd dr (r * n + c) (sm_e (2 - j))) (r * n + c + 1) (-2) := by
        rw [nI_clamp (by omega)]
      exact br_f (nI_ge (b := 1000000) hs (by decide)) (br_f (nI_pos (by omega)) (br_f ne ⟨hin, br_f n1 ⟨hin, hin, nm_r eu (sx_altD h1 h5 hr hc rfl (fun _ => br_f (by decide) (nm_r (nI_1 (r * n + c)) (br_f (nI_ge (by omega) (by omega)) ⟨vp_in_nI (by omega) (by decide), nm_r ev (nm_r (nI_1 s) hk2)⟩))) (fun z => absurd hT z))⟩⟩))
  · intro r c s m dr en j hr hc hs hj h hT hW k hk
    obtain ⟨k, rfl⟩ : ∃ k', k = k' + 1 := ⟨k - 1, by omega⟩
    have hl := sm_rc_lt hr hc
    have hd : dr (nI (r * n + c)).toNatClampNeg = sm_c (j + 1) := by rw [nI_clamp (by omega)]; exact h
    have ne : ¬ nI (r * n + c) = nI (n * n) := fun z => absurd ((nI_eq (by omega) (by omega)).mp z) (by omega)
    have n1 : ¬ dr (nI (r * n + c)).toNatClampNeg = 1 := fun z => absurd ((sm_c_ne (by omega)).mp (hd.symm.trans z)) (by omega)
    have eu : upd dr (nI (r * n + c)).toNatClampNeg (dr (nI (r * n + c)).toNatClampNeg + 1) = upd dr (r * n + c) (sm_e (2 - j)) := by
      rw [hd, sm_c_up, sm_c_e hj, nI_clamp (by omega)]
    have hin : vp_in (nI (r * n + c)) 25 := vp_in_nI (by omega) (by decide)
    exact br_f (nI_ge (b := 1000000) hs (by decide)) (br_f (nI_pos (by omega)) (br_f ne ⟨hin, br_f n1 ⟨hin, hin, nm_r eu (sx_altD h1 h5 hr hc rfl (fun z => absurd z hT) (fun _ => br_t rfl (nm_r (nI_1 s) (hW k (by omega)))))⟩⟩))
  · intro s m dr en hs hm hW k hk
    obtain ⟨k, rfl⟩ : ∃ k', k = k' + 1 := ⟨k - 1, by omega⟩
    refine br_f (nI_ge (b := 1000000) hs (by decide)) (br_f (nI_pos (by omega)) (br_t rfl (sx_keep h5 hm ?_)))
    intro en' a b
    have e1 : nI (n * n) + (-1) = nI (n * n - 1) := by
      obtain ⟨p, hp⟩ : ∃ p, n * n = p + 1 := ⟨n * n - 1, by omega⟩
      rw [hp]
      exact pk_m1 p
    exact nm_r e1 (nm_r (nI_1 s) (hW en' a b k (by omega)))
  · intro dr en he
    exact hp en dr he
/-- the starts of the squares of the list F -/
def sm_ST (a : Nat) (en st : Nat → Int32) (F : List (List Nat)) : Prop := ∀ k v, F[k]? = some v → ∃ s, st k = nI s ∧ s + a ≤ 10725 ∧ ∀ q, q < a → en (s + q) = sm_e (sm_dg v q)
theorem sm_ST_nil {a : Nat} {en st : Nat → Int32} : sm_ST a en st [] := fun k v h => by
  rw [List.getElem?_nil] at h
  cases h
theorem sm_ST_add {a : Nat} {en st : Nat → Int32} {F : List (List Nat)} {v : List Nat} {s : Nat} (h : sm_ST a en st F) (hs : s + a ≤ 10725) (hv : ∀ q, q < a → en (s + q) = sm_e (sm_dg v q)) : sm_ST a en (upd st F.length (nI s)) (F ++ [v]) := by
  intro k u hu
  by_cases hk : k < F.length
  · rw [List.getElem?_append_left hk] at hu
    rw [pk_un (by omega)]
    exact h k u hu
  · have hl : k < (F ++ [v]).length := by
      apply Nat.lt_of_not_le
      intro z
      rw [List.getElem?_eq_none z] at hu
      cases hu
    rw [List.length_append, List.length_singleton] at hl
    have e : k = F.length := by omega
    subst e
    rw [List.getElem?_append_right (Nat.le_refl _), Nat.sub_self] at hu
    cases hu
    exact ⟨s, pk_us, hs, hv⟩
theorem sx_isAllowed {post : Int32 → Prop} {n s : Nat} {v : List Nat} {x : Int32} (h5 : n ≤ 5) (hx : x = nI s) (hs : s + n * n ≤ 10725) (hv : ∀ q, q < n * n → en (s + q) = sm_e (sm_dg v q))
    (ht : sm_fit (sm_al al) (n * n) 0 v = true → post 1) (hf : sm_fit (sm_al al) (n * n) 0 v = false → post 0) :
    wpX_isAllowed post (sz, nI (n * n), gc, fc, en, st, al, hd, dr) x := by
  subst hx
  have hnn := sm_nn h5
  refine loop_0 (fun k i (_ : Unit) => wX_isAllowed_2 post (nI s) sz (nI (n * n)) gc fc en st al hd dr k (nI i)) (fun i _ => ∀ q, q < i → sm_al al q (sm_dg v q) = true) (n * n) () (fun q hq => absurd hq (Nat.not_lt_zero q)) ?_ ?_
  · intro k _ h
    exact br_t (nI_le (Nat.le_refl _) (by omega)) (ht (sm_fit_iff.mpr fun q hq _ => h q hq))
  · intro k i _ hi h hk
    have e : nI s + nI i = nI (s + i) := nI_add _ _
    have e2 : en (nI s + nI i).toNatClampNeg + 1 = nI (sm_dg v i) := by
      rw [e, nI_clamp (by omega), hv i hi, sm_e_def, Int32.sub_add_cancel]
    refine br_f (nI_ge hi (by omega)) ⟨?_, nm_r e2 ⟨vp_in_nI (by omega) (by decide), ?_⟩⟩
    · rw [e]
      exact vp_in_nI (by omega) (by decide)
    · rw [nI_clamp (n := i) (by omega)]
      refine br_c (fun z => hf ?_) (fun z => nm_r (nI_1 i) (hk () ?_))
      · cases hft : sm_fit (sm_al al) (n * n) 0 v with
        | false => rfl
        | true =>
          have := sm_fit_iff.mp hft i hi (Nat.zero_le _)
          rw [sm_al_f.mpr z] at this
          cases this
      · intro q hq
        by_cases w : q = i
        · subst w
          cases hal : sm_al al q (sm_dg v q) with
          | true => rfl
          | false => exact absurd (sm_al_f.mp hal) z
        · exact h q (by omega)
theorem sx_list {post : SX → Prop} {n : Nat} (h1 : 1 ≤ n) (h5 : n ≤ 5) (hE : sm_EN (n * n) en (sm_G n))
    (hp : ∀ st', sm_ST (n * n) en st' (sm_F n al) → post (nI n, nI (n * n), nI (sm_G n).length, nI (sm_F n al).length, en, st', al, hd, dr)) :
    wpX_listFittingSquares post (nI n, nI (n * n), nI (sm_G n).length, fc, en, st, al, hd, dr) := by
  have hnn := sm_nn h5
  have hG := sm_lnT h1 h5
  refine loop_0 (fun k i (t : List (List Nat) × (Nat → Int32)) => wX_listFittingSquares_7 post (nI n) (nI (n * n)) (nI (sm_G n).length) k (nI i) (nI t.1.length) en t.2 al hd dr)
    (fun i t => t.1 = ((sm_G n).take i).filter (sm_fit (sm_al al) (n * n) 0) ∧ sm_ST (n * n) en t.2 t.1) (sm_G n).length ([], st) ⟨by rw [List.take_zero, List.filter_nil], sm_ST_nil⟩ ?_ ?_
  · rintro k ⟨F, st'⟩ ⟨a, b⟩
    have a2 : F = sm_F n al := by
      have a3 : F = ((sm_G n).take (sm_G n).length).filter (sm_fit (sm_al al) (n * n) 0) := a
      rw [List.take_length] at a3
      exact a3
    subst a2
    exact br_t (nI_le (Nat.le_refl _) (by omega)) (hp st' b)
  · rintro k i ⟨F, st'⟩ hi ⟨a, b⟩ hk
    have a3 : F = ((sm_G n).take i).filter (sm_fit (sm_al al) (n * n) 0) := a
    have b3 : sm_ST (n * n) en st' F := b
    have hF : F.length ≤ i := by
      rw [a3]
      refine Nat.le_trans (List.length_filter_le _ _) ?_
      rw [List.length_take]
      omega
    have hmn : i * (n * n) ≤ 428 * 25 := Nat.mul_le_mul (by omega) hnn
    have hg : (sm_G n)[i]? = some (sm_G n)[i] := List.getElem?_eq_getElem hi
    have htk : (sm_G n).take (i + 1) = (sm_G n).take i ++ [(sm_G n)[i]] := by
      rw [List.take_add_one, hg]
      rfl
    have hv := hE i _ hg
    refine br_f (nI_ge hi (by omega)) (nm_r (pk_mul i (n * n)) ?_)
    dsimp only
    refine sx_isAllowed h5 rfl (by omega) hv ?_ ?_
    · intro hft
      refine br_f (by decide) ⟨vp_in_nI (by omega) (by decide), nm_e (nm_r (nI_1 F.length) (nm_r (nI_1 i) ?_))⟩
      have hx := hk (F ++ [(sm_G n)[i]], upd st' F.length (nI (i * (n * n)))) ⟨?_, sm_ST_add b3 (by omega) hv⟩
      · dsimp only at hx
        rw [List.length_append, List.length_singleton] at hx
        rw [nI_clamp (by omega)]
        exact hx
      · show F ++ [(sm_G n)[i]] = _
        rw [htk, List.filter_append, ← a3, List.filter_cons_of_pos hft, List.filter_nil]
    · intro hft
      refine br_t rfl (nm_r (nI_1 i) ?_)
      exact hk (F, st') ⟨by
        show F = _
        rw [htk, List.filter_append, ← a3, List.filter_cons_of_neg (by rw [hft]; exact Bool.false_ne_true), List.filter_nil, List.append_nil], b3⟩
end
end
section
/-! X: gates, and what is read of one square -/
theorem sm_gate {n : Nat} (hn : n < 2 ^ 31) {a : Int32} {A B : Prop} (hb : (∀ j, j < n → a ≠ nI j) → A) (hg : ∀ j, j < n → a = nI j → B) :
    (a < 0 → A) ∧ (¬ a < 0 → ((nI n ≤ a → A) ∧ (¬ nI n ≤ a → B))) := by
  refine br_c (fun h => hb ?_) (fun h => br_c (fun h2 => hb ?_) (fun h2 => ?_))
  · rintro j hj rfl
    exact nI_pos (by omega) h
  · rintro j hj rfl
    exact nI_ge hj hn h2
  · obtain ⟨j, hj, rfl⟩ := nI_of h
    refine hg j ?_ rfl
    apply Nat.lt_of_not_le
    intro z
    exact h2 (nI_le z hj)
section
variable {post : Int32 → Prop} {sz pls gc fc : Int32} {en st al hd dr : Nat → Int32}
theorem sx_isPlace {n : Nat} (h5 : n ≤ 5) {a b : Int32} (hf : (∀ i j, i < n → j < n → a = nI i → b = nI j → False) → post 0) (ht : ∀ i j, i < n → j < n → a = nI i → b = nI j → post 1) :
    wpX_isPlace post (nI n, pls, gc, fc, en, st, al, hd, dr) a b := by
  refine sm_gate (n := n) (by omega) (fun h => hf (fun i j hi _ e _ => h i hi e)) (fun i hi e => ?_)
  exact sm_gate (n := n) (by omega) (fun h => hf (fun _ j _ hj _ e2 => h j hj e2)) (fun j hj e2 => ht i j hi hj e e2)
theorem sx_isNumber {m : Nat} (hm : m < 2 ^ 31) {a : Int32} (hf : (∀ j, j < m → a ≠ nI j) → post 0) (ht : ∀ j, j < m → a = nI j → post 1) :
    wpX_isNumber post (sz, pls, gc, nI m, en, st, al, hd, dr) a := sm_gate hm hf ht
theorem sx_isAtHand {n s : Nat} {x : Int32} (h5 : n ≤ 5) (hx : x = nI s) (hs : s + n * n ≤ 10725) (ht : (∀ q, q < n * n → en (s + q) = hd q) → post 1) (hf : (¬ ∀ q, q < n * n → en (s + q) = hd q) → post 0) :
    wpX_isAtHand post (sz, nI (n * n), gc, fc, en, st, al, hd, dr) x := by
  subst hx
  have hnn := sm_nn h5
  refine loop_0 (fun k i (_ : Unit) => wX_isAtHand_2 post (nI s) sz (nI (n * n)) gc fc en st al hd dr k (nI i)) (fun i _ => ∀ q, q < i → en (s + q) = hd q) (n * n) () (fun q hq => absurd hq (Nat.not_lt_zero q)) ?_ ?_
  · intro k _ h
    exact br_t (nI_le (Nat.le_refl _) (by omega)) (ht h)
  · intro k i _ hi h hk
    have e : nI s + nI i = nI (s + i) := nI_add _ _
    have c1 : (nI (s + i)).toNatClampNeg = s + i := nI_clamp (by omega)
    have c2 : (nI i).toNatClampNeg = i := nI_clamp (by omega)
    refine br_f (nI_ge hi (by omega)) ?_
    rw [e, c1, c2]
    refine ⟨vp_in_nI (by omega) (by decide), vp_in_nI (by omega) (by decide), br_c (fun z => nm_r (nI_1 i) (hk () ?_)) (fun z => hf (fun w => z (w i hi)))⟩
    intro q hq
    by_cases w : q = i
    · subst w
      exact z
    · exact h q (by omega)
theorem sx_negs {n s : Nat} {x : Int32} {dg : Nat → Nat} (h5 : n ≤ 5) (hx : x = nI s) (hs : s + n * n ≤ 10725) (hv : ∀ q, q < n * n → en (s + q) = sm_e (dg q) ∧ dg q ≤ 2) (hp : post (nI (sm_ng dg (n * n)))) :
    wpX_negativesOf post (sz, nI (n * n), gc, fc, en, st, al, hd, dr) x := by
  subst hx
  have hnn := sm_nn h5
  refine loop_0 (fun k i y => wX_negativesOf_4 post (nI s) sz (nI (n * n)) gc fc en st al hd dr k y (nI i)) (fun i y => y = nI (sm_ng dg i)) (n * n) 0 rfl ?_ ?_
  · rintro k y rfl
    exact br_t (nI_le (Nat.le_refl _) (by omega)) hp
  · rintro k i y hi rfl hk
    have e : nI s + nI i = nI (s + i) := nI_add _ _
    have c1 : (nI (s + i)).toNatClampNeg = s + i := nI_clamp (by omega)
    obtain ⟨v1, v2⟩ := hv i hi
    refine br_f (nI_ge hi (by omega)) ?_
    rw [e, c1, v1, sm_e_m1 (by omega)]
    refine ⟨vp_in_nI (by omega) (by decide), br_c (fun z => nm_r (nI_1 _) (nm_r (nI_1 i) (hk _ ?_))) (fun z => nm_r (nI_1 i) (hk _ ?_))⟩
    · rw [sm_ng, if_pos z]
    · rw [sm_ng, if_neg z]
theorem sx_power {x y : Int32} {m : Nat} (hy : y = nI m) (hm : m < 100) (hp : post (sm_pw x m)) : wpX_power post (sz, pls, gc, fc, en, st, al, hd, dr) x y := by
  subst hy
  refine loop_0 (fun k i p => wX_power_5 post x (nI m) sz pls gc fc en st al hd dr k p (nI i)) (fun i p => p = sm_pw x i) m 1 rfl ?_ ?_
  · rintro k p rfl
    exact br_t (nI_le (Nat.le_refl _) (by omega)) hp
  · rintro k i p hi rfl hk
    exact br_f (nI_ge hi (by omega)) (nm_e (nm_r (nI_1 i) (hk _ rfl)))
theorem sx_corner {n s r c : Nat} {x y z : Int32} (h5 : n ≤ 5) (hr : r < n) (hc : c < n) (hx : x = nI s) (hy : y = nI r) (hz : z = nI c) (hs : s + n * n ≤ 10725) (hp : post (sm_C (fun q => en (s + q)) n r c)) :
    wpX_cornerSum post (nI n, pls, gc, fc, en, st, al, hd, dr) x y z := by
  subst hx hy hz
  have hnn := sm_nn h5
  refine loop_0 (fun k i p => wX_cornerSum_6 post (nI s) (nI r) (nI c) (nI n) pls gc fc en st al hd dr k p (nI i)) (fun i p => p = sm_sum (fun i => sm_sum (fun j => en (s + (i * n + j))) (c + 1)) i) (r + 1) 0 rfl ?_ ?_
  · rintro k p rfl
    exact br_t (nI_lt (by omega) (by omega)) hp
  · rintro k i p hi rfl hk
    have hin : i * n ≤ r * n := Nat.mul_le_mul_right n (by omega)
    have hl := sm_rc_lt hr hc
    refine br_f (nI_nlt (by omega) (by omega)) ?_
    refine sx_sumE (f := s + i * n) (s := 1) (m := c + 1) (fun j => en (s + (i * n + j))) (by rw [pk_mul, nI_add]) rfl (nI_1 c) (by omega) (fun j hj => by omega) (fun j hj => by rw [Nat.mul_one, Nat.add_assoc]) ?_
    exact nm_e (nm_r (nI_1 i) (hk _ rfl))
theorem sx_below {n s r c : Nat} {x y z : Int32} (h5 : n ≤ 5) (hr : r < n) (hc : c < n) (hx : x = nI s) (hy : y = nI r) (hz : z = nI c) (hs : s + n * n ≤ 10725) (hp : post (sm_B (fun q => en (s + q)) n r c)) :
    wpX_sumBelowAndLeft post (nI n, pls, gc, fc, en, st, al, hd, dr) x y z := by
  subst hx hy hz
  have hnn := sm_nn h5
  refine nm_r (nI_1 r) ?_
  refine loop_0 (fun k i p => wX_sumBelowAndLeft_8 post (nI s) (nI c) (nI n) pls gc fc en st al hd dr k p (nI (r + 1 + i))) (fun i p => p = sm_sum (fun t => sm_sum (fun d => en (s + ((r + 1 + t) * n + d))) c) i) (n - (r + 1)) 0 rfl ?_ ?_
  · rintro k p rfl
    exact br_t (nI_le (by omega) (by omega)) hp
  · rintro k i p hi rfl hk
    have hin : (r + 1 + i + 1) * n ≤ n * n := Nat.mul_le_mul_right n (by omega)
    rw [Nat.add_mul (r + 1 + i) 1] at hin
    refine br_f (nI_ge (by omega) (by omega)) ?_
    refine sx_sumE (f := s + (r + 1 + i) * n) (s := 1) (m := c) (fun d => en (s + ((r + 1 + i) * n + d))) (by rw [pk_mul, nI_add]) rfl rfl (by omega) (fun j hj => by omega) (fun j hj => by rw [Nat.mul_one, Nat.add_assoc]) ?_
    exact nm_e (nm_r (nI_1 (r + 1 + i)) (hk _ rfl))
end
end
section
/-! X: edges and paths -/
theorem sm_brb {b : Bool} {c A B : Prop} (h : b = true ↔ c) (f : b = true → A) (g : b = false → B) : (c → A) ∧ (¬ c → B) := by
  refine br_c (fun z => f (h.mpr z)) (fun z => g ?_)
  cases b with
  | false => rfl
  | true => exact absurd (h.mp rfl) z
theorem sm_beq {a b : Nat} : Nat.beq a b = true ↔ a = b := by rw [Nat.beq_eq]
theorem sm_beq_t {a b : Nat} (h : a = b) : Nat.beq a b = true := sm_beq.mpr h
theorem sm_beq_f {a b : Nat} (h : ¬ a = b) : Nat.beq a b = false := by
  cases e : Nat.beq a b with
  | false => rfl
  | true => exact absurd (sm_beq.mp e) h
theorem sm_t4 {t : Nat} (ht : t < 100) : nI t / 4 = nI (t / 4) := pk_div (d := 4) (by omega) (by decide) (by decide)
theorem sm_tm {t : Nat} (ht : t < 100) : nI t - nI t / 4 * 4 = nI (t % 4) := pk_rem (d := 4) (by omega) (by decide) (by decide)
theorem sm_e0 : sm_e 0 = -1 := by decide
theorem sm_eS (e : Nat) : sm_e (e + 1) = nI e := nI_pred e
def sm_bI (b : Bool) : Int32 := bif b then 1 else 0
section
variable {post : Int32 → Prop} {sz pls gc fc : Int32} {en st al hd dr : Nat → Int32} {n s : Nat} {dg : Nat → Nat} {on : Nat → Bool}
theorem sx_on165 {r c : Nat} {b : Bool} {z : Int32} (hr : r < 100) (hc : c < 100) (hz : z = sm_bI b) (ht : (b == Nat.beq ((r + c) % 2) 0) = true → post 1) (hf : (b == Nat.beq ((r + c) % 2) 0) = false → post 0) :
    wX_isOn_165 post (nI r) (nI c) z sz pls gc fc en st al hd dr := by
  subst hz
  have e : (nI r + nI c) - (nI r + nI c) / 2 * 2 = nI ((r + c) % 2) := by
    rw [nI_add]
    exact pk_rem (d := 2) (by omega) (by decide) (by decide)
  refine ⟨by decide, ?_⟩
  rw [e]
  rcases Nat.mod_two_eq_zero_or_one (r + c) with h | h
  · rw [h] at ht hf ⊢
    refine br_t rfl ?_
    cases b with
    | true => exact br_t rfl (ht rfl)
    | false => exact br_f (by decide) (hf rfl)
  · rw [h] at ht hf ⊢
    refine br_f (by decide) ?_
    cases b with
    | true => exact br_f (by decide) (hf rfl)
    | false => exact br_t rfl (ht rfl)
theorem sx_row {r m : Nat} {x z : Int32} (h5 : n ≤ 5) (hs : s + n * n ≤ 10725) (hv : ∀ q, q < n * n → en (s + q) = sm_e (dg q)) (hr : r < n) (hm : m ≤ n) (hx : x = nI s + nI r * nI n) (hz : z = nI m)
    (hp : post (nI (sm_ns (fun j => dg (r * n + j)) m) - nI m)) : wpX_sumOfLine__entries post (sz, pls, gc, fc, en, st, al, hd, dr) x 1 z := by
  have hnn := sm_nn h5
  have hl : r * n + n ≤ n * n := by
    have h : (r + 1) * n ≤ n * n := Nat.mul_le_mul_right n hr
    rw [Nat.add_mul] at h
    omega
  refine sx_sumE (f := s + r * n) (s := 1) (m := m) (fun j => sm_e (dg (r * n + j))) (by rw [hx, pk_mul, nI_add]) rfl hz (by omega) (fun j hj => by omega) (fun j hj => ?_) ?_
  · rw [Nat.mul_one, Nat.add_assoc]
    exact hv _ (by omega)
  · rw [sm_sum_e]
    exact hp
theorem sx_col {c m : Nat} {x z : Int32} (h5 : n ≤ 5) (hs : s + n * n ≤ 10725) (hv : ∀ q, q < n * n → en (s + q) = sm_e (dg q)) (hc : c < n) (hm : m ≤ n) (hx : x = nI s + nI c) (hz : z = nI m)
    (hp : post (nI (sm_ns (fun i => dg (c + i * n)) m) - nI m)) : wpX_sumOfLine__entries post (sz, pls, gc, fc, en, st, al, hd, dr) x (nI n) z := by
  have hnn := sm_nn h5
  have hl : ∀ i, i < m → c + i * n < n * n := by
    intro i hi
    have h : (i + 1) * n ≤ n * n := Nat.mul_le_mul_right n (by omega)
    rw [Nat.add_mul] at h
    omega
  refine sx_sumE (f := s + c) (s := n) (m := m) (fun i => sm_e (dg (c + i * n))) (by rw [hx, nI_add]) rfl hz (by omega) (fun j hj => by have := hl j hj; omega) (fun j hj => ?_) ?_
  · rw [Nat.add_assoc]
    exact hv _ (hl j hj)
  · rw [sm_sum_e]
    exact hp
/-- the square at start s of the entries -/
def sm_SQ (n : Nat) (en : Nat → Int32) (s : Nat) (dg : Nat → Nat) : Prop := s + n * n ≤ 10725 ∧ ∀ q, q < n * n → en (s + q) = sm_e (dg q) ∧ dg q ≤ 2
theorem sm_ns2 {g : Nat → Nat} {m : Nat} (hm : m ≤ 5) (h : ∀ i, i < m → g i ≤ 2) : sm_ns g m ≤ 10 := by
  have := sm_ns_le (b := 2) h
  omega
theorem sx_isOn {t : Nat} {x y : Int32} (h1 : 1 ≤ n) (h5 : n ≤ 5) (hq : sm_SQ n en s dg) (ht4 : t < 4 * (n * n)) (hx : x = nI s) (hy : y = nI t) (ht : sm_onX n dg t = true → post 1) (hf : sm_onX n dg t = false → post 0) :
    wpX_isOn post (nI n, pls, gc, fc, en, st, al, hd, dr) x y := by
  subst hx hy
  obtain ⟨hs, hv2⟩ := hq
  have hv : ∀ q, q < n * n → en (s + q) = sm_e (dg q) := fun q h => (hv2 q h).1
  have hnn := sm_nn h5
  obtain ⟨r, c, sd, hr, hc, hsd, rfl⟩ := sm_t_of ht4
  have hl := sm_rc_lt hr hc
  have a1 : nI ((r * n + c) * 4 + sd) - nI ((r * n + c) * 4 + sd) / 4 * 4 = nI sd := by rw [sm_tm (by omega), sm_t_m hsd]
  have a2 : nI ((r * n + c) * 4 + sd) / 4 = nI (r * n + c) := by rw [sm_t4 (by omega), sm_t_4 hsd]
  have a3 : nI (r * n + c) / nI n = nI r := by rw [pk_div (by omega) (by omega) (by omega), sm_rd hc]
  have a4 : nI (r * n + c) - nI (r * n + c) / nI n * nI n = nI c := by rw [pk_rem (by omega) (by omega) (by omega), sm_rmd hc]
  have n0 : ¬ nI n = 0 := nI_ne0 (by omega) (by omega)
  have f0 : ¬ (4 : Int32) = 0 := by decide
  have hon : sm_onX n dg ((r * n + c) * 4 + sd) = (sm_in n dg r c sd == Nat.beq ((r + c) % 2) 0) := by
    unfold sm_onX
    rw [sm_t_4 hsd, sm_t_m hsd, sm_rd hc, sm_rmd hc]
  rw [hon] at ht hf
  have hR : ∀ m, m ≤ n → sm_ns (fun j => dg (r * n + j)) m ≤ 10 := fun m hm => sm_ns2 (by omega) (fun j hj => (hv2 _ (sm_rc_lt hr (by omega))).2)
  have hC : ∀ m, m ≤ n → sm_ns (fun i => dg (c + i * n)) m ≤ 10 := fun m hm => sm_ns2 (by omega) (fun i hi => (hv2 _ (by rw [Nat.add_comm]; exact sm_rc_lt (by omega) hc)).2)
  have fin : ∀ b, sm_in n dg r c sd = b → wX_isOn_165 post (nI r) (nI c) (sm_bI b) (nI n) pls gc fc en st al hd dr := by
    intro b hb
    rw [hb] at ht hf
    exact sx_on165 (by omega) (by omega) rfl ht hf
  refine ⟨f0, nm_r a1 ⟨f0, n0, ?_⟩⟩
  rw [a2]
  refine nm_r a3 ⟨f0, n0, nm_r a4 ?_⟩
  clear ht hf hon a1 a2 ht4
  rcases (by omega : sd = 0 ∨ sd = 1 ∨ sd = 2 ∨ sd = 3) with rfl | rfl | rfl | rfl
  · refine br_f (by decide) (br_f (by decide) (br_f (by decide) (sx_col h5 hs hv hc (m := r) (by omega) rfl rfl (br_f (by decide) ?_))))
    rw [sm_1 (by have := hC r (by omega); omega) (by omega)]
    exact sm_brb sm_beq (fun z => fin true z) (fun z => fin false z)
  · refine br_f (by decide) (br_t rfl (br_t rfl (sx_row h5 hs hv hr (m := c + 1) (by omega) rfl (nI_1 c) (br_t rfl ?_))))
    rw [sm_1 (by have := hR (c + 1) (by omega); omega) (by omega)]
    exact sm_brb sm_beq (fun z => fin true z) (fun z => fin false z)
  · refine br_f (by decide) (br_f (by decide) (br_t rfl (sx_col h5 hs hv hc (m := r + 1) (by omega) rfl (nI_1 r) (br_t rfl ?_))))
    rw [sm_z (by have := hC (r + 1) (by omega); omega) (by omega)]
    exact sm_brb sm_beq (fun z => fin true z) (fun z => fin false z)
  · refine br_t rfl (br_f (by decide) (sx_row h5 hs hv hr (m := c) (by omega) rfl rfl (br_f (by decide) ?_)))
    rw [sm_z (by have := hR c (by omega); omega) (by omega)]
    exact sm_brb sm_beq (fun z => fin true z) (fun z => fin false z)
theorem sx_wayOn {t : Nat} {x y : Int32} (h1 : 1 ≤ n) (h5 : n ≤ 5) (hq : sm_SQ n en s dg) (hon : ∀ t, t < 4 * (n * n) → on t = sm_onX n dg t) (ht4 : t < 4 * (n * n)) (hx : x = nI s) (hy : y = nI t) (hp : post (nI (sm_wy on t))) :
    wpX_wayOn post (nI n, pls, gc, fc, en, st, al, hd, dr) x y := by
  subst hx hy
  have hnn := sm_nn h5
  have a1 : nI t - (nI t - nI t / 4 * 4) = nI (t - t % 4) := by rw [sm_tm (by omega), pk_sub (Nat.mod_le _ _)]
  refine ⟨by decide, nm_r a1 ⟨5, ?_⟩⟩
  have key : ∀ k i, i + k = 4 → post (nI (sm_way on (t - t % 4) t k)) → wX_wayOn_9 post (nI s) (nI t) (nI (t - t % 4)) (nI n) pls gc fc en st al hd dr (k + 1) (nI i) := by
    intro k
    induction k with
    | zero =>
      intro i hi hp
      exact br_t (nI_le (a := 4) (by omega) (by omega)) hp
    | succ k ih =>
      intro i hi hp
      rw [sm_way, show 3 - k = i by omega] at hp
      refine br_f (nI_ge (b := 4) (by omega) (by decide)) (nm_r (nI_add _ _) ?_)
      rw [nI_eq (by omega) (by omega)]
      by_cases e : t - t % 4 + i = t
      · rw [sm_beq_t e] at hp
        exact br_t e (nm_r (nI_1 i) (ih (i + 1) (by omega) hp))
      · rw [sm_beq_f e] at hp
        refine br_f e (sx_isOn h1 h5 hq (t := t - t % 4 + i) (by omega) rfl rfl ?_ ?_)
        · intro z
          rw [hon _ (by omega), z] at hp
          exact br_f (by decide) hp
        · intro z
          rw [hon _ (by omega), z] at hp
          exact br_t rfl (nm_r (nI_1 i) (ih (i + 1) (by omega) hp))
  exact key 4 0 rfl hp
theorem sx_outerNumber {t : Nat} {y : Int32} (h1 : 1 ≤ n) (h5 : n ≤ 5) (ht4 : t < 4 * (n * n)) (hy : y = nI t) (hp : post (sm_e (sm_out n t))) :
    wpX_outerNumber post (nI n, pls, gc, fc, en, st, al, hd, dr) y := by
  subst hy
  have hnn := sm_nn h5
  obtain ⟨r, c, sd, hr, hc, hsd, rfl⟩ := sm_t_of ht4
  have hl := sm_rc_lt hr hc
  have a1 : nI ((r * n + c) * 4 + sd) - nI ((r * n + c) * 4 + sd) / 4 * 4 = nI sd := by rw [sm_tm (by omega), sm_t_m hsd]
  have a2 : nI ((r * n + c) * 4 + sd) / 4 = nI (r * n + c) := by rw [sm_t4 (by omega), sm_t_4 hsd]
  have a3 : nI (r * n + c) / nI n = nI r := by rw [pk_div (by omega) (by omega) (by omega), sm_rd hc]
  have a4 : nI (r * n + c) - nI (r * n + c) / nI n * nI n = nI c := by rw [pk_rem (by omega) (by omega) (by omega), sm_rmd hc]
  have n0 : ¬ nI n = 0 := nI_ne0 (by omega) (by omega)
  have f0 : ¬ (4 : Int32) = 0 := by decide
  refine ⟨f0, nm_r a1 ⟨f0, n0, ?_⟩⟩
  rw [a2]
  refine nm_r a3 ⟨f0, n0, nm_r a4 (nm_r (sm_n1 h1) ?_)⟩
  clear a1 a2 ht4
  rcases (by omega : sd = 0 ∨ sd = 1 ∨ sd = 2 ∨ sd = 3) with rfl | rfl | rfl | rfl
  · rw [sm_out0 hc] at hp
    refine br_t rfl (pk_eq r 0 (fun e => ?_) (fun e => ?_))
    · rw [sm_beq_t e] at hp
      rw [← sm_eS]
      exact hp
    · rw [sm_beq_f e] at hp
      have hp2 : post (-1) := by
        rw [← sm_e0]
        exact hp
      exact br_f (by decide) (br_f (by decide) (br_f (by decide) hp2))
  · rw [sm_out1 hc] at hp
    refine br_f (by decide) (br_t rfl (pk_eq c (n - 1) (fun e => ?_) (fun e => ?_)))
    · rw [sm_beq_t (by omega)] at hp
      rw [nI_add, ← sm_eS]
      exact hp
    · rw [sm_beq_f (by omega)] at hp
      have hp2 : post (-1) := by
        rw [← sm_e0]
        exact hp
      exact br_f (by decide) (br_f (by decide) hp2)
  · rw [sm_out2 hc] at hp
    refine br_f (by decide) (br_f (by decide) (br_t rfl (pk_eq r (n - 1) (fun e => ?_) (fun e => ?_))))
    · rw [sm_beq_t (by omega)] at hp
      rw [show ((2 : Int32) * nI n + nI (n - 1)) - nI c = nI (2 * n + (n - 1 - c)) from by
        rw [show (2 : Int32) = nI 2 from rfl, pk_mul, nI_add, pk_sub (by omega), show 2 * n + (n - 1) - c = 2 * n + (n - 1 - c) by omega], ← sm_eS]
      exact hp
    · rw [sm_beq_f (by omega)] at hp
      have hp2 : post (-1) := by
        rw [← sm_e0]
        exact hp
      exact br_f (by decide) hp2
  · rw [sm_out3 hc] at hp
    refine br_f (by decide) (br_f (by decide) (br_f (by decide) (br_t rfl (pk_eq c 0 (fun e => ?_) (fun e => ?_)))))
    · rw [sm_beq_t (by omega)] at hp
      rw [show ((3 : Int32) * nI n + nI (n - 1)) - nI r = nI (3 * n + (n - 1 - r)) from by
        rw [show (3 : Int32) = nI 3 from rfl, pk_mul, nI_add, pk_sub (by omega), show 3 * n + (n - 1) - r = 3 * n + (n - 1 - r) by omega], ← sm_eS]
      exact hp
    · rw [sm_beq_f (by omega)] at hp
      rw [← sm_e0]
      exact hp
theorem sx_portAcross {t : Nat} {y : Int32} (h5 : n ≤ 5) (ht4 : t < 4 * (n * n)) (hy : y = nI t) (ho : sm_out n t = 0) (hp : post (nI (sm_acr n t))) :
    wpX_portAcross post (nI n, pls, gc, fc, en, st, al, hd, dr) y := by
  subst hy
  have hnn := sm_nn h5
  obtain ⟨r, c, sd, hr, hc, hsd, rfl⟩ := sm_t_of ht4
  have hl := sm_rc_lt hr hc
  have a1 : nI ((r * n + c) * 4 + sd) - nI ((r * n + c) * 4 + sd) / 4 * 4 = nI sd := by rw [sm_tm (by omega), sm_t_m hsd]
  have a2 : nI ((r * n + c) * 4 + sd) / 4 = nI (r * n + c) := by rw [sm_t4 (by omega), sm_t_4 hsd]
  have f0 : ¬ (4 : Int32) = 0 := by decide
  refine ⟨f0, nm_r a1 ⟨f0, nm_r a2 ?_⟩⟩
  clear a1 a2 ht4
  have m4 : ∀ a b : Nat, nI a * 4 + nI b = nI (a * 4 + b) := by
    intro a b
    rw [show (4 : Int32) = nI 4 from rfl, pk_mul, nI_add]
  rcases (by omega : sd = 0 ∨ sd = 1 ∨ sd = 2 ∨ sd = 3) with rfl | rfl | rfl | rfl
  · refine br_t rfl ?_
    rw [sm_out0 hc] at ho
    cases r with
    | zero => cases ho
    | succ r =>
      rw [sm_acr0] at hp
      rw [show nI ((r + 1) * n + c) - nI n = nI (r * n + c) from by
        rw [pk_sub (by rw [Nat.add_mul]; omega), Nat.add_mul, Nat.one_mul, show r * n + n + c - n = r * n + c by omega]]
      exact (m4 _ 2).symm ▸ hp
  · refine br_f (by decide) (br_t rfl ?_)
    rw [sm_acr1] at hp
    rw [nI_1]
    exact (m4 _ 3).symm ▸ hp
  · refine br_f (by decide) (br_f (by decide) (br_t rfl ?_))
    rw [sm_acr2] at hp
    rw [show nI (r * n + c) + nI n = nI ((r + 1) * n + c) from by
      rw [nI_add, Nat.add_mul, Nat.one_mul, show r * n + c + n = r * n + n + c by omega]]
    exact (m4 _ 0).symm ▸ hp
  · refine br_f (by decide) (br_f (by decide) (br_f (by decide) ?_))
    rw [sm_out3 hc] at ho
    cases c with
    | zero => cases ho
    | succ c =>
      rw [sm_acr3] at hp
      rw [show nI (r * n + (c + 1)) - 1 = nI (r * n + c) from nI_pred (r * n + c)]
      exact (m4 _ 1).symm ▸ hp
end
end
section
/-! X: walks along the paths, rings, patterns -/
theorem sm_four {k : Nat} (h : k < 4) : k = 0 ∨ k = 1 ∨ k = 2 ∨ k = 3 := by omega
theorem sm_e_le {x e : Nat} (hx : x < 1000) (he : e < 1000) : sm_e x ≤ nI e ↔ x ≤ e + 1 := by
  rw [Int32.le_iff_toInt_le, sm_e_def, nI_toInt (by omega)]
  have : (nI x - 1).toInt = (x : Int) - 1 := pk_sub_toInt (b := 1) (by omega) (by decide)
  rw [this]
  omega
theorem sm_e_neg {x : Nat} (hx : x < 1000) : sm_e x < 0 ↔ x = 0 := by
  cases x with
  | zero => exact ⟨fun _ => rfl, fun _ => by decide⟩
  | succ x =>
    rw [sm_eS]
    exact ⟨fun h => absurd h (nI_pos (by omega)), fun h => by omega⟩
def sm_pat (on : Nat → Bool) (n : Nat) : Nat → Nat → Int32 → Int32
  | 0, _, a => a
  | k + 1, e, a => bif on (sm_op n e) then sm_pat on n k (e + 1) (a * 2 + (if sm_end on n (n * n) (sm_op n e) ≤ e + 1 then 0 else 1)) else sm_pat on n k (e + 1) a
theorem sm_end_S (on : Nat → Bool) (n f t : Nat) : sm_end on n (f + 1) t = (match sm_out n (sm_wy on t) with
    | 0 => sm_end on n f (sm_acr n (sm_wy on t))
    | e + 1 => e + 1) := by
  rw [sm_end, sm_fc_eq]
  cases sm_out n (sm_wy on t) <;> rfl
theorem sm_fr_S (on : Nat → Bool) (n d f t : Nat) : sm_fr on n d (f + 1) t = (match sm_out n (sm_wy on t) with
    | 0 => bif Nat.ble (sm_acr n (sm_wy on t) / 4 + 1) d then false else bif Nat.beq (sm_acr n (sm_wy on t) / 4) d then true else sm_fr on n d f (sm_acr n (sm_wy on t))
    | _ + 1 => false) := by
  rw [sm_fr, sm_fc_eq]
  cases sm_out n (sm_wy on t) <;> rfl
section
variable {post : Int32 → Prop} {sz pls gc fc : Int32} {en st al hd dr : Nat → Int32} {n s : Nat} {dg : Nat → Nat} {on : Nat → Bool}
theorem sx_outerPort {e : Nat} {x : Int32} (h1 : 1 ≤ n) (h5 : n ≤ 5) (he : e < 4 * n) (hx : x = nI e) (hp : post (nI (sm_op n e))) :
    wpX_outerPort post (nI n, pls, gc, fc, en, st, al, hd, dr) x := by
  subst hx
  obtain ⟨o1, o2, o3, o4⟩ := sm_opF n (by omega) e he
  have n0 : ¬ nI n = 0 := nI_ne0 (by omega) (by omega)
  have h86 : ∀ a b, a = nI (sm_opr n e) → b = nI (sm_opc n e) → wX_outerPort_86 post (nI (e / n)) a b (nI n) pls gc fc en st al hd dr := by
    rintro _ _ rfl rfl
    show post (((nI (sm_opr n e) * nI n) + nI (sm_opc n e)) * 4 + nI (e / n))
    rw [show (4 : Int32) = nI 4 from rfl, pk_mul, nI_add, pk_mul, nI_add, ← o1]
    exact hp
  refine ⟨n0, nm_r (pk_div (by omega) (by omega) (by omega)) ⟨n0, nm_r (pk_rem (by omega) (by omega) (by omega)) (nm_r (sm_n1 h1) ?_)⟩⟩
  have hm : e % n < n := Nat.mod_lt _ (by omega)
  have hs : nI (n - 1) - nI (e % n) = nI (n - 1 - e % n) := pk_sub (by omega)
  rcases sm_four o4 with hk | hk | hk | hk
  · rw [hk] at h86 ⊢
    exact br_t rfl (br_t rfl (h86 _ _ (by unfold sm_opr; rw [hk]; rfl) (by unfold sm_opc; rw [hk]; rfl)))
  · rw [hk] at h86 ⊢
    exact br_f (by decide) (br_t rfl (br_f (by decide) (br_t rfl (h86 _ _ (by unfold sm_opr; rw [hk]; rfl) (by unfold sm_opc; rw [hk]; rfl)))))
  · rw [hk] at h86 ⊢
    exact br_f (by decide) (br_f (by decide) (br_t rfl (br_f (by decide) (br_f (by decide) (br_t rfl (h86 _ _ (by unfold sm_opr; rw [hk]; rfl) (by unfold sm_opc; rw [hk, hs]; rfl)))))))
  · rw [hk] at h86 ⊢
    exact br_f (by decide) (br_f (by decide) (br_f (by decide) (br_f (by decide) (br_f (by decide) (br_f (by decide) (h86 _ _ (by unfold sm_opr; rw [hk, hs]; rfl) (by unfold sm_opc; rw [hk]; rfl)))))))
theorem sx_endOfPath {t : Nat} {x y : Int32} (h1 : 1 ≤ n) (h5 : n ≤ 5) (hq : sm_SQ n en s dg) (hon : ∀ t, t < 4 * (n * n) → on t = sm_onX n dg t) (ht4 : t < 4 * (n * n)) (hx : x = nI s) (hy : y = nI t) (hp : post (sm_e (sm_end on n (n * n) t))) :
    wpX_endOfPath post (nI n, nI (n * n), gc, fc, en, st, al, hd, dr) x y := by
  subst hx hy
  have hnn := sm_nn h5
  refine ⟨n * n + 1, ?_⟩
  have key : ∀ f i t, i + f = n * n → t < 4 * (n * n) → post (sm_e (sm_end on n f t)) → wX_endOfPath_5 post (nI s) (nI n) (nI (n * n)) gc fc en st al hd dr (f + 1) (nI t) (nI i) := by
    intro f
    induction f with
    | zero =>
      intro i t hi ht hp
      refine br_t (nI_le (by omega) (by omega)) ?_
      rw [← sm_e0]
      exact hp
    | succ f ih =>
      intro i t hi ht hp
      have hw := sm_wy_lt on ht
      have ho := sm_out_le hw
      rw [sm_end_S] at hp
      refine br_f (nI_ge (by omega) (by omega)) (sx_wayOn h1 h5 hq hon ht rfl rfl (sx_outerNumber h1 h5 hw rfl ?_))
      cases h : sm_out n (sm_wy on t) with
      | zero =>
        rw [h] at hp
        exact br_t (by decide) (sx_portAcross h5 hw rfl h (nm_r (nI_1 i) (ih (i + 1) _ (by omega) (sm_acr_lt hw h) hp)))
      | succ e =>
        rw [h] at hp
        exact br_f (fun z => absurd ((sm_e_neg (by omega)).mp z) (by omega)) hp
  exact key (n * n) 0 t (by omega) ht4 hp
theorem sx_isFirst {d : Nat} {x y : Int32} (h1 : 1 ≤ n) (h5 : n ≤ 5) (hq : sm_SQ n en s dg) (hon : ∀ t, t < 4 * (n * n) → on t = sm_onX n dg t) (hd2 : d < n * n) (hx : x = nI s) (hy : y = nI d)
    (ht : sm_fr on n d (n * n) (sm_f0 on d) = true → post 1) (hf : sm_fr on n d (n * n) (sm_f0 on d) = false → post 0) :
    wpX_isFirstOfRing post (nI n, nI (n * n), gc, fc, en, st, al, hd, dr) x y := by
  subst hx hy
  have hnn := sm_nn h5
  have key : ∀ f i t, i + f = n * n → t < 4 * (n * n) → (sm_fr on n d f t = true → post 1) → (sm_fr on n d f t = false → post 0) → wX_isFirstOfRing_23 post (nI s) (nI d) (nI n) (nI (n * n)) gc fc en st al hd dr (f + 1) (nI t) (nI i) := by
    intro f
    induction f with
    | zero =>
      intro i t hi ht _ hf
      exact br_t (nI_le (by omega) (by omega)) (hf rfl)
    | succ f ih =>
      intro i t hi ht hpt hpf
      have hw := sm_wy_lt on ht
      have ho := sm_out_le hw
      rw [sm_fr_S] at hpt hpf
      refine br_f (nI_ge (by omega) (by omega)) (sx_wayOn h1 h5 hq hon ht rfl rfl (sx_outerNumber h1 h5 hw rfl ?_))
      cases h : sm_out n (sm_wy on t) with
      | zero =>
        rw [h] at hpt hpf
        have ha := sm_acr_lt hw h
        refine br_t (by decide) (sx_portAcross h5 hw rfl h ⟨by decide, ?_⟩)
        rw [sm_t4 (by omega)]
        refine pk_le d (sm_acr n (sm_wy on t) / 4) (fun z => ⟨by decide, pk_eq (sm_acr n (sm_wy on t) / 4) d (fun z2 => hpt ?_) (fun z2 => ?_)⟩) (fun z => hpf ?_)
        · show (bif Nat.ble _ _ then false else bif Nat.beq _ _ then true else _) = true
          rw [sm_beq_t z2, show Nat.ble (sm_acr n (sm_wy on t) / 4 + 1) d = false from by
            cases q : Nat.ble (sm_acr n (sm_wy on t) / 4 + 1) d with
            | false => rfl
            | true => exact absurd (Nat.le_of_ble_eq_true q) (by omega)]
          rfl
        · have e1 : Nat.ble (sm_acr n (sm_wy on t) / 4 + 1) d = false := by
            cases q : Nat.ble (sm_acr n (sm_wy on t) / 4 + 1) d with
            | false => rfl
            | true => exact absurd (Nat.le_of_ble_eq_true q) (by omega)
          rw [e1, sm_beq_f z2] at hpt hpf
          exact nm_r (nI_1 i) (ih (i + 1) _ (by omega) ha hpt hpf)
        · show (bif Nat.ble _ _ then false else _) = false
          rw [show Nat.ble (sm_acr n (sm_wy on t) / 4 + 1) d = true from Nat.ble_eq_true_of_le (by omega)]
          rfl
      | succ e =>
        rw [h] at hpf
        exact br_f (fun z => absurd ((sm_e_neg (by omega)).mp z) (by omega)) (hpf rfl)
  have e4 : nI d * 4 = nI (d * 4) := pk_mul d 4
  have hb : d * 4 < 4 * (n * n) := by omega
  refine nm_r e4 (sx_isOn h1 h5 hq hb rfl rfl ?_ ?_)
  · intro z
    unfold sm_f0 at ht hf
    rw [hon _ hb, z] at ht hf
    exact br_f (by decide) ⟨_, key (n * n) 0 (d * 4) (by omega) hb ht hf⟩
  · intro z
    unfold sm_f0 at ht hf
    rw [hon _ hb, z] at ht hf
    exact br_t rfl (sx_wayOn h1 h5 hq hon hb rfl rfl ⟨_, key (n * n) 0 _ (by omega) (sm_wy_lt on hb) ht hf⟩)
theorem sx_patternOf {x : Int32} (h1 : 1 ≤ n) (h5 : n ≤ 5) (hq : sm_SQ n en s dg) (hP : sm_Path n dg on) (hx : x = nI s) (hp : post (sm_pat on n (4 * n) 0 0)) :
    wpX_patternOf post (nI n, nI (n * n), gc, fc, en, st, al, hd, dr) x := by
  subst hx
  have hon : ∀ t, t < 4 * (n * n) → on t = sm_onX n dg t := fun t ht => (hP.1 t ht).1
  refine ⟨4 * n + 1, ?_⟩
  have e4 : (4 : Int32) * nI n = nI (4 * n) := pk_mul 4 n
  have key : ∀ k e a, e + k = 4 * n → post (sm_pat on n k e a) → wX_patternOf_4 post (nI s) (nI n) (nI (n * n)) gc fc en st al hd dr (k + 1) a (nI e) := by
    intro k
    induction k with
    | zero =>
      intro e a he hp
      refine br_t ?_ hp
      rw [e4]
      exact nI_le (by omega) (by omega)
    | succ k ih =>
      intro e a he hp
      have he4 : e < 4 * n := by omega
      have hb := sm_op_lt h5 he4
      rw [sm_pat] at hp
      refine br_f ?_ (sx_outerPort h1 h5 he4 rfl (sx_isOn h1 h5 hq hb rfl rfl ?_ ?_))
      · rw [e4]
        exact nI_ge he4 (by omega)
      · intro z
        have z2 : on (sm_op n e) = true := (hon _ hb).trans z
        rw [z2] at hp
        have hle := (hP.2.1 e he4 z2).2
        refine br_f (by decide) (sx_endOfPath h1 h5 hq hon hb rfl rfl ?_)
        rw [sm_e_le (by omega) (by omega)]
        refine br_c (fun w => nm_e (nm_r (nI_1 e) (ih (e + 1) _ (by omega) ?_))) (fun w => nm_e (nm_r (nI_1 e) (ih (e + 1) _ (by omega) ?_)))
        · rw [if_pos w] at hp
          exact hp
        · rw [if_neg w] at hp
          exact hp
      · intro z
        have z2 : on (sm_op n e) = false := (hon _ hb).trans z
        rw [z2] at hp
        exact br_t rfl (nm_r (nI_1 e) (ih (e + 1) a (by omega) hp))
  exact key (4 * n) 0 0 (by omega) hp
end
end
section
/-! Y: the search -/
theorem sm_lt1 {s : Int32} : (¬ s < 1 ∧ ¬ 1 < s) ↔ s = 1 := by
  have h1 : (1 : Int32).toInt = 1 := by decide
  rw [Int32.lt_iff_toInt_lt, Int32.lt_iff_toInt_lt]
  constructor
  · rintro ⟨a, b⟩
    exact Int32.toInt_inj.mp (by omega)
  · rintro rfl
    omega
theorem sm_lt0 {s : Int32} : (¬ s < 0 ∧ ¬ 1 < s) ↔ (s = 0 ∨ s = 1) := by
  rw [← sm_01, Int32.not_lt, Int32.not_lt]
theorem sm_okI_Y {n c : Nat} (hc : c < n) {s : Int32} : sm_okI n c s ↔ (¬ s < (if c + 1 = n then 1 else 0) ∧ ¬ 1 < s) := by
  unfold sm_okI
  by_cases e : c + 1 = n
  · rw [if_pos e, sm_lt1]
    exact ⟨fun h => h.elim id (fun w => absurd w.2 (by omega)), Or.inl⟩
  · rw [if_neg e, sm_lt0]
    exact ⟨fun h => h.elim Or.inr (fun w => Or.inl w.1), fun h => h.elim (fun w => Or.inr ⟨w, by omega⟩) Or.inl⟩
theorem sm_pl_cr {n r c : Nat} (hc : c < n) : sm_pl n (c + r * n) = 5 * r + c := by
  rw [Nat.add_comm]
  exact sm_pl_rc hc
theorem sm_5 (r c : Nat) : (5 : Int32) * nI r + nI c = nI (5 * r + c) := by
  rw [show (5 : Int32) = nI 5 from rfl, pk_mul, nI_add]
theorem sm_d5 {p : Nat} (hp : p < 1000) : nI p / 5 = nI (p / 5) := pk_div (d := 5) (by omega) (by decide) (by decide)
theorem sm_m5 {p : Nat} (hp : p < 1000) : nI p - nI p / 5 * 5 = nI (p % 5) := pk_rem (d := 5) (by omega) (by decide) (by decide)
theorem sm_pl_d {n q : Nat} (hn : n ≤ 5) (h : q < n * n) : sm_pl n q / 5 = q / n := by
  have := sm_q_c h
  unfold sm_pl
  omega
theorem sm_pl_m {n q : Nat} (hn : n ≤ 5) (h : q < n * n) : sm_pl n q % 5 = q % n := by
  have := sm_q_c h
  unfold sm_pl
  omega
section
variable {post : Int32 → Prop} {sz dp : Int32} {al hd sq fo ot pa : Nat → Int32} {n : Nat}
theorem sy_isPlace (h5 : n ≤ 5) {a b : Int32} (hf : (∀ i j, i < n → j < n → a = nI i → b = nI j → False) → post 0) (ht : ∀ i j, i < n → j < n → a = nI i → b = nI j → post 1) :
    wpY_isPlace post (nI n, dp, al, hd, sq, fo, ot, pa) a b := by
  refine sm_gate (n := n) (by omega) (fun h => hf (fun i j hi _ e _ => h i hi e)) (fun i hi e => ?_)
  exact sm_gate (n := n) (by omega) (fun h => hf (fun _ j _ hj _ e2 => h j hj e2)) (fun j hj e2 => ht i j hi hj e e2)
theorem sy_placeAt {d : Nat} {x : Int32} (h1 : 1 ≤ n) (h5 : n ≤ 5) (hd2 : d < 100) (hx : x = nI d) (hp : post (nI (sm_pl n d))) :
    wpY_placeAt post (nI n, dp, al, hd, sq, fo, ot, pa) x := by
  subst hx
  have n0 : ¬ nI n = 0 := nI_ne0 (by omega) (by omega)
  refine ⟨n0, n0, ?_⟩
  rw [pk_rem (by omega) (by omega) (by omega), pk_div (by omega) (by omega) (by omega), sm_5]
  exact hp
theorem sy_goesOn {r c : Nat} {x y : Int32} (h1 : 1 ≤ n) (h5 : n ≤ 5) (hr : r < n) (hc : c < n) (hx : x = nI r) (hy : y = nI c)
    (ht : sm_T n (sm_pl n) sq r c → ((al (5 * r + c)) >>> (((sq (5 * r + c)) + 1) &&& 31)) &&& 1 = 1 → post 1)
    (hf : ¬ (sm_T n (sm_pl n) sq r c ∧ ((al (5 * r + c)) >>> (((sq (5 * r + c)) + 1) &&& 31)) &&& 1 = 1) → post 0) :
    wpY_goesOn post (nI n, dp, al, hd, sq, fo, ot, pa) x y := by
  subst hx hy
  refine loop_0 (fun k i a => wY_goesOn_8 post (nI r) (nI c) 0 (nI n) dp al hd sq fo ot pa k a (nI i)) (fun i a => a = sm_sum (fun j => sq (sm_pl n (r * n + j))) i) (c + 1) 0 rfl ?_ ?_
  · rintro k R rfl
    refine br_t (nI_lt (by omega) (by omega)) ?_
    refine loop_0 (fun k i a => wY_goesOn_37 post (nI r) (nI c) (sm_sum (fun j => sq (sm_pl n (r * n + j))) (c + 1)) (nI n) dp al hd sq fo ot pa k a (nI i)) (fun i a => a = sm_sum (fun j => sq (sm_pl n (c + j * n))) i) (r + 1) 0 rfl ?_ ?_
    · rintro k K rfl
      refine br_t (nI_lt (by omega) (by omega)) ?_
      have c5 : (nI (5 * r + c)).toNatClampNeg = 5 * r + c := nI_clamp (by omega)
      have no : ¬ sm_T n (sm_pl n) sq r c → wY_goesOn_120 post (nI r) (nI c) 0 (nI n) dp al hd sq fo ot pa := fun h => br_t rfl (hf (fun q => h q.1))
      have yes : sm_T n (sm_pl n) sq r c → wY_goesOn_120 post (nI r) (nI c) 1 (nI n) dp al hd sq fo ot pa := by
        intro h
        refine br_f (by decide) ?_
        rw [sm_5, c5]
        exact ⟨vp_in_nI (by omega) (by decide), vp_in_nI (by omega) (by decide), br_c (fun z => ht h z) (fun z => hf (fun q => z q.2))⟩
      have col : sm_okI n c (sm_sum (fun j => sq (sm_pl n (r * n + j))) (c + 1)) → ∀ z0, z0 = (if r + 1 = n then (1 : Int32) else 0) → wY_goesOn_106 post (nI r) (nI c) (sm_sum (fun j => sq (sm_pl n (c + j * n))) (r + 1)) z0 (sm_sum (fun j => sq (sm_pl n (c + j * n))) (r + 1)) (nI n) dp al hd sq fo ot pa := by
        rintro h _ rfl
        refine br_c (fun z => no (fun q => ((sm_okI_Y hr).mp q.2).1 z)) (fun z => br_c (fun w => no (fun q => ((sm_okI_Y hr).mp q.2).2 w)) (fun w => yes ⟨h, (sm_okI_Y hr).mpr ⟨z, w⟩⟩))
      have row : ∀ z0, z0 = (if c + 1 = n then (1 : Int32) else 0) → wY_goesOn_81 post (nI r) (nI c) (sm_sum (fun j => sq (sm_pl n (r * n + j))) (c + 1)) (sm_sum (fun j => sq (sm_pl n (c + j * n))) (r + 1)) z0 (sm_sum (fun j => sq (sm_pl n (r * n + j))) (c + 1)) (nI n) dp al hd sq fo ot pa := by
        rintro _ rfl
        refine br_c (fun z => no (fun q => ((sm_okI_Y hc).mp q.1).1 z)) (fun z => br_c (fun w => no (fun q => ((sm_okI_Y hc).mp q.1).2 w)) (fun w => ?_))
        rw [sm_n1 h1]
        exact pk_eq r (n - 1) (fun e => col ((sm_okI_Y hc).mpr ⟨z, w⟩) _ (by rw [if_pos (by omega)])) (fun e => col ((sm_okI_Y hc).mpr ⟨z, w⟩) _ (by rw [if_neg (by omega)]))
      rw [sm_n1 h1]
      exact pk_eq c (n - 1) (fun e => row _ (by rw [if_pos (by omega)])) (fun e => row _ (by rw [if_neg (by omega)]))
    · rintro k i a hi rfl hk
      refine br_f (nI_nlt (by omega) (by omega)) ?_
      rw [sm_5, nI_clamp (by omega)]
      refine ⟨vp_in_nI (by omega) (by decide), nm_e (nm_r (nI_1 i) (hk _ ?_))⟩
      rw [← sm_pl_cr hc]
      rfl
  · rintro k i a hi rfl hk
    refine br_f (nI_nlt (by omega) (by omega)) ?_
    rw [sm_5, nI_clamp (by omega)]
    refine ⟨vp_in_nI (by omega) (by decide), nm_e (nm_r (nI_1 i) (hk _ ?_))⟩
    rw [← sm_pl_rc (n := n) (by omega)]
    rfl
theorem sy_advance {post : Int32 → SY → Prop} {A : Nat → Int32} {L : List (List Nat)} (h1 : 1 ≤ n) (h5 : n ≤ 5) (hA : ∀ q, q < n * n → al (sm_pl n q) = A q) (hpos : sm_pos n A dp sq L)
    (ht : ∀ v L' sq', L = v :: L' → v.length = n * n → sm_wd v → sm_ag (sm_pl n) sq' v → sm_pos n A (nI (n * n)) sq' L' → post 1 (nI n, nI (n * n), al, hd, sq', fo, ot, pa))
    (hf : ∀ dp' sq', L = [] → post 0 (nI n, dp', al, hd, sq', fo, ot, pa)) :
    wpY_advance post (nI n, dp, al, hd, sq, fo, ot, pa) := by
  have hnn := sm_nn h5
  have hn1 := sm_nn1 h1
  have key := sm_advY h1 h5 A (fun p sq => ∃ k, wY_advance_28 post (nI (n * n)) (nI n) k (nI p) al hd sq fo ot pa)
    (fun sq => post 1 (nI n, nI (n * n), al, hd, sq, fo, ot, pa)) (fun sq => post 0 (nI n, nI 0 - 1, al, hd, sq, fo, ot, pa))
    (by
      intro p sq hp h hW hF
      have hl := sm_pl_lt h5 hp
      have c1 : (nI (sm_pl n p)).toNatClampNeg = sm_pl n p := nI_clamp (by omega)
      have eu : upd sq (nI (sm_pl n p)).toNatClampNeg (sq (nI (sm_pl n p)).toNatClampNeg + 1) = upd sq (sm_pl n p) 2 := by
        rw [c1, h]
        rfl
      have hin : vp_in (nI (sm_pl n p)) 25 := vp_in_nI hl (by decide)
      have n2 : ¬ upd sq (sm_pl n p) 2 (nI (sm_pl n p)).toNatClampNeg ≤ 1 := by
        rw [c1, pk_us]
        decide
      cases p with
      | zero =>
        refine ⟨2, br_f (nI_pos (by omega)) (br_f (nI_ge (by omega) (by omega)) (sy_placeAt h1 h5 (by omega) rfl ⟨hin, hin, nm_r eu ⟨hin, br_f n2 (nm_e ?_)⟩⟩))⟩
        refine br_t (by decide) (br_f ?_ (hF rfl))
        intro z
        have hz : nI 0 - 1 < 0 := by decide
        rw [z] at hz
        exact nI_pos (by omega) hz
      | succ p =>
        obtain ⟨k, hk⟩ := hW p rfl
        exact ⟨k + 1, br_f (nI_pos (by omega)) (br_f (nI_ge (by omega) (by omega)) (sy_placeAt h1 h5 (by omega) rfl ⟨hin, hin, nm_r eu ⟨hin, br_f n2 (nm_r (nI_pred p) hk)⟩⟩))⟩)
    (by
      intro r c sq j hr hc hj h hT hW hX
      have hp := sm_rc_lt hr hc
      have hl := sm_pl_lt h5 hp
      have c1 : (nI (sm_pl n (r * n + c))).toNatClampNeg = sm_pl n (r * n + c) := nI_clamp (by omega)
      have eu : upd sq (nI (sm_pl n (r * n + c))).toNatClampNeg (sq (nI (sm_pl n (r * n + c))).toNatClampNeg + 1) = upd sq (sm_pl n (r * n + c)) (sm_e (2 - j)) := by
        rw [c1, h, sm_c_up, sm_c_e hj]
      have hin : vp_in (nI (sm_pl n (r * n + c))) 25 := vp_in_nI hl (by decide)
      have n2 : upd sq (sm_pl n (r * n + c)) (sm_e (2 - j)) (nI (sm_pl n (r * n + c))).toNatClampNeg ≤ 1 := by
        rw [c1, pk_us]
        exact (sm_e_le (e := 1) (by omega) (by omega)).mpr (by omega)
      have g1 : nI (sm_pl n (r * n + c)) / 5 = nI r := by rw [sm_d5 (by omega), sm_pl_d h5 hp, sm_rd hc]
      have g2 : nI (sm_pl n (r * n + c)) - nI (sm_pl n (r * n + c)) / 5 * 5 = nI c := by rw [sm_m5 (by omega), sm_pl_m h5 hp, sm_rmd hc]
      have hal : ((al (5 * r + c)) >>> (((upd sq (sm_pl n (r * n + c)) (sm_e (2 - j)) (5 * r + c)) + 1) &&& 31)) &&& 1 = 1 := by
        have := sm_al_t.mp hT.2
        rw [← sm_pl_rc hc, pk_us, hA _ hp, sm_e_def, Int32.sub_add_cancel]
        exact this
      by_cases e : r * n + c + 1 = n * n
      · refine ⟨2, br_f (nI_pos (by omega)) (br_f (nI_ge (by omega) (by omega)) (sy_placeAt h1 h5 (by omega) rfl ⟨hin, hin, nm_r eu ⟨hin, br_t n2 ⟨by decide, by decide, sy_goesOn h1 h5 hr hc g1 g2 (fun _ _ => br_f (by decide) (nm_r (nI_1 (r * n + c)) ?_)) (fun z => absurd ⟨hT.1, hal⟩ z)⟩⟩⟩))⟩
        rw [e]
        refine br_t (nI_le (Nat.le_refl _) (by omega)) ?_
        exact br_f (nI_pos (by omega)) (br_t (nI_le (Nat.le_refl _) (by omega)) (br_t rfl (hX e)))
      · obtain ⟨k, hk⟩ := hW (by omega)
        have hl2 := sm_pl_lt h5 (q := r * n + c + 1) (by omega)
        refine ⟨k + 1, br_f (nI_pos (by omega)) (br_f (nI_ge (by omega) (by omega)) (sy_placeAt h1 h5 (by omega) rfl ⟨hin, hin, nm_r eu ⟨hin, br_t n2 ⟨by decide, by decide, sy_goesOn h1 h5 hr hc g1 g2 (fun _ _ => br_f (by decide) (nm_r (nI_1 (r * n + c)) (br_f (nI_ge (by omega) (by omega)) (sy_placeAt h1 h5 (d := r * n + c + 1) (by omega) rfl ⟨vp_in_nI hl2 (by decide), nm_e ?_⟩)))) (fun z => absurd ⟨hT.1, hal⟩ z)⟩⟩⟩))⟩
        rw [nI_clamp (by omega)]
        exact hk)
    (by
      intro r c sq j hr hc hj h hT hW
      have hp := sm_rc_lt hr hc
      have hl := sm_pl_lt h5 hp
      have c1 : (nI (sm_pl n (r * n + c))).toNatClampNeg = sm_pl n (r * n + c) := nI_clamp (by omega)
      have eu : upd sq (nI (sm_pl n (r * n + c))).toNatClampNeg (sq (nI (sm_pl n (r * n + c))).toNatClampNeg + 1) = upd sq (sm_pl n (r * n + c)) (sm_e (2 - j)) := by
        rw [c1, h, sm_c_up, sm_c_e hj]
      have hin : vp_in (nI (sm_pl n (r * n + c))) 25 := vp_in_nI hl (by decide)
      have n2 : upd sq (sm_pl n (r * n + c)) (sm_e (2 - j)) (nI (sm_pl n (r * n + c))).toNatClampNeg ≤ 1 := by
        rw [c1, pk_us]
        exact (sm_e_le (e := 1) (by omega) (by omega)).mpr (by omega)
      have g1 : nI (sm_pl n (r * n + c)) / 5 = nI r := by rw [sm_d5 (by omega), sm_pl_d h5 hp, sm_rd hc]
      have g2 : nI (sm_pl n (r * n + c)) - nI (sm_pl n (r * n + c)) / 5 * 5 = nI c := by rw [sm_m5 (by omega), sm_pl_m h5 hp, sm_rmd hc]
      have no : ¬ (sm_T n (sm_pl n) (upd sq (sm_pl n (r * n + c)) (sm_e (2 - j))) r c ∧ ((al (5 * r + c)) >>> (((upd sq (sm_pl n (r * n + c)) (sm_e (2 - j)) (5 * r + c)) + 1) &&& 31)) &&& 1 = 1) := by
        rintro ⟨z1, z2⟩
        rw [← sm_pl_rc hc, pk_us, hA _ hp, sm_e_def, Int32.sub_add_cancel] at z2
        exact hT ⟨z1, sm_al_t.mpr z2⟩
      obtain ⟨k, hk⟩ := hW
      exact ⟨k + 1, br_f (nI_pos (by omega)) (br_f (nI_ge (by omega) (by omega)) (sy_placeAt h1 h5 (by omega) rfl ⟨hin, hin, nm_r eu ⟨hin, br_t n2 ⟨by decide, by decide, sy_goesOn h1 h5 hr hc g1 g2 (fun z1 z2 => absurd ⟨z1, z2⟩ no) (fun _ => br_t rfl hk)⟩⟩⟩))⟩)
    (L := L) (fun v L' sq' a b c d e => ht v L' sq' a b c d (Or.inr ⟨rfl, v, b, c, d, e⟩)) (fun sq' a => hf _ sq' a)
  refine nm_r (pk_mul n n) ?_
  rcases hpos with ⟨a, b, c⟩ | ⟨a, v, b, c, d, e⟩
  · subst a
    refine br_f (fun z => nI_ne0 (by omega) (by omega) z.symm) ?_
    have := key (n * n - 1) [] 3 sq (by rw [List.length_nil]; omega) (by omega) sm_wd_nil sm_ag_nil ?_ ?_
    · exact this
    · rw [List.length_nil, show sm_pl n 0 = 0 from by unfold sm_pl; rw [Nat.zero_div, Nat.zero_mod], b, sm_c3]
    · rw [sm_rem_all, show n * n - 1 + 1 = n * n by omega, sm_F_gen, c]
  · subst a
    cases v with
    | nil =>
      rw [List.length_nil] at b
      omega
    | cons x w =>
      rw [List.length_cons] at b
      have e1 : nI (n * n) - 1 = nI w.length := by
        rw [← b]
        exact nI_pred w.length
      refine br_t rfl (nm_r e1 ?_)
      refine key 0 w (2 - x) sq (by omega) (by omega) (sm_wd_tail c) (sm_ag_tail d) ?_ ?_
      · rw [sm_ag_head d]
        exact sm_e_c (sm_wd_head c)
      · rw [← sm_rest_rem]
        exact e
theorem sm_pos_begin {A : Nat → Int32} : sm_pos n A 0 (upd sq 0 (-2)) (sm_F n A) := Or.inl ⟨rfl, pk_us, rfl⟩
end
end
section
/-! Y: a square by its number, the number of a square, what is read of the square at hand of the search -/
theorem sm_drop_nil {F : List (List Nat)} {i : Nat} (h : F.drop i = []) : F.length ≤ i := List.drop_eq_nil_iff.mp h
theorem sm_drop_cons {F L : List (List Nat)} {v : List Nat} {i : Nat} (h : F.drop i = v :: L) : i < F.length ∧ F[i]? = some v ∧ F.drop (i + 1) = L := by
  have h1 : i < F.length := by
    apply Nat.lt_of_not_le
    intro z
    rw [List.drop_eq_nil_of_le z] at h
    cases h
  rw [List.drop_eq_getElem_cons h1] at h
  injection h with ha hb
  exact ⟨h1, by rw [List.getElem?_eq_getElem h1, ha], hb⟩
theorem sm_25 {i : Nat} (h : i < 25) : ¬ (25 : Int32) ≤ nI i := nI_ge (b := 25) h (by decide)
theorem sm_25e : (25 : Int32) ≤ nI 25 := nI_le (a := 25) (b := 25) (Nat.le_refl _) (by decide)
section
variable {sz dp : Int32} {al hd sq fo ot pa : Nat → Int32} {n : Nat}
theorem sy_copy {post : Int32 → SY → Prop} {x : Int32} (hx : ¬ x < 0) (hp : ∀ fo', (∀ p, p < 25 → fo' p = sq p) → post 1 (sz, dp, al, hd, sq, fo', ot, pa)) :
    ∃ k, wY_find_28 post x sz dp k 0 al hd sq fo ot pa := by
  refine loop_0 (fun k i f => wY_find_28 post x sz dp k (nI i) al hd sq f ot pa) (fun i f => ∀ p, p < i → f p = sq p) 25 fo (fun p h => absurd h (Nat.not_lt_zero p)) ?_ ?_
  · intro k f h
    exact br_t sm_25e (br_f hx (hp f h))
  · intro k i f hi h hk
    refine br_f (sm_25 hi) (br_f hx ?_)
    rw [nI_clamp (by omega)]
    refine ⟨vp_in_nI hi (by decide), vp_in_nI hi (by decide), nm_e (nm_r (nI_1 i) (hk _ ?_))⟩
    intro p hp2
    by_cases e : p = i
    · subst e
      rw [pk_us]
    · rw [pk_un e]
      exact h p (by omega)
theorem sy_find {post : Int32 → SY → Prop} {A : Nat → Int32} {x : Int32} (h1 : 1 ≤ n) (h5 : n ≤ 5) (hA : ∀ q, q < n * n → al (sm_pl n q) = A q)
    (hf : (∀ j, j < (sm_F n A).length → x ≠ nI j) → ∀ dp' sq' fo', post 0 (nI n, dp', al, hd, sq', fo', ot, pa))
    (ht : ∀ j v, j < (sm_F n A).length → x = nI j → (sm_F n A)[j]? = some v → ∀ dp' sq' fo', (∀ q, q < n * n → fo' (sm_pl n q) = sm_e (sm_dg v q)) → post 1 (nI n, dp', al, hd, sq', fo', ot, pa)) :
    wpY_find post (nI n, dp, al, hd, sq, fo, ot, pa) x := by
  refine nm_e ?_
  have hFl := sm_F_len (A := A) h1 h5
  by_cases h0 : x < 0
  · refine ⟨1, br_t h0 ⟨1, br_f (sm_25 (i := 0) (by decide)) (br_t h0 (br_t h0 (hf ?_ _ _ _)))⟩⟩
    rintro j hj rfl
    exact nI_pos (by omega) h0
  · obtain ⟨K, hK, rfl⟩ := nI_of h0
    have key : ∀ (L : List (List Nat)) (i k : Nat) dp sq, L.length < k → i ≤ K → sm_pos n A dp sq L → (sm_F n A).drop i = L → wY_find_6 post (nI K) k (nI i) (nI n) dp al hd sq fo ot pa := by
      intro L
      induction L with
      | nil =>
        intro i k dp sq hk hi hpos hd2
        obtain ⟨k, rfl⟩ : ∃ m, k = m + 1 := ⟨k - 1, by omega⟩
        have := sm_drop_nil hd2
        refine br_f (nI_nlt hi hK) (sy_advance h1 h5 hA hpos (fun v L' sq' z => by cases z) (fun dp' sq' _ => br_t rfl (hf ?_ _ _ _)))
        intro j hj z
        have := (nI_eq hK (by omega)).mp z
        omega
      | cons v L ih =>
        intro i k dp sq hk hi hpos hd2
        rw [List.length_cons] at hk
        obtain ⟨k, rfl⟩ : ∃ m, k = m + 1 := ⟨k - 1, by omega⟩
        obtain ⟨d1, d2, d3⟩ := sm_drop_cons hd2
        refine br_f (nI_nlt hi hK) (sy_advance h1 h5 hA hpos (fun v2 L' sq' z zl zw za zp => ?_) (fun dp' sq' z => by cases z))
        injection z with z1 z2
        subst z1 z2
        refine br_f (by decide) (nm_r (nI_1 i) ?_)
        by_cases e : i = K
        · subst e
          obtain ⟨k, rfl⟩ : ∃ m, k = m + 1 := ⟨k - 1, by omega⟩
          refine br_t (nI_lt (by omega) (by omega)) (sy_copy h0 (fun fo' hfo => ht i v d1 rfl d2 _ _ fo' (fun q hq => ?_)))
          rw [hfo _ (sm_pl_lt h5 hq)]
          exact za q (by omega)
        · exact ih (i + 1) k _ _ (by omega) (by omega) zp d3
    exact ⟨_, key (sm_F n A) 0 _ 0 (upd sq 0 (-2)) (Nat.lt_succ_self _) (Nat.zero_le _) sm_pos_begin (List.drop_zero)⟩
theorem sm_bools {x : Int32} (h : x = 0 ∨ x = 1) : narrow .boolean (.int x) = .int x := by
  rcases h with rfl | rfl <;> rfl
/-- the flag says whether all before i hold -/
def sm_flag (P : Nat → Prop) (i : Nat) (x : Int32) : Prop := (x = 1 ∧ ∀ q, q < i → P q) ∨ (x = 0 ∧ ¬ ∀ q, q < i → P q)
theorem sm_flag_0 {P : Nat → Prop} : sm_flag P 0 1 := Or.inl ⟨rfl, fun q h => absurd h (Nat.not_lt_zero q)⟩
theorem sm_flag_off {P : Nat → Prop} {i : Nat} {x : Int32} (h : sm_flag P i x) (hx : x = 0) : sm_flag P (i + 1) 0 := by
  rcases h with h | h
  · rw [h.1] at hx
    exact absurd hx (by decide)
  · exact Or.inr ⟨rfl, fun z => h.2 (fun q hq => z q (by omega))⟩
theorem sm_flag_t {P : Nat → Prop} {i : Nat} {x : Int32} (h : sm_flag P i x) (hx : ¬ x = 0) (hP : P i) : sm_flag P (i + 1) 1 := by
  rcases h with h | h
  · refine Or.inl ⟨rfl, fun q hq => ?_⟩
    by_cases e : q = i
    · subst e
      exact hP
    · exact h.2 q (by omega)
  · exact absurd h.1 hx
theorem sm_flag_f {P : Nat → Prop} {i : Nat} (hP : ¬ P i) : sm_flag P (i + 1) 0 := Or.inr ⟨rfl, fun z => hP (z i (by omega))⟩
theorem sy_isSquare {post : Int32 → Prop} {x : Int32} {g : Nat → Int32} (h1 : 1 ≤ n) (h5 : n ≤ 5) (hg : (x = 0 ∧ g = ot) ∨ (¬ x = 0 ∧ g = hd))
    (ht : (∀ q, q < n * n → sq (sm_pl n q) = g (sm_pl n q)) → post 1) (hf : (¬ ∀ q, q < n * n → sq (sm_pl n q) = g (sm_pl n q)) → post 0) :
    wpY_isSquare post (nI n, dp, al, hd, sq, fo, ot, pa) x := by
  have hnn := sm_nn h5
  have e2 : nI n * nI n = nI (n * n) := pk_mul n n
  refine loop_0 (fun k i y => wY_isSquare_4 post x (nI n) dp al hd sq fo ot pa k y (nI i)) (fun i y => sm_flag (fun q => sq (sm_pl n q) = g (sm_pl n q)) i y) (n * n) 1 sm_flag_0 ?_ ?_
  · intro k y h
    refine br_t ?_ ⟨sm_bools (h.elim (fun w => Or.inr w.1) (fun w => Or.inl w.1)), ?_⟩
    · rw [e2]
      exact nI_le (Nat.le_refl _) (by omega)
    · rcases h with h | h
      · rw [h.1]
        exact ht h.2
      · rw [h.1]
        exact hf h.2
  · intro k i y hi h hk
    have hl := sm_pl_lt h5 hi
    refine br_f ?_ (sy_placeAt h1 h5 (by omega) rfl (br_c (fun z => nm_r (nI_1 i) (hk _ (sm_flag_off h z))) (fun z => ?_)))
    · rw [e2]
      exact nI_ge hi (by omega)
    · rw [nI_clamp (by omega)]
      refine ⟨vp_in_nI hl (by decide), ?_⟩
      rcases hg with ⟨gx, rfl⟩ | ⟨gx, rfl⟩
      · exact br_t gx ⟨vp_in_nI hl (by decide), br_c (fun w => nm_r (nI_1 i) (hk _ (sm_flag_t h z w))) (fun w => nm_r (nI_1 i) (hk _ (sm_flag_f w)))⟩
      · exact br_f gx ⟨vp_in_nI hl (by decide), br_c (fun w => nm_r (nI_1 i) (hk _ (sm_flag_t h z w))) (fun w => nm_r (nI_1 i) (hk _ (sm_flag_f w)))⟩
def sm_eqP (n : Nat) (g : Nat → Int32) (v : List Nat) : Bool := decide (∀ q, q < n * n → sm_e (sm_dg v q) = g (sm_pl n q))
theorem sy_numberOf {post : Int32 → SY → Prop} {A : Nat → Int32} {x : Int32} {g : Nat → Int32} (h1 : 1 ≤ n) (h5 : n ≤ 5) (hA : ∀ q, q < n * n → al (sm_pl n q) = A q) (hg : (x = 0 ∧ g = ot) ∨ (¬ x = 0 ∧ g = hd))
    (hp : ∀ dp' sq', post (sm_first (-2) (sm_eqP n g) (sm_F n A) 0) (nI n, dp', al, hd, sq', fo, ot, pa)) :
    wpY_numberOf post (nI n, dp, al, hd, sq, fo, ot, pa) x := by
  refine nm_e ?_
  have key : ∀ (L : List (List Nat)) (i k : Nat) dp sq, L.length < k → sm_pos n A dp sq L → (∀ dp' sq', post (sm_first (-2) (sm_eqP n g) L i) (nI n, dp', al, hd, sq', fo, ot, pa)) → wY_numberOf_6 post x k (nI i) (nI n) dp al hd sq fo ot pa := by
    intro L
    induction L with
    | nil =>
      intro i k dp sq hk hpos hp
      obtain ⟨k, rfl⟩ : ∃ m, k = m + 1 := ⟨k - 1, by omega⟩
      exact sy_advance h1 h5 hA hpos (fun v L' sq' z => by cases z) (fun dp' sq' _ => br_t rfl (hp dp' sq'))
    | cons v L ih =>
      intro i k dp sq hk hpos hp
      rw [List.length_cons] at hk
      obtain ⟨k, rfl⟩ : ∃ m, k = m + 1 := ⟨k - 1, by omega⟩
      refine sy_advance h1 h5 hA hpos (fun v2 L' sq' z zl zw za zp => ?_) (fun dp' sq' z => by cases z)
      injection z with z1 z2
      subst z1 z2
      rw [sm_first] at hp
      have hiff : (∀ q, q < n * n → sq' (sm_pl n q) = g (sm_pl n q)) ↔ sm_eqP n g v = true := by
        unfold sm_eqP
        rw [decide_eq_true_iff]
        exact ⟨fun h q hq => (za q (by omega)).symm.trans (h q hq), fun h q hq => (za q (by omega)).trans (h q hq)⟩
      refine br_f (by decide) (sy_isSquare h1 h5 hg (fun z => br_f (by decide) ?_) (fun z => br_t rfl (nm_r (nI_1 i) (ih (i + 1) k _ _ (by omega) zp ?_))))
      · rw [hiff.mp z] at hp
        exact hp _ _
      · have : sm_eqP n g v = false := by
          cases e : sm_eqP n g v with
          | false => rfl
          | true => exact absurd (hiff.mpr e) z
        rw [this] at hp
        exact hp
  exact ⟨_, key (sm_F n A) 0 _ 0 (upd sq 0 (-2)) (Nat.lt_succ_self _) sm_pos_begin hp⟩
theorem sy_negs {post : Int32 → Prop} {v : List Nat} (h1 : 1 ≤ n) (h5 : n ≤ 5) (hl : v.length = n * n) (hw : sm_wd v) (ha : sm_ag (sm_pl n) sq v) (hp : post (nI (sm_ng (sm_dg v) (n * n)))) :
    wpY_negativesHere post (nI n, dp, al, hd, sq, fo, ot, pa) := by
  have hnn := sm_nn h5
  have e2 : nI n * nI n = nI (n * n) := pk_mul n n
  refine loop_0 (fun k i y => wY_negativesHere_4 post (nI n) dp al hd sq fo ot pa k y (nI i)) (fun i y => y = nI (sm_ng (sm_dg v) i)) (n * n) 0 rfl ?_ ?_
  · rintro k y rfl
    refine br_t ?_ hp
    rw [e2]
    exact nI_le (Nat.le_refl _) (by omega)
  · rintro k i y hi rfl hk
    have hl2 := sm_pl_lt h5 hi
    have hd2 : sm_dg v i ≤ 2 := sm_dg_le hw
    refine br_f ?_ (sy_placeAt h1 h5 (by omega) rfl ?_)
    · rw [e2]
      exact nI_ge hi (by omega)
    · rw [nI_clamp (by omega), ha i (by omega), sm_e_m1 (by omega)]
      refine ⟨vp_in_nI hl2 (by decide), br_c (fun z => nm_r (nI_1 _) (nm_r (nI_1 i) (hk _ ?_))) (fun z => nm_r (nI_1 i) (hk _ ?_))⟩
      · rw [sm_ng, if_pos z]
      · rw [sm_ng, if_neg z]
theorem sy_corner {post : Int32 → Prop} {r c : Nat} {x y : Int32} (hr : r < 100) (hc : c < 100) (hx : x = nI r) (hy : y = nI c) (hp : post (sm_sum (fun p => if p / 5 ≤ r ∧ p % 5 ≤ c then fo p else 0) 25)) :
    wpY_cornerOf post (sz, dp, al, hd, sq, fo, ot, pa) x y := by
  subst hx hy
  refine loop_0 (fun k i y => wY_cornerOf_5 post (nI r) (nI c) sz dp al hd sq fo ot pa k y (nI i)) (fun i y => y = sm_sum (fun p => if p / 5 ≤ r ∧ p % 5 ≤ c then fo p else 0) i) 25 0 rfl ?_ ?_
  · rintro k y rfl
    exact br_t sm_25e hp
  · rintro k i y hi rfl hk
    refine br_f (sm_25 hi) ⟨by decide, ?_⟩
    rw [sm_m5 (by omega), sm_d5 (by omega), nI_clamp (by omega)]
    refine pk_lt r (i / 5) (fun z => nm_r (nI_1 i) (hk _ ?_)) (fun z => ⟨by decide, pk_lt c (i % 5) (fun w => nm_r (nI_1 i) (hk _ ?_)) (fun w => ⟨vp_in_nI hi (by decide), nm_e (nm_r (nI_1 i) (hk _ ?_))⟩)⟩)
    · show _ = sm_sum _ i + (if i / 5 ≤ r ∧ i % 5 ≤ c then fo i else 0)
      rw [if_neg (by omega), Int32.add_zero]
    · show _ = sm_sum _ i + (if i / 5 ≤ r ∧ i % 5 ≤ c then fo i else 0)
      rw [if_neg (by omega), Int32.add_zero]
    · show _ = sm_sum _ i + (if i / 5 ≤ r ∧ i % 5 ≤ c then fo i else 0)
      rw [if_pos (by omega)]
end
end
section
/-! the relation, the constructors, the calls that store -/
def sm_Rel (n : Nat) (en st al hd al2 hd2 : Nat → Int32) : Prop :=
  1 ≤ n ∧ n ≤ 5 ∧ sm_EN (n * n) en (sm_G n) ∧ sm_ST (n * n) en st (sm_F n al) ∧ (∀ q, q < n * n → al2 (sm_pl n q) = al q) ∧ (∀ q, q < n * n → hd2 (sm_pl n q) = hd q)
/-- X's list holds the good squares and the starts of those that fit; what is allowed and the square at hand are alike -/
def i_Rel (_ : Nat) (u : SX) (v : SY) : Prop :=
  ∃ (n : Nat) (en st al hd dr : Nat → Int32) (dp : Int32) (al2 hd2 sq fo ot pa : Nat → Int32),
    u = (nI n, nI (n * n), nI (sm_G n).length, nI (sm_F n al).length, en, st, al, hd, dr) ∧ v = (nI n, dp, al2, hd2, sq, fo, ot, pa) ∧ sm_Rel n en st al hd al2 hd2
theorem i_up {k : Nat} {u : SX} {v : SY} (h : i_Rel k u v) : i_Rel (k + 4) u v := h
theorem sm_mk_rel {n : Nat} {en st al hd dr : Nat → Int32} {dp : Int32} {al2 hd2 sq fo ot pa : Nat → Int32} (k : Nat) (h : sm_Rel n en st al hd al2 hd2) :
    i_Rel k (nI n, nI (n * n), nI (sm_G n).length, nI (sm_F n al).length, en, st, al, hd, dr) (nI n, dp, al2, hd2, sq, fo, ot, pa) :=
  ⟨n, en, st, al, hd, dr, dp, al2, hd2, sq, fo, ot, pa, rfl, rfl, h⟩
theorem sm_upd_rel {n p : Nat} {f f2 : Nat → Int32} {x : Int32} (h5 : n ≤ 5) (hp : p < n * n) (h : ∀ q, q < n * n → f2 (sm_pl n q) = f q) : ∀ q, q < n * n → upd f2 (sm_pl n p) x (sm_pl n q) = upd f p x q := by
  intro q hq
  by_cases e : q = p
  · subst e
    rw [pk_us, pk_us]
  · rw [pk_un e, pk_un (fun z => e (sm_pl_inj h5 hq hp z))]
    exact h q hq
section
variable {n : Nat} {sz dp pls gc fc : Int32} {al hd sq fo ot pa en st dr : Nat → Int32}
theorem sy_isPlace_t {post : Int32 → Prop} {i j : Nat} (h5 : n ≤ 5) (hi : i < n) (hj : j < n) (hp : post 1) : wpY_isPlace post (nI n, dp, al, hd, sq, fo, ot, pa) (nI i) (nI j) :=
  sy_isPlace h5 (fun h => (h i j hi hj rfl rfl).elim) (fun _ _ _ _ _ _ => hp)
theorem sy_isPlace_f {post : Int32 → Prop} {a b : Int32} (h5 : n ≤ 5) (h : ∀ i j, i < n → j < n → a = nI i → b = nI j → False) (hp : post 0) : wpY_isPlace post (nI n, dp, al, hd, sq, fo, ot, pa) a b :=
  sy_isPlace h5 (fun _ => hp) (fun i j hi hj e1 e2 => (h i j hi hj e1 e2).elim)
theorem sy_find_f {post : Int32 → SY → Prop} {A : Nat → Int32} {x : Int32} (h1 : 1 ≤ n) (h5 : n ≤ 5) (hA : ∀ q, q < n * n → al (sm_pl n q) = A q) (hb : ∀ j, j < (sm_F n A).length → x ≠ nI j)
    (hp : ∀ dp' sq' fo', post 0 (nI n, dp', al, hd, sq', fo', ot, pa)) : wpY_find post (nI n, dp, al, hd, sq, fo, ot, pa) x :=
  sy_find h1 h5 hA (fun _ => hp) (fun j _ hj e => absurd e (hb j hj))
theorem sy_find_t {post : Int32 → SY → Prop} {A : Nat → Int32} {j : Nat} {v : List Nat} (h1 : 1 ≤ n) (h5 : n ≤ 5) (hA : ∀ q, q < n * n → al (sm_pl n q) = A q) (hj : j < (sm_F n A).length) (hv : (sm_F n A)[j]? = some v)
    (hp : ∀ dp' sq' fo', (∀ q, q < n * n → fo' (sm_pl n q) = sm_e (sm_dg v q)) → post 1 (nI n, dp', al, hd, sq', fo', ot, pa)) : wpY_find post (nI n, dp, al, hd, sq, fo, ot, pa) (nI j) := by
  have hFl := sm_F_len (A := A) h1 h5
  refine sy_find h1 h5 hA (fun h => absurd rfl (h j hj)) (fun j2 v2 hj2 e hv2 dp' sq' fo' hfo => ?_)
  have := (nI_eq (by omega) (by omega)).mp e
  subst this
  rw [hv] at hv2
  cases hv2
  exact hp dp' sq' fo' hfo
theorem sm_F_get {A : Nat → Int32} {j : Nat} (hj : j < (sm_F n A).length) : ∃ v, (sm_F n A)[j]? = some v ∧ v ∈ sm_F n A ∧ v ∈ sm_G n ∧ sm_wd v ∧ v.length = n * n := by
  have hm : (sm_F n A)[j] ∈ sm_F n A := List.getElem_mem hj
  exact ⟨(sm_F n A)[j], List.getElem?_eq_getElem hj, hm, sm_F_G hm, sm_G_wd (sm_F_G hm), sm_G_len (sm_F_G hm)⟩
theorem sx_init {post : SX → Prop} (h1 : 1 ≤ n) (h5 : n ≤ 5)
    (hp : ∀ en st al dr, (∀ q, q < n * n → al q = 7) → sm_EN (n * n) en (sm_G n) → sm_ST (n * n) en st (sm_F n al) → post (nI n, nI (n * n), nI (sm_G n).length, nI (sm_F n al).length, en, st, al, (fun _ => 0), dr)) :
    wX_init_66 post (nI n) 0 0 0 0 (fun _ => 0) (fun _ => 0) (fun _ => 0) (fun _ => 0) (fun _ => 0) := by
  have hnn := sm_nn h5
  refine nm_r (pk_mul n n) ?_
  refine loop_0 (fun k i a => wX_init_84 post (nI n) (nI (n * n)) 0 0 k (nI i) (fun _ => 0) (fun _ => 0) a (fun _ => 0) (fun _ => 0)) (fun i a => ∀ q, q < i → a q = 7) (n * n) (fun _ => 0) (fun q h => absurd h (Nat.not_lt_zero q)) ?_ ?_
  · intro k a ha
    exact br_t (nI_le (Nat.le_refl _) (by omega)) (sx_find h1 h5 (fun en' dr' hE => sx_list h1 h5 hE (fun st' hS => hp en' st' a dr' ha hE hS)))
  · intro k i a hi ha hk
    refine br_f (nI_ge hi (by omega)) ⟨vp_in_nI (by omega) (by decide), nm_e (nm_r (nI_1 i) (hk _ ?_))⟩
    intro q hq
    rw [nI_clamp (by omega)]
    by_cases e : q = i
    · subst e
      rw [pk_us]
    · rw [pk_un e]
      exact ha q (by omega)
theorem sy_init {post : SY → Prop} (hp : ∀ al, (∀ p, p < 25 → al p = 7) → post (sz, 0, al, (fun _ => 0), (fun _ => 0), (fun _ => 0), (fun _ => 0), (fun _ => 0))) :
    ∃ k, wY_init_77 post sz 0 k 0 (fun _ => 0) (fun _ => 0) (fun _ => 0) (fun _ => 0) (fun _ => 0) (fun _ => 0) := by
  refine loop_0 (fun k i a => wY_init_77 post sz 0 k (nI i) a (fun _ => 0) (fun _ => 0) (fun _ => 0) (fun _ => 0) (fun _ => 0)) (fun i a => ∀ q, q < i → a q = 7) 25 (fun _ => 0) (fun q h => absurd h (Nat.not_lt_zero q)) ?_ ?_
  · intro k a ha
    exact br_t sm_25e (hp a ha)
  · intro k i a hi ha hk
    refine br_f (sm_25 hi) ⟨vp_in_nI (by omega) (by decide), nm_e (nm_r (nI_1 i) (hk _ ?_))⟩
    intro q hq
    rw [nI_clamp (by omega)]
    by_cases e : q = i
    · subst e
      rw [pk_us]
    · rw [pk_un e]
      exact ha q (by omega)
theorem sm_rel0 {al al2 : Nat → Int32} (h1 : 1 ≤ n) (h5 : n ≤ 5) (ha : ∀ q, q < n * n → al q = 7) (hE : sm_EN (n * n) en (sm_G n)) (hS : sm_ST (n * n) en st (sm_F n al)) (ha2 : ∀ p, p < 25 → al2 p = 7) : sm_Rel n en st al (fun _ => 0) al2 (fun _ => 0) :=
  ⟨h1, h5, hE, hS, fun q hq => by rw [ha q hq, ha2 _ (sm_pl_lt h5 hq)], fun _ _ => rfl⟩
end
theorem i_vc0 (k0 : Int32) : wpX_init (fun u => wpY_init (fun v => i_Rel 1 u v) k0) k0 := by
  refine br_c (fun a => br_c (fun b => ?_) (fun b => ?_)) (fun a => ?_)
  · have h0 : ¬ k0 < 0 := by
      rw [Int32.lt_iff_toInt_lt]
      rw [Int32.le_iff_toInt_le] at a
      have e0 : (0 : Int32).toInt = 0 := by decide
      have e1 : (1 : Int32).toInt = 1 := by decide
      omega
    obtain ⟨n, hn, rfl⟩ := nI_of h0
    have a1 : 1 ≤ n := (nI_leI (a := 1) (by decide) hn).mp a
    have b1 : n ≤ 5 := (nI_leI (b := 5) hn (by decide)).mp b
    exact sx_init a1 b1 (fun en st al dr ha hE hS => br_t a (br_t b (sy_init (fun al2 ha2 => sm_mk_rel 1 (sm_rel0 a1 b1 ha hE hS ha2)))))
  · exact sx_init (n := 5) (by decide) (by decide) (fun en st al dr ha hE hS => br_t a (br_f b (sy_init (fun al2 ha2 => sm_mk_rel (n := 5) 1 (sm_rel0 (by decide) (by decide) ha hE hS ha2)))))
  · exact sx_init (n := 1) (by decide) (by decide) (fun en st al dr ha hE hS => br_f a (sy_init (fun al2 ha2 => sm_mk_rel (n := 1) 1 (sm_rel0 (by decide) (by decide) ha hE hS ha2))))
theorem i_vc_allow {k : Nat} {u : SX} {v : SY} (I : i_Rel k u v) (hk : k + 4 ≤ 2049) (v1 : Int32) (v2 : Int32) (v3 : Int32) : wpX_allow (fun r u' => wpY_allow (fun r' v' => r' = r ∧ i_Rel (k + 4) u' v') v v1 v2 v3) u v1 v2 v3 := by
  obtain ⟨n, en, st, al, hd, dr, dp, al2, hd2, sq, fo, ot, pa, rfl, rfl, h1, h5, hE, hS, hA, hH⟩ := I
  have hR : sm_Rel n en st al hd al2 hd2 := ⟨h1, h5, hE, hS, hA, hH⟩
  have hnn := sm_nn h5
  unfold wpX_allow wpY_allow
  dsimp only
  refine sx_isPlace h5 (fun hbad => br_t rfl ?_) (fun i j hi hj e1 e2 => br_f (by decide) ?_)
  · exact sy_isPlace_f h5 hbad (br_t rfl ⟨rfl, sm_mk_rel _ hR⟩)
  · subst e1 e2
    have hl := sm_rc_lt hi hj
    refine br_c (fun z => ?_) (fun z => br_c (fun z2 => ?_) (fun z2 => ?_))
    · exact sy_isPlace_t h5 hi hj (br_f (by decide) (br_t z ⟨rfl, sm_mk_rel _ hR⟩))
    · have e : nI i * nI n + nI j = nI (i * n + j) := by rw [pk_mul, nI_add]
      have hin : vp_in (nI (i * n + j)) 25 := vp_in_nI (by omega) (by decide)
      refine nm_r e ⟨hin, nm_e ⟨hin, nm_e ?_⟩⟩
      rw [nI_clamp (by omega)]
      refine sx_list h1 h5 hE (fun st' hS' => ?_)
      refine sy_isPlace_t h5 hi hj (br_f (by decide) (br_f z (br_t z2 ?_)))
      have hin2 : vp_in (nI (5 * i + j)) 25 := vp_in_nI (by omega) (by decide)
      rw [sm_5]
      refine ⟨hin2, nm_e ⟨hin2, nm_e ?_⟩⟩
      rw [nI_clamp (by omega), ← sm_pl_rc hj]
      exact ⟨hA _ hl, sm_mk_rel _ ⟨h1, h5, hE, hS', sm_upd_rel h5 hl hA, hH⟩⟩
    · exact sy_isPlace_t h5 hi hj (br_f (by decide) (br_f z (br_f z2 ⟨rfl, sm_mk_rel _ hR⟩)))
theorem i_vc_put {k : Nat} {u : SX} {v : SY} (I : i_Rel k u v) (hk : k + 4 ≤ 2049) (v1 : Int32) (v2 : Int32) (v3 : Int32) : wpX_put (fun r u' => wpY_put (fun r' v' => r' = r ∧ i_Rel (k + 4) u' v') v v1 v2 v3) u v1 v2 v3 := by
  obtain ⟨n, en, st, al, hd, dr, dp, al2, hd2, sq, fo, ot, pa, rfl, rfl, h1, h5, hE, hS, hA, hH⟩ := I
  have hR : sm_Rel n en st al hd al2 hd2 := ⟨h1, h5, hE, hS, hA, hH⟩
  have hnn := sm_nn h5
  unfold wpX_put wpY_put
  dsimp only
  refine sx_isPlace h5 (fun hbad => br_t rfl ?_) (fun i j hi hj e1 e2 => br_f (by decide) ?_)
  · exact sy_isPlace_f h5 hbad (br_t rfl ⟨rfl, sm_mk_rel _ hR⟩)
  · subst e1 e2
    have hl := sm_rc_lt hi hj
    refine br_c (fun z => br_t rfl ?_) (fun z => br_c (fun z2 => br_t rfl ?_) (fun z2 => br_f (by decide) ?_))
    · exact sy_isPlace_t h5 hi hj (br_f (by decide) (br_t z ⟨rfl, sm_mk_rel _ hR⟩))
    · exact sy_isPlace_t h5 hi hj (br_f (by decide) (br_f z (br_f (Int32.not_le.mpr z2) ⟨rfl, sm_mk_rel _ hR⟩)))
    · have e : nI i * nI n + nI j = nI (i * n + j) := by rw [pk_mul, nI_add]
      rw [e]
      refine ⟨vp_in_nI (by omega) (by decide), nm_e ?_⟩
      rw [nI_clamp (by omega)]
      refine sy_isPlace_t h5 hi hj (br_f (by decide) (br_f z (br_t (Int32.not_lt.mp z2) ?_)))
      rw [sm_5]
      refine ⟨vp_in_nI (by omega) (by decide), nm_e ?_⟩
      rw [nI_clamp (by omega), ← sm_pl_rc hj]
      exact ⟨rfl, sm_mk_rel _ ⟨h1, h5, hE, hS, hA, sm_upd_rel h5 hl hH⟩⟩
end
section
/-! load, count, entry, isGood, rank -/
section
variable {n : Nat} {sz dp pls gc fc : Int32} {al hd sq fo ot pa en st dr : Nat → Int32}
theorem sx_loadL {post : Int32 → SX → Prop} {j s : Nat} (h5 : n ≤ 5) (hj : j < 429) (hst : st j = nI s) (hs : s + n * n ≤ 10725) (hp : ∀ hd', (∀ q, q < n * n → hd' q = en (s + q)) → post 1 (sz, nI (n * n), gc, fc, en, st, al, hd', dr)) :
    ∃ k, wX_load_12 post (nI j) sz (nI (n * n)) gc fc k 0 en st al hd dr := by
  have hnn := sm_nn h5
  refine loop_0 (fun k i h => wX_load_12 post (nI j) sz (nI (n * n)) gc fc k (nI i) en st al h dr) (fun i h => ∀ q, q < i → h q = en (s + q)) (n * n) hd (fun q h => absurd h (Nat.not_lt_zero q)) ?_ ?_
  · intro k h hh
    exact br_t (nI_le (Nat.le_refl _) (by omega)) (hp h hh)
  · intro k i h hi hh hk
    refine br_f (nI_ge hi (by omega)) ?_
    rw [nI_clamp (n := j) (by omega), hst, nI_add, nI_clamp (n := i) (by omega), nI_clamp (n := s + i) (by omega)]
    refine ⟨vp_in_nI hj (by decide), vp_in_nI (by omega) (by decide), vp_in_nI (by omega) (by decide), nm_e (nm_r (nI_1 i) (hk _ ?_))⟩
    intro q hq
    by_cases e : q = i
    · subst e
      rw [pk_us]
    · rw [pk_un e]
      exact hh q (by omega)
theorem sy_loadL {post : Int32 → SY → Prop} (hp : ∀ hd', (∀ p, p < 25 → hd' p = fo p) → post 1 (sz, dp, al, hd', sq, fo, ot, pa)) :
    ∃ k, wY_load_12 post sz dp k 0 al hd sq fo ot pa := by
  refine loop_0 (fun k i h => wY_load_12 post sz dp k (nI i) al h sq fo ot pa) (fun i h => ∀ p, p < i → h p = fo p) 25 hd (fun q h => absurd h (Nat.not_lt_zero q)) ?_ ?_
  · intro k h hh
    exact br_t sm_25e (hp h hh)
  · intro k i h hi hh hk
    refine br_f (sm_25 hi) ?_
    rw [nI_clamp (by omega)]
    refine ⟨vp_in_nI hi (by decide), vp_in_nI hi (by decide), nm_e (nm_r (nI_1 i) (hk _ ?_))⟩
    intro q hq
    by_cases e : q = i
    · subst e
      rw [pk_us]
    · rw [pk_un e]
      exact hh q (by omega)
/-- Y's loops over all fitting squares -/
theorem sy_fold {α : Type} {A : Nat → Int32} (step : α → List Nat → α) (W : Nat → α → Int32 → (Nat → Int32) → Prop) (R : α → Int32 → (Nat → Int32) → Prop)
    (hs : ∀ k a dp sq L, sm_pos n A dp sq L → (L = [] → ∀ dp' sq', R a dp' sq') →
      (∀ v L' sq', L = v :: L' → v.length = n * n → sm_wd v → sm_ag (sm_pl n) sq' v → sm_pos n A (nI (n * n)) sq' L' → W k (step a v) (nI (n * n)) sq') → W (k + 1) a dp sq) :
    ∀ (L : List (List Nat)) (a : α) (k : Nat) dp sq, L.length < k → sm_pos n A dp sq L → (∀ dp' sq', R (L.foldl step a) dp' sq') → W k a dp sq := by
  intro L
  induction L with
  | nil =>
    intro a k dp sq hk hpos hp
    obtain ⟨k, rfl⟩ : ∃ m, k = m + 1 := ⟨k - 1, by omega⟩
    exact hs k a dp sq [] hpos (fun _ => hp) (fun v L' sq' z => by cases z)
  | cons v L ih =>
    intro a k dp sq hk hpos hp
    rw [List.length_cons] at hk
    obtain ⟨k, rfl⟩ : ∃ m, k = m + 1 := ⟨k - 1, by omega⟩
    refine hs k a dp sq (v :: L) hpos (fun z => by cases z) (fun v2 L' sq' z zl zw za zp => ?_)
    injection z with z1 z2
    subst z1 z2
    exact ih _ k _ _ (by omega) zp hp
theorem sm_fold_len : ∀ (L : List (List Nat)) (i : Nat), L.foldl (fun (a : Int32) _ => a + 1) (nI i) = nI (i + L.length)
  | [], _ => rfl
  | v :: L, i => by
    rw [List.foldl_cons, nI_1, sm_fold_len L (i + 1), List.length_cons, show i + 1 + L.length = i + (L.length + 1) by omega]
theorem sy_count {post : Int32 → SY → Prop} {A : Nat → Int32} (h1 : 1 ≤ n) (h5 : n ≤ 5) (hA : ∀ q, q < n * n → al (sm_pl n q) = A q) (hp : ∀ dp' sq', post (nI (sm_F n A).length) (nI n, dp', al, hd, sq', fo, ot, pa)) :
    wpY_count post (nI n, dp, al, hd, sq, fo, ot, pa) := by
  refine nm_e ⟨(sm_F n A).length + 1, ?_⟩
  refine sy_fold (A := A) (fun (a : Int32) _ => a + 1) (fun k a dp sq => wY_count_6 post k a (nI n) dp al hd sq fo ot pa) (fun a dp' sq' => post a (nI n, dp', al, hd, sq', fo, ot, pa)) ?_ (sm_F n A) 0 _ 0 (upd sq 0 (-2)) (Nat.lt_succ_self _) sm_pos_begin ?_
  · intro k a dp sq L hpos hn hc
    exact sy_advance h1 h5 hA hpos (fun v L' sq' z zl zw za zp => br_f (by decide) (nm_e (hc v L' sq' z zl zw za zp))) (fun dp' sq' z => br_t rfl (hn z dp' sq'))
  · intro dp' sq'
    have := sm_fold_len (sm_F n A) 0
    rw [Nat.zero_add] at this
    show post (List.foldl (fun (a : Int32) _ => a + 1) (nI 0) (sm_F n A)) _
    rw [this]
    exact hp dp' sq'
theorem sx_isGood {post : Int32 → Prop} (h1 : 1 ≤ n) (h5 : n ≤ 5) (ht : sm_goodX hd n → post 1) (hf : ¬ sm_goodX hd n → post 0) : wpX_isGood post (nI n, nI (n * n), gc, fc, en, st, al, hd, dr) := by
  have hnn := sm_nn h5
  refine loop_0 (fun k i (_ : Unit) => wX_isGood_2 post (nI n) (nI (n * n)) gc fc en st al hd dr k (nI i)) (fun i _ => ∀ q, q < i → sm_okI n (q % n) (sm_R hd n (q / n) (q % n)) ∧ sm_okI n (q / n) (sm_K hd n (q / n) (q % n))) (n * n) () (fun q hq => absurd hq (Nat.not_lt_zero q)) ?_ ?_
  · intro k _ h
    exact br_t (nI_le (Nat.le_refl _) (by omega)) (ht h)
  · intro k i _ hi h hk
    refine br_f (nI_ge hi (by omega)) (sx_altH h1 h5 (sm_q_r hi) (sm_q_c hi) (by rw [sm_q_eq]) (fun z => br_f (by decide) (nm_r (nI_1 i) (hk () ?_))) (fun z => br_t rfl (hf (fun w => z (w i hi)))))
    intro q hq
    by_cases e : q = i
    · subst e
      exact z
    · exact h q (by omega)
theorem sy_alt47 {post : Int32 → Prop} {J : Int32 → Int32 → Int32 → Prop} {x1 x2 x4 z0 z1 : Int32} {i : Nat} {g : Nat → Int32} (hz0 : z0 = g i) (hz1 : z1 = sm_sum g i) (h : sm_flag (fun q => 0 ≤ sm_sum g (q + 1) ∧ sm_sum g (q + 1) ≤ 1) i x4)
    (hJ : ∀ y, sm_flag (fun q => 0 ≤ sm_sum g (q + 1) ∧ sm_sum g (q + 1) ≤ 1) (i + 1) y → J (sm_sum g (i + 1)) y (nI (i + 1))) :
    wY_alternates_47 post J x1 x2 x4 (nI i) z0 z1 sz dp al hd sq fo ot pa := by
  subst hz0 hz1
  refine nm_r (show sm_sum g i + g i = sm_sum g (i + 1) from rfl) (br_c (fun z => nm_r (nI_1 i) (hJ _ (sm_flag_off h z))) (fun z => br_c (fun w => nm_r (nI_1 i) (hJ _ (sm_flag_f (fun q => Int32.not_lt.mpr q.1 w)))) (fun w => br_c (fun w2 => nm_r (nI_1 i) (hJ _ (sm_flag_f (fun q => Int32.not_lt.mpr q.2 w2)))) (fun w2 => nm_r (nI_1 i) (hJ _ (sm_flag_t h z ⟨Int32.not_lt.mp w, Int32.not_lt.mp w2⟩))))))
theorem sy_alternates {post : Int32 → Prop} {k : Nat} {x y : Int32} {g : Nat → Int32} (h1 : 1 ≤ n) (h5 : n ≤ 5) (hk2 : k < n) (hx : x = nI k) (hg : (y = 0 ∧ ∀ i, i < n → hd (5 * i + k) = g i) ∨ (¬ y = 0 ∧ ∀ i, i < n → hd (5 * k + i) = g i))
    (ht : sm_alt (fun i => sm_sum g (i + 1)) n → post 1) (hf : ¬ sm_alt (fun i => sm_sum g (i + 1)) n → post 0) :
    wpY_alternates post (nI n, dp, al, hd, sq, fo, ot, pa) x y := by
  subst hx
  refine loop_0 (fun m i (t : Int32 × Int32) => wY_alternates_8 post (nI k) y (nI n) dp al hd sq fo ot pa m t.1 t.2 (nI i)) (fun i t => t.1 = sm_sum g i ∧ sm_flag (fun q => 0 ≤ sm_sum g (q + 1) ∧ sm_sum g (q + 1) ≤ 1) i t.2) n (0, 1) ⟨rfl, sm_flag_0⟩ ?_ ?_
  · rintro m ⟨a, b⟩ ⟨ha, hb⟩
    dsimp only at ha hb
    have e1 : sm_sum g n = sm_sum g (n - 1 + 1) := by rw [show n - 1 + 1 = n by omega]
    refine br_t (nI_le (Nat.le_refl _) (by omega)) ?_
    dsimp only
    rcases hb with hb | hb
    · rw [hb.1, ha]
      refine br_f (by decide) (br_c (fun z => ht ⟨hb.2, e1.symm.trans z⟩) (fun z => hf (fun w => z (e1.trans w.2))))
    · rw [hb.1]
      exact br_t rfl (hf (fun w => hb.2 w.1))
  · rintro m i ⟨a, b⟩ hi ⟨ha, hb⟩ hk
    dsimp only at ha hb
    refine br_f (nI_ge hi (by omega)) ?_
    rcases hg with ⟨gy, gh⟩ | ⟨gy, gh⟩
    · refine br_t gy ?_
      rw [sm_5, nI_clamp (by omega)]
      exact ⟨vp_in_nI (by omega) (by decide), sy_alt47 (gh i hi) ha hb (fun y hy => hk (sm_sum g (i + 1), y) ⟨rfl, hy⟩)⟩
    · refine br_f gy ?_
      rw [sm_5, nI_clamp (by omega)]
      exact ⟨vp_in_nI (by omega) (by decide), sy_alt47 (gh i hi) ha hb (fun y hy => hk (sm_sum g (i + 1), y) ⟨rfl, hy⟩)⟩
theorem sy_isGood {post : Int32 → Prop} {h : Nat → Int32} (h1 : 1 ≤ n) (h5 : n ≤ 5) (hH : ∀ q, q < n * n → hd (sm_pl n q) = h q) (ht : sm_goodY h n → post 1) (hf : ¬ sm_goodY h n → post 0) :
    wpY_isGood post (nI n, dp, al, hd, sq, fo, ot, pa) := by
  refine loop_0 (fun m i y => wY_isGood_4 post (nI n) dp al hd sq fo ot pa m y (nI i)) (fun i y => sm_flag (fun k => sm_alt (fun i => sm_R h n k i) n ∧ sm_alt (fun i => sm_K h n i k) n) i y) n 1 sm_flag_0 ?_ ?_
  · intro m y hy
    refine br_t (nI_le (Nat.le_refl _) (by omega)) ?_
    rcases hy with hy | hy
    · rw [hy.1]
      exact br_f (by decide) (ht hy.2)
    · rw [hy.1]
      exact br_t rfl (hf hy.2)
  · intro m i y hi hy hk
    refine br_f (nI_ge hi (by omega)) (br_c (fun z => nm_r (nI_1 i) (hk _ (sm_flag_off hy z))) (fun z => ?_))
    refine sy_alternates (g := fun j => h (i * n + j)) h1 h5 hi rfl (Or.inr ⟨by decide, fun j hj => ?_⟩) (fun a => br_f (by decide) ?_) (fun a => br_t rfl (nm_r (nI_1 i) (hk _ (sm_flag_f (fun w => a w.1)))))
    · rw [← sm_pl_rc hj]
      exact hH _ (sm_rc_lt hi hj)
    · refine sy_alternates (g := fun j => h (i + j * n)) h1 h5 hi rfl (Or.inl ⟨rfl, fun j hj => ?_⟩) (fun b => br_f (by decide) (nm_r (nI_1 i) (hk _ (sm_flag_t hy z ⟨a, b⟩)))) (fun b => br_t rfl (nm_r (nI_1 i) (hk _ (sm_flag_f (fun w => b w.2)))))
      rw [← sm_pl_cr hi]
      exact hH _ (by rw [Nat.add_comm]; exact sm_rc_lt hj hi)
theorem sx_rank {post : Int32 → Prop} {F : List (List Nat)} {P : List Nat → Bool} (h5 : n ≤ 5) (hF : F.length ≤ 429) (hS : sm_ST (n * n) en st F) (hP : ∀ v, P v = true ↔ ∀ q, q < n * n → sm_e (sm_dg v q) = hd q) (hp : post (sm_first (-2) P F 0)) :
    wpX_rank post (sz, nI (n * n), gc, nI F.length, en, st, al, hd, dr) := by
  refine ⟨F.length + 1, ?_⟩
  refine sm_firstX (-2) F P (fun k i => wX_rank_2 post sz (nI (n * n)) gc (nI F.length) en st al hd dr k (nI i)) post ?_ ?_ F 0 (F.length + 1) (Nat.zero_le _) List.drop_zero (Nat.lt_succ_self _) hp
  · intro k hp
    exact br_t (nI_le (Nat.le_refl _) (by omega)) hp
  · intro k i v hi hv ht hf
    obtain ⟨s, s1, s2, s3⟩ := hS i v hv
    refine br_f (nI_ge hi (by omega)) ?_
    rw [nI_clamp (by omega), s1]
    refine ⟨vp_in_nI (by omega) (by decide), sx_isAtHand h5 rfl s2 (fun z => br_f (by decide) (ht ((hP v).mpr (fun q hq => (s3 q hq).symm.trans (z q hq))))) (fun z => br_t rfl (nm_r (nI_1 i) (hf ?_)))⟩
    cases e : P v with
    | false => rfl
    | true => exact absurd (fun q hq => (s3 q hq).trans ((hP v).mp e q hq)) z
end
theorem i_vc_load {k : Nat} {u : SX} {v : SY} (I : i_Rel k u v) (hk : k + 4 ≤ 2049) (v1 : Int32) : wpX_load (fun r u' => wpY_load (fun r' v' => r' = r ∧ i_Rel (k + 4) u' v') v v1) u v1 := by
  obtain ⟨n, en, st, al, hd, dr, dp, al2, hd2, sq, fo, ot, pa, rfl, rfl, h1, h5, hE, hS, hA, hH⟩ := I
  have hR : sm_Rel n en st al hd al2 hd2 := ⟨h1, h5, hE, hS, hA, hH⟩
  have hFl := sm_F_len (A := al) h1 h5
  unfold wpX_load wpY_load
  dsimp only
  refine sx_isNumber (by omega) (fun hb => br_t rfl ?_) (fun j hj e => br_f (by decide) ?_)
  · exact sy_find_f h1 h5 hA hb (fun _ _ _ => br_t rfl ⟨rfl, sm_mk_rel _ hR⟩)
  · subst e
    obtain ⟨v, hv, _, _, _, _⟩ := sm_F_get hj
    obtain ⟨s, s1, s2, s3⟩ := hS j v hv
    refine sx_loadL h5 (by omega) s1 s2 (fun hd' hh => ?_)
    refine sy_find_t h1 h5 hA hj hv (fun dp' sq' fo' hfo => br_f (by decide) (sy_loadL (fun hd2' hh2 => ⟨rfl, sm_mk_rel _ ⟨h1, h5, hE, hS, hA, fun q hq => ?_⟩⟩)))
    dsimp only at hh2
    rw [hh2 _ (sm_pl_lt h5 hq), hfo q hq, hh q hq, s3 q hq]
theorem i_vc_count {k : Nat} {u : SX} {v : SY} (I : i_Rel k u v) (hk : k + 4 ≤ 2049) : wpX_count (fun r => wpY_count (fun r' v' => r' = r ∧ i_Rel (k + 4) u v') v) u := by
  obtain ⟨n, en, st, al, hd, dr, dp, al2, hd2, sq, fo, ot, pa, rfl, rfl, h1, h5, hE, hS, hA, hH⟩ := I
  have hR : sm_Rel n en st al hd al2 hd2 := ⟨h1, h5, hE, hS, hA, hH⟩
  unfold wpX_count
  dsimp only
  exact sy_count h1 h5 hA (fun dp' sq' => ⟨rfl, sm_mk_rel _ hR⟩)
theorem i_vc_entry {k : Nat} {u : SX} {v : SY} (I : i_Rel k u v) (hk : k + 4 ≤ 2049) (v1 : Int32) (v2 : Int32) (v3 : Int32) : wpX_entry (fun r => wpY_entry (fun r' v' => r' = r ∧ i_Rel (k + 4) u v') v v1 v2 v3) u v1 v2 v3 := by
  obtain ⟨n, en, st, al, hd, dr, dp, al2, hd2, sq, fo, ot, pa, rfl, rfl, h1, h5, hE, hS, hA, hH⟩ := I
  have hR : sm_Rel n en st al hd al2 hd2 := ⟨h1, h5, hE, hS, hA, hH⟩
  have hFl := sm_F_len (A := al) h1 h5
  have hnn := sm_nn h5
  unfold wpX_entry wpY_entry
  dsimp only
  refine sx_isNumber (by omega) (fun hb => br_t rfl ?_) (fun j hj e => br_f (by decide) ?_)
  · exact sy_find_f h1 h5 hA hb (fun _ _ _ => br_t rfl ⟨rfl, sm_mk_rel _ hR⟩)
  · subst e
    obtain ⟨v, hv, _, _, _, _⟩ := sm_F_get hj
    obtain ⟨s, s1, s2, s3⟩ := hS j v hv
    refine sx_isPlace h5 (fun hbad => br_t rfl ?_) (fun r c hr hc e1 e2 => br_f (by decide) ?_)
    · exact sy_find_t h1 h5 hA hj hv (fun dp' sq' fo' hfo => br_f (by decide) (sy_isPlace_f h5 hbad (br_t rfl ⟨rfl, sm_mk_rel _ hR⟩)))
    · subst e1 e2
      have hl := sm_rc_lt hr hc
      rw [nI_clamp (by omega), s1, pk_mul, nI_add, nI_add, nI_clamp (by omega)]
      refine ⟨vp_in_nI (by omega) (by decide), vp_in_nI (by omega) (by decide), ?_⟩
      refine sy_find_t h1 h5 hA hj hv (fun dp' sq' fo' hfo => br_f (by decide) (sy_isPlace_t h5 hr hc (br_f (by decide) ?_)))
      dsimp only
      rw [sm_5, nI_clamp (by omega), Nat.add_assoc, s3 _ hl, ← sm_pl_rc hc, hfo _ hl]
      exact ⟨vp_in_nI (sm_pl_lt h5 hl) (by decide), rfl, sm_mk_rel _ hR⟩
theorem i_vc_isGood {k : Nat} {u : SX} {v : SY} (I : i_Rel k u v) (hk : k + 4 ≤ 2049) : wpX_isGood (fun r => wpY_isGood (fun r' => r' = r ∧ i_Rel (k + 4) u v) v) u := by
  obtain ⟨n, en, st, al, hd, dr, dp, al2, hd2, sq, fo, ot, pa, rfl, rfl, h1, h5, hE, hS, hA, hH⟩ := I
  have hR : sm_Rel n en st al hd al2 hd2 := ⟨h1, h5, hE, hS, hA, hH⟩
  refine sx_isGood h1 h5 (fun z => ?_) (fun z => ?_)
  · exact sy_isGood h1 h5 hH (fun _ => ⟨rfl, sm_mk_rel _ hR⟩) (fun w => absurd ((sm_good_iff h1).mp z) w)
  · exact sy_isGood h1 h5 hH (fun w => absurd ((sm_good_iff h1).mpr w) z) (fun _ => ⟨rfl, sm_mk_rel _ hR⟩)
theorem i_vc_rank {k : Nat} {u : SX} {v : SY} (I : i_Rel k u v) (hk : k + 4 ≤ 2049) : wpX_rank (fun r => wpY_rank (fun r' v' => r' = r ∧ i_Rel (k + 4) u v') v) u := by
  obtain ⟨n, en, st, al, hd, dr, dp, al2, hd2, sq, fo, ot, pa, rfl, rfl, h1, h5, hE, hS, hA, hH⟩ := I
  have hR : sm_Rel n en st al hd al2 hd2 := ⟨h1, h5, hE, hS, hA, hH⟩
  refine sx_rank h5 (sm_F_len h1 h5) hS (P := sm_eqP n hd2) (fun v => ?_) ?_
  · unfold sm_eqP
    rw [decide_eq_true_iff]
    exact ⟨fun h q hq => (h q hq).trans (hH q hq), fun h q hq => (h q hq).trans (hH q hq).symm⟩
  · unfold wpY_rank
    dsimp only
    exact sy_numberOf h1 h5 hA (Or.inr ⟨by decide, rfl⟩) (fun dp' sq' => ⟨rfl, sm_mk_rel _ hR⟩)
end
section
/-! negatives, weight, having, corner, inversions -/
def sm_nst (n : Nat) (x : Int32) (a : Int32) (v : List Nat) : Int32 := if nI (sm_ng (sm_dg v) (n * n)) = x then a + 1 else a
def sm_wst (n : Nat) (x : Int32) (a : Int32) (v : List Nat) : Int32 := a + sm_pw x (sm_ng (sm_dg v) (n * n))
def sm_hst (p : Nat) (x : Int32) (a : Int32) (v : List Nat) : Int32 := if sm_e (sm_dg v p) = x then a + 1 else a
theorem sm_ng_nn {n : Nat} (h5 : n ≤ 5) (dg : Nat → Nat) : sm_ng dg (n * n) ≤ 25 := Nat.le_trans (sm_ng_le dg _) (sm_nn h5)
section
variable {n : Nat} {sz dp pls gc fc : Int32} {al hd sq fo ot pa en st dr : Nat → Int32}
theorem sx_negatives {post : Int32 → Prop} {F : List (List Nat)} {x : Int32} (h5 : n ≤ 5) (hF : F.length ≤ 429) (hS : sm_ST (n * n) en st F) (hw : ∀ v, v ∈ F → sm_wd v) (hp : post (F.foldl (sm_nst n x) 0)) :
    wpX_negatives post (sz, nI (n * n), gc, nI F.length, en, st, al, hd, dr) x := by
  refine ⟨F.length + 1, ?_⟩
  refine sm_foldX F (sm_nst n x) (fun k i a => wX_negatives_4 post x sz (nI (n * n)) gc (nI F.length) en st al hd dr k a (nI i)) post ?_ ?_ F 0 0 (F.length + 1) (Nat.zero_le _) List.drop_zero (Nat.lt_succ_self _) hp
  · intro k a hp
    exact br_t (nI_le (Nat.le_refl _) (by omega)) hp
  · intro k i v a hi hv hW
    obtain ⟨s, s1, s2, s3⟩ := hS i v hv
    have hwd := hw v (List.mem_of_getElem? hv)
    unfold sm_nst at hW
    refine br_f (nI_ge hi (by omega)) ?_
    rw [nI_clamp (by omega), s1]
    refine ⟨vp_in_nI (by omega) (by decide), sx_negs h5 rfl s2 (fun q hq => ⟨s3 q hq, sm_dg_le hwd⟩) (br_c (fun z => nm_e (nm_r (nI_1 i) ?_)) (fun z => nm_r (nI_1 i) ?_))⟩
    · rw [if_pos z] at hW
      exact hW
    · rw [if_neg z] at hW
      exact hW
theorem sy_negatives {post : Int32 → SY → Prop} {A : Nat → Int32} {x : Int32} (h1 : 1 ≤ n) (h5 : n ≤ 5) (hA : ∀ q, q < n * n → al (sm_pl n q) = A q) (hp : ∀ dp' sq', post ((sm_F n A).foldl (sm_nst n x) 0) (nI n, dp', al, hd, sq', fo, ot, pa)) :
    wpY_negatives post (nI n, dp, al, hd, sq, fo, ot, pa) x := by
  refine nm_e ⟨(sm_F n A).length + 1, ?_⟩
  refine sy_fold (A := A) (sm_nst n x) (fun k a dp sq => wY_negatives_6 post x k a (nI n) dp al hd sq fo ot pa) (fun a dp' sq' => post a (nI n, dp', al, hd, sq', fo, ot, pa)) ?_ (sm_F n A) 0 _ 0 (upd sq 0 (-2)) (Nat.lt_succ_self _) sm_pos_begin hp
  intro k a dp sq L hpos hn hc
  refine sy_advance h1 h5 hA hpos (fun v L' sq' z zl zw za zp => ?_) (fun dp' sq' z => br_t rfl (hn z dp' sq'))
  have hW := hc v L' sq' z zl zw za zp
  unfold sm_nst at hW
  refine br_f (by decide) (sy_negs h1 h5 zl zw za (br_c (fun w => nm_e ?_) (fun w => ?_)))
  · rw [if_pos w] at hW
    exact hW
  · rw [if_neg w] at hW
    exact hW
theorem sx_weight {post : Int32 → Prop} {F : List (List Nat)} {x : Int32} (h5 : n ≤ 5) (hF : F.length ≤ 429) (hS : sm_ST (n * n) en st F) (hw : ∀ v, v ∈ F → sm_wd v) (hp : post (F.foldl (sm_wst n x) 0)) :
    wpX_weight post (sz, nI (n * n), gc, nI F.length, en, st, al, hd, dr) x := by
  refine ⟨F.length + 1, ?_⟩
  refine sm_foldX F (sm_wst n x) (fun k i a => wX_weight_4 post x sz (nI (n * n)) gc (nI F.length) en st al hd dr k a (nI i)) post ?_ ?_ F 0 0 (F.length + 1) (Nat.zero_le _) List.drop_zero (Nat.lt_succ_self _) hp
  · intro k a hp
    exact br_t (nI_le (Nat.le_refl _) (by omega)) hp
  · intro k i v a hi hv hW
    obtain ⟨s, s1, s2, s3⟩ := hS i v hv
    have hwd := hw v (List.mem_of_getElem? hv)
    have hg := sm_ng_nn h5 (sm_dg v)
    refine br_f (nI_ge hi (by omega)) ?_
    rw [nI_clamp (by omega), s1]
    exact ⟨vp_in_nI (by omega) (by decide), sx_negs h5 rfl s2 (fun q hq => ⟨s3 q hq, sm_dg_le hwd⟩) (sx_power rfl (by omega) (nm_e (nm_r (nI_1 i) hW)))⟩
theorem sy_power {post : Int32 → SY → Prop} {J : Int32 → Int32 → Int32 → (Nat → Int32) → (Nat → Int32) → (Nat → Int32) → (Nat → Int32) → (Nat → Int32) → (Nat → Int32) → Prop} {x a : Int32} {m : Nat} (hm : m < 100)
    (hJ : J (a + sm_pw x m) sz dp al hd sq fo ot pa) : ∃ k, wY_weight_24 post J x a (nI m) sz dp al hd sq fo ot pa k 1 0 := by
  refine loop_0 (fun k i p => wY_weight_24 post J x a (nI m) sz dp al hd sq fo ot pa k p (nI i)) (fun i p => p = sm_pw x i) m 1 rfl ?_ ?_
  · rintro k p rfl
    exact br_t (nI_le (Nat.le_refl _) (by omega)) (nm_e hJ)
  · rintro k i p hi rfl hk
    exact br_f (nI_ge hi (by omega)) (nm_e (nm_r (nI_1 i) (hk _ rfl)))
theorem sy_weight {post : Int32 → SY → Prop} {A : Nat → Int32} {x : Int32} (h1 : 1 ≤ n) (h5 : n ≤ 5) (hA : ∀ q, q < n * n → al (sm_pl n q) = A q) (hp : ∀ dp' sq', post ((sm_F n A).foldl (sm_wst n x) 0) (nI n, dp', al, hd, sq', fo, ot, pa)) :
    wpY_weight post (nI n, dp, al, hd, sq, fo, ot, pa) x := by
  refine nm_e ⟨(sm_F n A).length + 1, ?_⟩
  refine sy_fold (A := A) (sm_wst n x) (fun k a dp sq => wY_weight_6 post x k a (nI n) dp al hd sq fo ot pa) (fun a dp' sq' => post a (nI n, dp', al, hd, sq', fo, ot, pa)) ?_ (sm_F n A) 0 _ 0 (upd sq 0 (-2)) (Nat.lt_succ_self _) sm_pos_begin hp
  intro k a dp sq L hpos hn hc
  refine sy_advance h1 h5 hA hpos (fun v L' sq' z zl zw za zp => ?_) (fun dp' sq' z => br_t rfl (hn z dp' sq'))
  have hg := sm_ng_nn h5 (sm_dg v)
  exact br_f (by decide) (sy_negs h1 h5 zl zw za (sy_power (by omega) (hc v L' sq' z zl zw za zp)))
theorem sx_having {post : Int32 → Prop} {F : List (List Nat)} {r c : Nat} {x : Int32} (h5 : n ≤ 5) (hr : r < n) (hc : c < n) (hF : F.length ≤ 429) (hS : sm_ST (n * n) en st F) (hp : post (F.foldl (sm_hst (r * n + c) x) 0)) :
    ∃ k, wX_having_28 post (nI r) (nI c) x (nI n) pls gc (nI F.length) en st al hd dr k 0 0 := by
  have hl := sm_rc_lt hr hc
  have hnn := sm_nn h5
  refine ⟨F.length + 1, ?_⟩
  refine sm_foldX F (sm_hst (r * n + c) x) (fun k i a => wX_having_28 post (nI r) (nI c) x (nI n) pls gc (nI F.length) en st al hd dr k a (nI i)) post ?_ ?_ F 0 0 (F.length + 1) (Nat.zero_le _) List.drop_zero (Nat.lt_succ_self _) hp
  · intro k a hp
    exact br_t (nI_le (Nat.le_refl _) (by omega)) hp
  · intro k i v a hi hv hW
    obtain ⟨s, s1, s2, s3⟩ := hS i v hv
    unfold sm_hst at hW
    refine br_f (nI_ge hi (by omega)) ?_
    rw [nI_clamp (n := i) (by omega), s1, pk_mul, nI_add, nI_add, nI_clamp (by omega), Nat.add_assoc, s3 _ hl]
    refine ⟨vp_in_nI (by omega) (by decide), vp_in_nI (by omega) (by decide), br_c (fun z => nm_e (nm_r (nI_1 i) ?_)) (fun z => nm_r (nI_1 i) ?_)⟩
    · rw [if_pos z] at hW
      exact hW
    · rw [if_neg z] at hW
      exact hW
theorem sy_having {post : Int32 → SY → Prop} {A : Nat → Int32} {r c : Nat} {x : Int32} (h1 : 1 ≤ n) (h5 : n ≤ 5) (hr : r < n) (hc2 : c < n) (hA : ∀ q, q < n * n → al (sm_pl n q) = A q) (hp : ∀ dp' sq', post ((sm_F n A).foldl (sm_hst (r * n + c) x) 0) (nI n, dp', al, hd, sq', fo, ot, pa)) :
    ∃ k, wY_having_31 post (nI r) (nI c) x k 0 (nI n) 0 al hd (upd sq 0 (-2)) fo ot pa := by
  have hl := sm_rc_lt hr hc2
  refine ⟨(sm_F n A).length + 1, ?_⟩
  refine sy_fold (A := A) (sm_hst (r * n + c) x) (fun k a dp sq => wY_having_31 post (nI r) (nI c) x k a (nI n) dp al hd sq fo ot pa) (fun a dp' sq' => post a (nI n, dp', al, hd, sq', fo, ot, pa)) ?_ (sm_F n A) 0 _ 0 (upd sq 0 (-2)) (Nat.lt_succ_self _) sm_pos_begin hp
  intro k a dp sq L hpos hn hc
  refine sy_advance h1 h5 hA hpos (fun v L' sq' z zl zw za zp => ?_) (fun dp' sq' z => br_t rfl (hn z dp' sq'))
  have hW := hc v L' sq' z zl zw za zp
  unfold sm_hst at hW
  refine br_f (by decide) ?_
  rw [sm_5, nI_clamp (by omega), ← sm_pl_rc hc2, za _ (by omega)]
  refine ⟨vp_in_nI (sm_pl_lt h5 hl) (by decide), br_c (fun w => nm_e ?_) (fun w => ?_)⟩
  · rw [if_pos w] at hW
    exact hW
  · rw [if_neg w] at hW
    exact hW
theorem sx_inv25 {post : Int32 → Prop} {J : Int32 → Int32 → Prop} {j s r : Nat} {a : Int32} (h5 : n ≤ 5) (hr : r < n) (hj : j < 429) (hst : st j = nI s) (hs : s + n * n ≤ 10725)
    (hJ : J (a + sm_sum (fun c => en (s + (r * n + c)) * sm_B (fun q => en (s + q)) n r c) n) (nI (r + 1))) :
    ∃ k, wX_inversions_25 post J (nI j) (nI r) (nI n) pls gc fc en st al hd dr k a 0 := by
  refine loop_0 (fun k i x => wX_inversions_25 post J (nI j) (nI r) (nI n) pls gc fc en st al hd dr k x (nI i)) (fun i x => x = a + sm_sum (fun c => en (s + (r * n + c)) * sm_B (fun q => en (s + q)) n r c) i) n a (Int32.add_zero a).symm ?_ ?_
  · rintro k x rfl
    exact br_t (nI_le (Nat.le_refl _) (by omega)) (nm_r (nI_1 r) hJ)
  · rintro k i x hi rfl hk
    have hl := sm_rc_lt hr hi
    have hnn := sm_nn h5
    refine br_f (nI_ge hi (by omega)) ?_
    rw [nI_clamp (n := j) (by omega), hst]
    refine ⟨vp_in_nI hj (by decide), sx_below h5 hr hi rfl rfl rfl hs ?_⟩
    rw [pk_mul, nI_add, nI_add, nI_clamp (by omega), Nat.add_assoc]
    refine ⟨vp_in_nI hj (by decide), vp_in_nI (by omega) (by decide), nm_e (nm_r (nI_1 i) (hk _ ?_))⟩
    rw [Int32.add_assoc]
    rfl
theorem sx_inv14 {post : Int32 → Prop} {j s : Nat} (h5 : n ≤ 5) (hj : j < 429) (hst : st j = nI s) (hs : s + n * n ≤ 10725) (hp : post (sm_I (fun q => en (s + q)) n)) :
    ∃ k, wX_inversions_14 post (nI j) (nI n) pls gc fc en st al hd dr k 0 0 := by
  refine loop_0 (fun k i x => wX_inversions_14 post (nI j) (nI n) pls gc fc en st al hd dr k x (nI i)) (fun i x => x = sm_sum (fun r => sm_sum (fun c => en (s + (r * n + c)) * sm_B (fun q => en (s + q)) n r c) n) i) n 0 rfl ?_ ?_
  · rintro k x rfl
    exact br_t (nI_le (Nat.le_refl _) (by omega)) hp
  · rintro k i x hi rfl hk
    exact br_f (nI_ge hi (by omega)) (sx_inv25 h5 hi hj hst hs (hk _ rfl))
def sm_Tq (n : Nat) (fo : Nat → Int32) (p q : Nat) : Int32 := if (p / 5 < n ∧ p % 5 < n) ∧ (q / 5 < n ∧ q % 5 < n) ∧ p / 5 < q / 5 ∧ q % 5 < p % 5 then fo p * fo q else 0
theorem sy_inv23 {post : Int32 → SY → Prop} {J : Int32 → Int32 → Prop} {p : Nat} {a : Int32} (h5 : n ≤ 5) (hp25 : p < 25) (hJ : J (a + sm_sum (sm_Tq n fo p) 25) (nI (p + 1))) :
    ∃ k, wY_inversions_23 post J (nI p) (nI n) dp al hd sq fo ot pa k a 0 := by
  refine loop_0 (fun k i x => wY_inversions_23 post J (nI p) (nI n) dp al hd sq fo ot pa k x (nI i)) (fun i x => x = a + sm_sum (sm_Tq n fo p) i) 25 a (Int32.add_zero a).symm ?_ ?_
  · rintro k x rfl
    exact br_t sm_25e (nm_r (nI_1 p) hJ)
  · rintro k i x hi rfl hk
    have five : ¬ (5 : Int32) = 0 := by decide
    have no : ¬ ((p / 5 < n ∧ p % 5 < n) ∧ (i / 5 < n ∧ i % 5 < n) ∧ p / 5 < i / 5 ∧ i % 5 < p % 5) → wY_inversions_82 post J (wY_inversions_23 post J (nI p) (nI n) dp al hd sq fo ot pa k) (a + sm_sum (sm_Tq n fo p) i) (nI p) (nI i) (nI n) dp al hd sq fo ot pa := by
      intro h
      refine br_t rfl (nm_r (nI_1 i) (hk _ ?_))
      show _ = a + (sm_sum (sm_Tq n fo p) i + sm_Tq n fo p i)
      unfold sm_Tq
      rw [if_neg h, Int32.add_zero]
    refine br_f (sm_25 hi) ⟨five, five, ?_⟩
    rw [sm_m5 (p := p) (by omega), sm_d5 (p := p) (by omega), sm_m5 (p := i) (by omega), sm_d5 (p := i) (by omega)]
    refine sy_isPlace h5 (fun h => br_t rfl (no (fun z => h _ _ z.1.1 z.1.2 rfl rfl))) (fun r c hr hc e1 e2 => br_f (by decide) ⟨five, five, ?_⟩)
    have e1' := (nI_eq (by omega) (by omega)).mp e1
    have e2' := (nI_eq (by omega) (by omega)).mp e2
    refine sy_isPlace h5 (fun h => br_t rfl (no (fun z => h _ _ z.2.1.1 z.2.1.2 rfl rfl))) (fun r2 c2 hr2 hc2 e3 e4 => br_f (by decide) ⟨five, five, ?_⟩)
    have e3' := (nI_eq (by omega) (by omega)).mp e3
    have e4' := (nI_eq (by omega) (by omega)).mp e4
    refine pk_le (i / 5) (p / 5) (fun z => no (by omega)) (fun z => ⟨five, five, pk_le (p % 5) (i % 5) (fun w => no (by omega)) (fun w => ?_)⟩)
    refine br_f (by decide) ?_
    rw [nI_clamp (by omega), nI_clamp (by omega)]
    refine ⟨vp_in_nI hp25 (by decide), vp_in_nI hi (by decide), nm_e (nm_r (nI_1 i) (hk _ ?_))⟩
    show _ = a + (sm_sum (sm_Tq n fo p) i + sm_Tq n fo p i)
    rw [Int32.add_assoc]
    congr 2
    unfold sm_Tq
    rw [if_pos (by omega)]
theorem sy_inv14 {post : Int32 → SY → Prop} {e : Nat → Int32} (h5 : n ≤ 5) (hf : ∀ i j, i < n → j < n → fo (5 * i + j) = e (i * n + j)) (hp : post (sm_I e n) (nI n, dp, al, hd, sq, fo, ot, pa)) :
    ∃ k, wY_inversions_14 post (nI n) dp al hd sq fo ot pa k 0 0 := by
  refine loop_0 (fun k i x => wY_inversions_14 post (nI n) dp al hd sq fo ot pa k x (nI i)) (fun i x => x = sm_sum (fun p => sm_sum (sm_Tq n fo p) 25) i) 25 0 rfl ?_ ?_
  · rintro k x rfl
    refine br_t sm_25e ?_
    rw [sm_inv h5 hf (sm_Tq n fo) (fun p q => ⟨fun h => if_pos h, fun h => if_neg h⟩)]
    exact hp
  · rintro k i x hi rfl hk
    exact br_f (sm_25 hi) (sy_inv23 h5 hi (hk _ rfl))
end
theorem i_vc_negatives {k : Nat} {u : SX} {v : SY} (I : i_Rel k u v) (hk : k + 4 ≤ 2049) (v1 : Int32) : wpX_negatives (fun r => wpY_negatives (fun r' v' => r' = r ∧ i_Rel (k + 4) u v') v v1) u v1 := by
  obtain ⟨n, en, st, al, hd, dr, dp, al2, hd2, sq, fo, ot, pa, rfl, rfl, h1, h5, hE, hS, hA, hH⟩ := I
  have hR : sm_Rel n en st al hd al2 hd2 := ⟨h1, h5, hE, hS, hA, hH⟩
  exact sx_negatives h5 (sm_F_len h1 h5) hS (fun v hv => sm_G_wd (sm_F_G hv)) (sy_negatives h1 h5 hA (fun dp' sq' => ⟨rfl, sm_mk_rel _ hR⟩))
theorem i_vc_weight {k : Nat} {u : SX} {v : SY} (I : i_Rel k u v) (hk : k + 4 ≤ 2049) (v1 : Int32) : wpX_weight (fun r => wpY_weight (fun r' v' => r' = r ∧ i_Rel (k + 4) u v') v v1) u v1 := by
  obtain ⟨n, en, st, al, hd, dr, dp, al2, hd2, sq, fo, ot, pa, rfl, rfl, h1, h5, hE, hS, hA, hH⟩ := I
  have hR : sm_Rel n en st al hd al2 hd2 := ⟨h1, h5, hE, hS, hA, hH⟩
  exact sx_weight h5 (sm_F_len h1 h5) hS (fun v hv => sm_G_wd (sm_F_G hv)) (sy_weight h1 h5 hA (fun dp' sq' => ⟨rfl, sm_mk_rel _ hR⟩))
theorem i_vc_having {k : Nat} {u : SX} {v : SY} (I : i_Rel k u v) (hk : k + 4 ≤ 2049) (v1 : Int32) (v2 : Int32) (v3 : Int32) : wpX_having (fun r => wpY_having (fun r' v' => r' = r ∧ i_Rel (k + 4) u v') v v1 v2 v3) u v1 v2 v3 := by
  obtain ⟨n, en, st, al, hd, dr, dp, al2, hd2, sq, fo, ot, pa, rfl, rfl, h1, h5, hE, hS, hA, hH⟩ := I
  have hR : sm_Rel n en st al hd al2 hd2 := ⟨h1, h5, hE, hS, hA, hH⟩
  unfold wpX_having wpY_having
  dsimp only
  refine sx_isPlace h5 (fun hbad => br_t rfl ?_) (fun i j hi hj e1 e2 => br_f (by decide) ?_)
  · exact sy_isPlace_f h5 hbad (br_t rfl ⟨rfl, sm_mk_rel _ hR⟩)
  · subst e1 e2
    refine br_c (fun z => br_t rfl ?_) (fun z => br_c (fun z2 => br_t rfl ?_) (fun z2 => br_f (by decide) ?_))
    · exact sy_isPlace_t h5 hi hj (br_f (by decide) (br_t z ⟨rfl, sm_mk_rel _ hR⟩))
    · exact sy_isPlace_t h5 hi hj (br_f (by decide) (br_f z (br_f (Int32.not_le.mpr z2) ⟨rfl, sm_mk_rel _ hR⟩)))
    · refine sx_having h5 hi hj (sm_F_len h1 h5) hS ?_
      refine sy_isPlace_t h5 hi hj (br_f (by decide) (br_f z (br_t (Int32.not_lt.mp z2) (nm_e ?_))))
      exact sy_having h1 h5 hi hj hA (fun dp' sq' => ⟨rfl, sm_mk_rel _ hR⟩)
theorem i_vc_corner {k : Nat} {u : SX} {v : SY} (I : i_Rel k u v) (hk : k + 4 ≤ 2049) (v1 : Int32) (v2 : Int32) (v3 : Int32) : wpX_corner (fun r => wpY_corner (fun r' v' => r' = r ∧ i_Rel (k + 4) u v') v v1 v2 v3) u v1 v2 v3 := by
  obtain ⟨n, en, st, al, hd, dr, dp, al2, hd2, sq, fo, ot, pa, rfl, rfl, h1, h5, hE, hS, hA, hH⟩ := I
  have hR : sm_Rel n en st al hd al2 hd2 := ⟨h1, h5, hE, hS, hA, hH⟩
  have hFl := sm_F_len (A := al) h1 h5
  unfold wpX_corner wpY_corner
  dsimp only
  refine sx_isNumber (by omega) (fun hb => br_t rfl ?_) (fun j hj e => br_f (by decide) ?_)
  · exact sy_find_f h1 h5 hA hb (fun _ _ _ => br_t rfl ⟨rfl, sm_mk_rel _ hR⟩)
  · subst e
    obtain ⟨v, hv, _, _, _, _⟩ := sm_F_get hj
    obtain ⟨s, s1, s2, s3⟩ := hS j v hv
    refine sx_isPlace h5 (fun hbad => br_t rfl ?_) (fun r c hr hc e1 e2 => br_f (by decide) ?_)
    · exact sy_find_t h1 h5 hA hj hv (fun dp' sq' fo' hfo => br_f (by decide) (sy_isPlace_f h5 hbad (br_t rfl ⟨rfl, sm_mk_rel _ hR⟩)))
    · subst e1 e2
      rw [nI_clamp (by omega), s1]
      refine ⟨vp_in_nI (by omega) (by decide), sx_corner h5 hr hc rfl rfl rfl s2 ?_⟩
      refine sy_find_t h1 h5 hA hj hv (fun dp' sq' fo' hfo => br_f (by decide) (sy_isPlace_t h5 hr hc (br_f (by decide) (sy_corner (by omega) (by omega) rfl rfl ⟨?_, sm_mk_rel _ hR⟩))))
      refine sm_corner h5 hr hc (fun a b ha hb => ?_)
      dsimp only
      rw [← sm_pl_rc hb, hfo _ (sm_rc_lt ha hb), s3 _ (sm_rc_lt ha hb)]
theorem i_vc_inversions {k : Nat} {u : SX} {v : SY} (I : i_Rel k u v) (hk : k + 4 ≤ 2049) (v1 : Int32) : wpX_inversions (fun r => wpY_inversions (fun r' v' => r' = r ∧ i_Rel (k + 4) u v') v v1) u v1 := by
  obtain ⟨n, en, st, al, hd, dr, dp, al2, hd2, sq, fo, ot, pa, rfl, rfl, h1, h5, hE, hS, hA, hH⟩ := I
  have hR : sm_Rel n en st al hd al2 hd2 := ⟨h1, h5, hE, hS, hA, hH⟩
  have hFl := sm_F_len (A := al) h1 h5
  unfold wpX_inversions wpY_inversions
  dsimp only
  refine sx_isNumber (by omega) (fun hb => br_t rfl ?_) (fun j hj e => br_f (by decide) ?_)
  · exact sy_find_f h1 h5 hA hb (fun _ _ _ => br_t rfl ⟨rfl, sm_mk_rel _ hR⟩)
  · subst e
    obtain ⟨v, hv, _, _, _, _⟩ := sm_F_get hj
    obtain ⟨s, s1, s2, s3⟩ := hS j v hv
    refine sx_inv14 h5 (by omega) s1 s2 ?_
    refine sy_find_t h1 h5 hA hj hv (fun dp' sq' fo' hfo => br_f (by decide) (sy_inv14 h5 (fun a b ha hb => ?_) ⟨rfl, sm_mk_rel _ hR⟩))
    dsimp only
    rw [← sm_pl_rc hb, hfo _ (sm_rc_lt ha hb), s3 _ (sm_rc_lt ha hb)]
end
section
/-! mix -/
def sm_due (w A B : Int32) : Int32 := if w = 0 then (if A ≤ B then B else A) else A + B - (if A ≤ B then B else A)
theorem sm_due_0 {w A B : Int32} (h : w = 0) : sm_due w A B = if A ≤ B then B else A := if_pos h
theorem sm_due_1 {w A B : Int32} (h : ¬ w = 0) : sm_due w A B = if B ≤ A then B else A := by
  unfold sm_due
  rw [if_neg h]
  by_cases h1 : A ≤ B
  · rw [if_pos h1]
    by_cases h2 : B ≤ A
    · rw [if_pos h2]
      have : A = B := Int32.le_antisymm h1 h2
      rw [this]
      grind
    · rw [if_neg h2]
      grind
  · rw [if_neg h1, if_pos (Int32.le_of_lt (Int32.not_le.mp h1))]
    grind
def sm_D (n : Nat) (w : Int32) (e f : Nat → Int32) (r c : Nat) : Int32 := sm_due w (sm_C e n r c) (sm_C f n r c)
section
variable {n : Nat} {sz dp pls gc fc : Int32} {al hd sq fo ot pa en st dr : Nat → Int32}
theorem sx_mix15 {post : Int32 → Prop} {J : Int32 → Prop} {s a b r : Nat} {w : Int32} (h5 : n ≤ 5) (hr : r < n) (hs : s + n * n ≤ 10725) (ha : a + n * n ≤ 10725) (hb : b + n * n ≤ 10725)
    (ht : (∀ c, c < n → sm_C (fun q => en (s + q)) n r c = sm_D n w (fun q => en (a + q)) (fun q => en (b + q)) r c) → J (nI (r + 1)))
    (hf : (¬ ∀ c, c < n → sm_C (fun q => en (s + q)) n r c = sm_D n w (fun q => en (a + q)) (fun q => en (b + q)) r c) → post 0) :
    ∃ k, wX_isMix_15 post J (nI s) (nI a) (nI b) w (nI r) (nI n) pls gc fc en st al hd dr k 0 := by
  refine loop_0 (fun k i (_ : Unit) => wX_isMix_15 post J (nI s) (nI a) (nI b) w (nI r) (nI n) pls gc fc en st al hd dr k (nI i)) (fun i _ => ∀ c, c < i → sm_C (fun q => en (s + q)) n r c = sm_D n w (fun q => en (a + q)) (fun q => en (b + q)) r c) n () (fun q h => absurd h (Nat.not_lt_zero q)) ?_ ?_
  · intro k _ h
    exact br_t (nI_le (Nat.le_refl _) (by omega)) (nm_r (nI_1 r) (ht h))
  · intro k i _ hi h hk
    have fin : ∀ z, z = sm_D n w (fun q => en (a + q)) (fun q => en (b + q)) r i → wX_isMix_80 post (J) (wX_isMix_15 post J (nI s) (nI a) (nI b) w (nI r) (nI n) pls gc fc en st al hd dr k) (nI s) (nI a) (nI b) w (nI r) (nI i) z (nI n) pls gc fc en st al hd dr := by
      rintro _ rfl
      refine sx_corner h5 hr hi rfl rfl rfl hs (br_c (fun z => nm_r (nI_1 i) (hk () ?_)) (fun z => hf (fun q => z (q i hi))))
      intro c hc
      by_cases e : c = i
      · subst e
        exact z
      · exact h c (by omega)
    have mid : ∀ z, z = (if sm_C (fun q => en (a + q)) n r i ≤ sm_C (fun q => en (b + q)) n r i then sm_C (fun q => en (b + q)) n r i else sm_C (fun q => en (a + q)) n r i) →
        wX_isMix_60 post J (wX_isMix_15 post J (nI s) (nI a) (nI b) w (nI r) (nI n) pls gc fc en st al hd dr k) (nI s) (nI a) (nI b) w (nI r) (nI i) (sm_C (fun q => en (a + q)) n r i) (sm_C (fun q => en (b + q)) n r i) z (nI n) pls gc fc en st al hd dr := by
      rintro _ rfl
      refine br_c (fun z => fin _ ?_) (fun z => fin _ ?_)
      · unfold sm_D sm_due
        rw [if_pos z]
      · unfold sm_D sm_due
        rw [if_neg z]
    refine br_f (nI_ge hi (by omega)) (sx_corner h5 hr hi rfl rfl rfl ha (sx_corner h5 hr hi rfl rfl rfl hb ?_))
    exact br_c (fun z => mid _ (by rw [if_pos z])) (fun z => mid _ (by rw [if_neg z]))
theorem sx_isMix {post : Int32 → Prop} {s a b : Nat} {w x y z : Int32} (h5 : n ≤ 5) (hx : x = nI s) (hy : y = nI a) (hz : z = nI b) (hs : s + n * n ≤ 10725) (ha : a + n * n ≤ 10725) (hb : b + n * n ≤ 10725)
    (ht : (∀ r c, r < n → c < n → sm_C (fun q => en (s + q)) n r c = sm_D n w (fun q => en (a + q)) (fun q => en (b + q)) r c) → post 1)
    (hf : (¬ ∀ r c, r < n → c < n → sm_C (fun q => en (s + q)) n r c = sm_D n w (fun q => en (a + q)) (fun q => en (b + q)) r c) → post 0) :
    wpX_isMix post (nI n, pls, gc, fc, en, st, al, hd, dr) x y z w := by
  subst hx hy hz
  refine loop_0 (fun k i (_ : Unit) => wX_isMix_3 post (nI s) (nI a) (nI b) w (nI n) pls gc fc en st al hd dr k (nI i)) (fun i _ => ∀ r c, r < i → c < n → sm_C (fun q => en (s + q)) n r c = sm_D n w (fun q => en (a + q)) (fun q => en (b + q)) r c) n () (fun q c h => absurd h (Nat.not_lt_zero q)) ?_ ?_
  · intro k _ h
    exact br_t (nI_le (Nat.le_refl _) (by omega)) (ht h)
  · intro k i _ hi h hk
    refine br_f (nI_ge hi (by omega)) (sx_mix15 h5 hi hs ha hb (fun z => hk () ?_) (fun z => hf (fun q => z (fun c hc => q i c hi hc))))
    intro r c hr hc
    by_cases e : r = i
    · subst e
      exact z c hc
    · exact h r c (by omega) hc
/-- the word whose entries are the differences of D -/
def sm_mixP (n : Nat) (D : Nat → Nat → Int32) (v : List Nat) : Bool := decide (∀ q, q < n * n → sm_e (sm_dg v q) = sm_df D (q / n) (q % n))
theorem sm_mixP_iff {D : Nat → Nat → Int32} {v : List Nat} {s : Nat} (hv : ∀ q, q < n * n → en (s + q) = sm_e (sm_dg v q)) : sm_mixP n D v = true ↔ ∀ r c, r < n → c < n → sm_C (fun q => en (s + q)) n r c = D r c := by
  rw [sm_mixiff]
  unfold sm_mixP
  rw [decide_eq_true_iff]
  constructor
  · intro h r c hr hc
    have := h _ (sm_rc_lt hr hc)
    rw [sm_rd hc, sm_rmd hc] at this
    show en (s + (r * n + c)) = _
    rw [hv _ (sm_rc_lt hr hc)]
    exact this
  · intro h q hq
    have := h (q / n) (q % n) (sm_q_r hq) (sm_q_c hq)
    rw [sm_q_eq] at this
    rw [← hv q hq]
    exact this
theorem sx_mix33 {post : Int32 → Prop} {F : List (List Nat)} {w : Int32} {j l a b : Nat} (h5 : n ≤ 5) (hF : F.length ≤ 429) (hS : sm_ST (n * n) en st F) (hj : j < 429) (hl : l < 429) (sj : st j = nI a) (sl : st l = nI b) (ha : a + n * n ≤ 10725) (hb : b + n * n ≤ 10725)
    (hp : post (sm_first (-3) (sm_mixP n (sm_D n w (fun q => en (a + q)) (fun q => en (b + q)))) F 0)) :
    ∃ k, wX_mix_33 post (nI j) (nI l) w (nI n) pls gc (nI F.length) en st al hd dr k 0 := by
  refine ⟨F.length + 1, ?_⟩
  refine sm_firstX (-3) F _ (fun k i => wX_mix_33 post (nI j) (nI l) w (nI n) pls gc (nI F.length) en st al hd dr k (nI i)) post ?_ ?_ F 0 (F.length + 1) (Nat.zero_le _) List.drop_zero (Nat.lt_succ_self _) hp
  · intro k hp
    exact br_t (nI_le (Nat.le_refl _) (by omega)) hp
  · intro k i v hi hv ht hf
    obtain ⟨s, s1, s2, s3⟩ := hS i v hv
    refine br_f (nI_ge hi (by omega)) ?_
    rw [nI_clamp (n := i) (by omega), nI_clamp (n := j) (by omega), nI_clamp (n := l) (by omega), s1, sj, sl]
    refine ⟨vp_in_nI (by omega) (by decide), vp_in_nI hj (by decide), vp_in_nI hl (by decide), sx_isMix h5 rfl rfl rfl s2 ha hb (fun z => br_f (by decide) (ht ((sm_mixP_iff s3).mpr z))) (fun z => br_t rfl (nm_r (nI_1 i) (hf ?_)))⟩
    cases e : sm_mixP n (sm_D n w (fun q => en (a + q)) (fun q => en (b + q))) v with
    | false => rfl
    | true => exact absurd ((sm_mixP_iff s3).mp e) z
/-- Y's differences -/
def sm_dY (o : Nat → Int32) (p : Nat) : Int32 := o p - (if 5 ≤ p then o (p - 5) else 0) - (if 1 ≤ p % 5 then o (p - 1) else 0) + (if 5 ≤ p ∧ 1 ≤ p % 5 then o (p - 6) else 0)
theorem sm_dY_df {D : Nat → Nat → Int32} {o : Nat → Int32} (h5 : n ≤ 5) (ho : ∀ r c, r < n → c < n → o (5 * r + c) = D r c) {r c : Nat} (hr : r < n) (hc : c < n) : sm_dY o (5 * r + c) = sm_df D r c := by
  unfold sm_dY sm_df sm_up
  rw [sm_mod5 (by omega), ho r c hr hc]
  by_cases h1 : 1 ≤ r
  · rw [if_pos (show 5 ≤ 5 * r + c by omega), show 5 * r + c - 5 = 5 * (r - 1) + c by omega, ho (r - 1) c (by omega) hc, if_pos h1]
    by_cases h2 : 1 ≤ c
    · rw [if_pos h2, show 5 * r + c - 1 = 5 * r + (c - 1) by omega, ho r (c - 1) hr (by omega), if_pos (show 5 ≤ 5 * r + c ∧ 1 ≤ c by omega), show 5 * r + c - 6 = 5 * (r - 1) + (c - 1) by omega, ho (r - 1) (c - 1) (by omega) (by omega), if_pos h2, if_pos h2, if_pos h1]
    · rw [if_neg h2, if_neg (show ¬ (5 ≤ 5 * r + c ∧ 1 ≤ c) by omega), if_neg h2, if_neg h2]
  · rw [if_neg (show ¬ 5 ≤ 5 * r + c by omega), if_neg h1]
    by_cases h2 : 1 ≤ c
    · rw [if_pos h2, show 5 * r + c - 1 = 5 * r + (c - 1) by omega, ho r (c - 1) hr (by omega), if_neg (show ¬ (5 ≤ 5 * r + c ∧ 1 ≤ c) by omega), if_pos h2, if_pos h2, if_neg h1]
    · rw [if_neg h2, if_neg (show ¬ (5 ≤ 5 * r + c ∧ 1 ≤ c) by omega), if_neg h2, if_neg h2]
theorem sy_mix210 {post : Int32 → SY → Prop} (hp : ∀ ot', (∀ p, p < 25 → ot' p = sm_dY ot p) → wpY_numberOf (fun r u => match u with | (f1, f2, f3, f4, f5, f6, f7, f8) => ((0 ≤ r → post r (f1, f2, f3, f4, f5, f6, f7, f8)) ∧ (¬ 0 ≤ r → post (-3) (f1, f2, f3, f4, f5, f6, f7, f8)))) (sz, dp, al, hd, sq, fo, ot', pa) 0) :
    ∃ k, wY_mix_210 post sz dp k 24 al hd sq fo ot pa := by
  refine ⟨26, ?_⟩
  have h24 : (24 : Int32) = sm_e 25 := by decide
  rw [h24]
  refine pk_loopD (fun k i o => wY_mix_210 post sz dp k (sm_e i) al hd sq fo o pa) (fun i o => (∀ p, p < i → o p = ot p) ∧ (∀ p, i ≤ p → p < 25 → o p = sm_dY ot p) ∧ i ≤ 25) ?_ ?_ 25 ot ⟨fun _ _ => rfl, fun p h1 h2 => absurd h1 (by omega), by omega⟩
  · rintro k o ⟨_, h2, _⟩
    exact br_t (by decide) (hp o (fun p hp => h2 p (Nat.zero_le _) hp))
  · rintro k i o ⟨h1, h2, h3⟩ hk
    have five : ¬ (5 : Int32) = 0 := by decide
    have c0 : (nI i).toNatClampNeg = i := nI_clamp (by omega)
    have hin : vp_in (nI i) 25 := vp_in_nI (by omega) (by decide)
    have em : nI i + (-1) = sm_e i := by
      rw [sm_e_def, Int32.sub_eq_add_neg]
    have hm : nI i - nI i / 5 * 5 = nI (i % 5) := sm_m5 (by omega)
    have l5 : nI i < 5 ↔ i < 5 := nI_ltI (b := 5) (by omega) (by decide)
    have l0 : nI (i % 5) ≤ 0 ↔ i % 5 ≤ 0 := nI_leI (b := 0) (by omega) (by decide)
    have s285 : ∀ x y z, x = (if 5 ≤ i then ot (i - 5) else 0) → y = (if 1 ≤ i % 5 then ot (i - 1) else 0) → z = (if 5 ≤ i ∧ 1 ≤ i % 5 then ot (i - 6) else 0) → wY_mix_285 post (wY_mix_210 post sz dp k) (nI i) x y z sz dp al hd sq fo o pa := by
      rintro _ _ _ rfl rfl rfl
      refine ⟨hin, hin, nm_e (nm_r em (hk _ ⟨?_, ?_, by omega⟩))⟩
      · intro p hp
        rw [c0, pk_un (by omega)]
        exact h1 p (by omega)
      · intro p hp1 hp2
        rw [c0]
        by_cases e : p = i
        · subst e
          rw [pk_us, h1 p (by omega)]
          rfl
        · rw [pk_un e]
          exact h2 p (by omega) hp2
    have s256 : ∀ x y, x = (if 5 ≤ i then ot (i - 5) else 0) → y = (if 1 ≤ i % 5 then ot (i - 1) else 0) → wY_mix_256 post (wY_mix_210 post sz dp k) (nI i) x y sz dp al hd sq fo o pa := by
      intro x y hx hy
      refine br_c (fun z => s285 _ _ _ hx hy ?_) (fun z => ⟨five, br_c (fun z2 => s285 _ _ _ hx hy ?_) (fun z2 => ⟨?_, s285 _ _ _ hx hy ?_⟩)⟩)
      · rw [l5] at z
        rw [if_neg (by omega)]
      · rw [hm, l0] at z2
        rw [if_neg (by omega)]
      · rw [l5] at z
        rw [hm, l0] at z2
        rw [show nI i - 6 = nI (i - 6) from pk_sub (b := 6) (by omega)]
        exact vp_in_nI (by omega) (by decide)
      · rw [l5] at z
        rw [hm, l0] at z2
        rw [show nI i - 6 = nI (i - 6) from pk_sub (b := 6) (by omega), nI_clamp (by omega), if_pos (by omega), h1 _ (by omega)]
    have s234 : ∀ x, x = (if 5 ≤ i then ot (i - 5) else 0) → wY_mix_234 post (wY_mix_210 post sz dp k) (nI i) x sz dp al hd sq fo o pa := by
      intro x hx
      refine ⟨five, br_c (fun z2 => s256 _ _ hx ?_) (fun z2 => ⟨?_, s256 _ _ hx ?_⟩)⟩
      · rw [hm, l0] at z2
        rw [if_neg (by omega)]
      · rw [hm, l0] at z2
        rw [show nI i - 1 = nI (i - 1) from pk_sub (b := 1) (by omega)]
        exact vp_in_nI (by omega) (by decide)
      · rw [hm, l0] at z2
        rw [show nI i - 1 = nI (i - 1) from pk_sub (b := 1) (by omega), nI_clamp (by omega), if_pos (by omega), h1 _ (by omega)]
    rw [sm_eS]
    refine br_f (nI_pos (by omega)) (br_c (fun z => s234 _ ?_) (fun z => ⟨?_, s234 _ ?_⟩))
    · rw [l5] at z
      rw [if_neg (by omega)]
    · rw [l5] at z
      rw [show nI i - 5 = nI (i - 5) from pk_sub (b := 5) (by omega)]
      exact vp_in_nI (by omega) (by decide)
    · rw [l5] at z
      rw [show nI i - 5 = nI (i - 5) from pk_sub (b := 5) (by omega), nI_clamp (by omega), if_pos (by omega), h1 _ (by omega)]
theorem sy_mix93 {post : Int32 → SY → Prop} {w : Int32} {e : Nat → Int32} {C : Nat → Nat → Int32} (h5 : n ≤ 5) (hf : ∀ i j, i < n → j < n → fo (5 * i + j) = e (i * n + j)) (ho : ∀ r c, r < n → c < n → ot (5 * r + c) = C r c)
    (hp : ∀ ot', (∀ r c, r < n → c < n → ot' (5 * r + c) = sm_due w (sm_C e n r c) (C r c)) → ∃ k, wY_mix_210 post (nI n) dp k 24 al hd sq fo ot' pa) :
    ∃ k, wY_mix_93 post w (nI n) dp k 0 al hd sq fo ot pa := by
  refine loop_0 (fun k i o => wY_mix_93 post w (nI n) dp k (nI i) al hd sq fo o pa) (fun i o => ∀ r c, r < n → c < n → o (5 * r + c) = if 5 * r + c < i then sm_due w (sm_C e n r c) (C r c) else C r c) 25 ot (fun r c hr hc => by rw [if_neg (by omega)]; exact ho r c hr hc) ?_ ?_
  · intro k o h
    exact br_t sm_25e (hp o (fun r c hr hc => by rw [h r c hr hc, if_pos (by omega)]))
  · intro k i o hi h hk
    have five : ¬ (5 : Int32) = 0 := by decide
    have c0 : (nI i).toNatClampNeg = i := nI_clamp (by omega)
    have hin : vp_in (nI i) 25 := vp_in_nI (by omega) (by decide)
    have step : ∀ x, (∀ r c, r < n → c < n → 5 * r + c = i → x = sm_due w (sm_C e n r c) (C r c)) → wY_mix_93 post w (nI n) dp k (nI (i + 1)) al hd sq fo (upd o i x) pa := by
      intro x hx
      refine hk _ ?_
      intro r c hr hc
      by_cases q : 5 * r + c = i
      · rw [if_pos (by omega), ← hx r c hr hc q, q, pk_us]
      · rw [pk_un q, h r c hr hc]
        by_cases q2 : 5 * r + c < i
        · rw [if_pos q2, if_pos (by omega)]
        · rw [if_neg q2, if_neg (by omega)]
    have go : ∀ z, (∀ r c, r < n → c < n → 5 * r + c = i → z = sm_C e n r c) → wY_mix_131 post (wY_mix_93 post w (nI n) dp k) w (nI i) z (nI n) dp al hd sq fo o pa := by
      intro z hz
      have old : ∀ r c, r < n → c < n → 5 * r + c = i → o i = C r c := by
        intro r c hr hc q
        have := h r c hr hc
        rw [if_neg (by omega), q] at this
        exact this
      refine br_c (fun w0 => ⟨hin, ?_⟩) (fun w0 => ⟨hin, ?_⟩)
      · rw [c0]
        refine br_c (fun le => ?_) (fun le => ?_)
        · refine br_t rfl ⟨hin, hin, nm_e (nm_r (nI_1 i) ?_)⟩
          rw [c0]
          refine step _ (fun r c hr hc q => ?_)
          rw [sm_due_0 w0, ← hz r c hr hc q, ← old r c hr hc q, if_pos le]
        · refine br_f (by decide) ⟨hin, nm_e (nm_r (nI_1 i) ?_)⟩
          rw [c0]
          refine step _ (fun r c hr hc q => ?_)
          rw [sm_due_0 w0, ← hz r c hr hc q, ← old r c hr hc q, if_neg le]
      · rw [c0]
        refine br_c (fun le => ?_) (fun le => ?_)
        · refine br_t rfl ⟨hin, hin, nm_e (nm_r (nI_1 i) ?_)⟩
          rw [c0]
          refine step _ (fun r c hr hc q => ?_)
          rw [sm_due_1 w0, ← hz r c hr hc q, ← old r c hr hc q, if_pos le]
        · refine br_f (by decide) ⟨hin, nm_e (nm_r (nI_1 i) ?_)⟩
          rw [c0]
          refine step _ (fun r c hr hc q => ?_)
          rw [sm_due_1 w0, ← hz r c hr hc q, ← old r c hr hc q, if_neg le]
    refine br_f (sm_25 hi) ⟨five, five, ?_⟩
    rw [sm_m5 (by omega), sm_d5 (by omega)]
    refine sy_isPlace h5 (fun hb => br_t rfl (go 0 (fun r c hr hc q => (hb r c hr hc ?_ ?_).elim))) (fun r c hr hc e1 e2 => br_f (by decide) ⟨five, five, ?_⟩)
    · rw [← q, sm_div5 (by omega)]
    · rw [← q, sm_mod5 (by omega)]
    · have e1' := (nI_eq (by omega) (by omega)).mp e1
      have e2' := (nI_eq (by omega) (by omega)).mp e2
      refine sy_corner (r := r) (c := c) (by omega) (by omega) e1 e2 (go _ (fun r' c' hr' hc' q => ?_))
      rw [sm_corner h5 hr hc hf, show r' = r by omega, show c' = c by omega]
theorem sy_mix33 {post : Int32 → SY → Prop} {w x : Int32} {e : Nat → Int32} (h5 : n ≤ 5) (hf : ∀ i j, i < n → j < n → fo (5 * i + j) = e (i * n + j))
    (hp : ∀ ot', (∀ r c, r < n → c < n → ot' (5 * r + c) = sm_C e n r c) → wpY_find (fun _ u => match u with | (f1, f2, f3, f4, f5, f6, f7, f8) => ∃ k, wY_mix_93 post w f1 f2 k 0 f3 f4 f5 f6 f7 f8) (nI n, dp, al, hd, sq, fo, ot', pa) x) :
    ∃ k, wY_mix_33 post x w (nI n) dp k 0 al hd sq fo ot pa := by
  refine loop_0 (fun k i o => wY_mix_33 post x w (nI n) dp k (nI i) al hd sq fo o pa) (fun i o => ∀ r c, r < n → c < n → 5 * r + c < i → o (5 * r + c) = sm_C e n r c) 25 ot (fun r c hr hc h => absurd h (Nat.not_lt_zero _)) ?_ ?_
  · intro k o h
    exact br_t sm_25e (hp o (fun r c hr hc => h r c hr hc (by omega)))
  · intro k i o hi h hk
    have five : ¬ (5 : Int32) = 0 := by decide
    have c0 : (nI i).toNatClampNeg = i := nI_clamp (by omega)
    have hin : vp_in (nI i) 25 := vp_in_nI (by omega) (by decide)
    have step : ∀ x, (∀ r c, r < n → c < n → 5 * r + c = i → x = sm_C e n r c) → (∀ r c, r < n → c < n → 5 * r + c < i + 1 → upd o (nI i).toNatClampNeg x (5 * r + c) = sm_C e n r c) := by
      intro x hx r c hr hc hlt
      rw [c0]
      by_cases q : 5 * r + c = i
      · rw [← hx r c hr hc q, q, pk_us]
      · rw [pk_un q, h r c hr hc (by omega)]
    refine br_f (sm_25 hi) ⟨five, five, ?_⟩
    rw [sm_m5 (by omega), sm_d5 (by omega)]
    refine sy_isPlace h5 (fun hb => br_t rfl ⟨hin, nm_e (nm_r (nI_1 i) (hk _ (step 0 (fun r c hr hc q => (hb r c hr hc ?_ ?_).elim))))⟩) (fun r c hr hc e1 e2 => br_f (by decide) ⟨five, five, ?_⟩)
    · rw [← q, sm_div5 (by omega)]
    · rw [← q, sm_mod5 (by omega)]
    · have e1' := (nI_eq (by omega) (by omega)).mp e1
      have e2' := (nI_eq (by omega) (by omega)).mp e2
      refine sy_corner (r := r) (c := c) (by omega) (by omega) e1 e2 ⟨hin, nm_e (nm_r (nI_1 i) (hk _ (step _ (fun r' c' hr' hc' q => ?_))))⟩
      rw [sm_corner h5 hr hc hf, show r' = r by omega, show c' = c by omega]
end
theorem i_vc_mix {k : Nat} {u : SX} {v : SY} (I : i_Rel k u v) (hk : k + 4 ≤ 2049) (v1 : Int32) (v2 : Int32) (v3 : Int32) : wpX_mix (fun r => wpY_mix (fun r' v' => r' = r ∧ i_Rel (k + 4) u v') v v1 v2 v3) u v1 v2 v3 := by
  obtain ⟨n, en, st, al, hd, dr, dp, al2, hd2, sq, fo, ot, pa, rfl, rfl, h1, h5, hE, hS, hA, hH⟩ := I
  have hR : sm_Rel n en st al hd al2 hd2 := ⟨h1, h5, hE, hS, hA, hH⟩
  have hFl := sm_F_len (A := al) h1 h5
  unfold wpX_mix wpY_mix
  dsimp only
  refine sx_isNumber (by omega) (fun hb => br_t rfl ?_) (fun j hj e => br_f (by decide) ?_)
  · exact sy_find_f h1 h5 hA hb (fun _ _ _ => br_t rfl ⟨rfl, sm_mk_rel _ hR⟩)
  · subst e
    obtain ⟨vj, hvj, _, _, _, _⟩ := sm_F_get hj
    obtain ⟨a, a1, a2, a3⟩ := hS j vj hvj
    refine sx_isNumber (by omega) (fun hb => br_t rfl ?_) (fun l hl e => br_f (by decide) ?_)
    · exact sy_find_t h1 h5 hA hj hvj (fun _ _ _ _ => br_f (by decide) (sy_find_f h1 h5 hA hb (fun _ _ _ => br_t rfl ⟨rfl, sm_mk_rel _ hR⟩)))
    · subst e
      obtain ⟨vl, hvl, _, _, _, _⟩ := sm_F_get hl
      obtain ⟨b, b1, b2, b3⟩ := hS l vl hvl
      have main : ∀ dp sq fo, (∀ q, q < n * n → fo (sm_pl n q) = sm_e (sm_dg vl q)) → ∃ k2, wY_mix_33 (fun r' v' => r' = sm_first (-3) (sm_mixP n (sm_D n v3 (fun q => en (a + q)) (fun q => en (b + q)))) (sm_F n al) 0 ∧ i_Rel (k + 4) (nI n, nI (n * n), nI (sm_G n).length, nI (sm_F n al).length, en, st, al, hd, dr) v') (nI j) v3 (nI n) dp k2 0 al2 hd2 sq fo ot pa := by
        intro dp sq fo hfo
        refine sy_mix33 (e := fun q => en (b + q)) h5 (fun r c hr hc => ?_) (fun ot1 h1o => ?_)
        · show fo (5 * r + c) = en (b + (r * n + c))
          rw [← sm_pl_rc hc, hfo _ (sm_rc_lt hr hc), b3 _ (sm_rc_lt hr hc)]
        · refine sy_find_t h1 h5 hA hj hvj (fun dp' sq' fo' hfo' => ?_)
          refine sy_mix93 (e := fun q => en (a + q)) h5 (fun r c hr hc => ?_) h1o (fun ot2 h2o => ?_)
          · show fo' (5 * r + c) = en (a + (r * n + c))
            rw [← sm_pl_rc hc, hfo' _ (sm_rc_lt hr hc), a3 _ (sm_rc_lt hr hc)]
          · refine sy_mix210 (fun ot3 h3o => ?_)
            refine sy_numberOf h1 h5 hA (Or.inl ⟨rfl, rfl⟩) (fun dp'' sq'' => ?_)
            have hcg : sm_first (-3) (sm_eqP n ot3) (sm_F n al) 0 = sm_first (-3) (sm_mixP n (sm_D n v3 (fun q => en (a + q)) (fun q => en (b + q)))) (sm_F n al) 0 := by
              apply sm_first_congr
              intro v _
              unfold sm_eqP sm_mixP
              rw [decide_eq_decide]
              have eqv : ∀ q, q < n * n → ot3 (sm_pl n q) = sm_df (sm_D n v3 (fun q => en (a + q)) (fun q => en (b + q))) (q / n) (q % n) := by
                intro q hq
                rw [h3o _ (sm_pl_lt h5 hq)]
                exact sm_dY_df h5 h2o (sm_q_r hq) (sm_q_c hq)
              exact ⟨fun h q hq => (h q hq).trans (eqv q hq), fun h q hq => (h q hq).trans (eqv q hq).symm⟩
            have h3 := sm_first_3 (sm_eqP n ot3) (sm_F n al) 0 (by omega)
            rw [hcg] at h3
            rcases h3 with ⟨x1, x2⟩ | ⟨x1, x2⟩
            · exact br_f (Int32.not_le.mpr x1) ⟨x2.symm, sm_mk_rel _ hR⟩
            · exact br_t (Int32.not_lt.mp x1) ⟨x2.symm, sm_mk_rel _ hR⟩
      refine br_c (fun z => ?_) (fun z => br_c (fun z2 => ?_) (fun z2 => ?_))
      · refine sx_mix33 h5 hFl hS (by omega) (by omega) a1 b1 a2 b2 ?_
        exact sy_find_t h1 h5 hA hj hvj (fun _ _ _ _ => br_f (by decide) (sy_find_t h1 h5 hA hl hvl (fun dp' sq' fo' hfo => br_f (by decide) (br_t z (main dp' sq' fo' hfo)))))
      · refine sx_mix33 h5 hFl hS (by omega) (by omega) a1 b1 a2 b2 ?_
        exact sy_find_t h1 h5 hA hj hvj (fun _ _ _ _ => br_f (by decide) (sy_find_t h1 h5 hA hl hvl (fun dp' sq' fo' hfo => br_f (by decide) (br_f z (br_t z2 (main dp' sq' fo' hfo))))))
      · exact sy_find_t h1 h5 hA hj hvj (fun _ _ _ _ => br_f (by decide) (sy_find_t h1 h5 hA hl hvl (fun dp' sq' fo' hfo => br_f (by decide) (br_f z (br_f z2 ⟨rfl, sm_mk_rel _ hR⟩)))))
end
section
/-! Y: edges -/
/-- the square found -/
def sm_YQ (n : Nat) (fo : Nat → Int32) (dg : Nat → Nat) : Prop := ∀ q, q < n * n → fo (sm_pl n q) = sm_e (dg q) ∧ dg q ≤ 2
theorem sm_brB {b : Bool} {A B : Prop} {c : Prop} (h : c ↔ b = true) (f : b = true → A) (g : b = false → B) : (c → A) ∧ (¬ c → B) := sm_brb h.symm f g
theorem sm_opG : ∀ n, n < 6 → ∀ e, e < 4 * n → (n ≤ e ↔ 1 ≤ e / n) ∧ (2 * n ≤ e ↔ 2 ≤ e / n) ∧ (3 * n ≤ e ↔ 3 ≤ e / n) := by decide +kernel
section
variable {post : Int32 → Prop} {sz dp : Int32} {al hd sq fo ot pa : Nat → Int32} {n : Nat} {dg : Nat → Nat} {on : Nat → Bool}
theorem sy_across {r c : Nat} {x y : Int32} (h5 : n ≤ 5) (hq : sm_YQ n fo dg) (hr : r < n) (hc : c < n) (hx : x = nI r) (hy : y = nI c) (hp : post (nI (sm_ns (fun j => dg (r * n + j)) (c + 1)) - nI (c + 1))) :
    wpY_sumAcross post (sz, dp, al, hd, sq, fo, ot, pa) x y := by
  subst hx hy
  refine loop_0 (fun k i a => wY_sumAcross_5 post (nI r) (nI c) sz dp al hd sq fo ot pa k a (nI i)) (fun i a => a = sm_sum (fun j => sm_e (dg (r * n + j))) i) (c + 1) 0 rfl ?_ ?_
  · rintro k a rfl
    refine br_t (nI_lt (by omega) (by omega)) ?_
    rw [sm_sum_e]
    exact hp
  · rintro k i a hi rfl hk
    refine br_f (nI_nlt (by omega) (by omega)) ?_
    rw [sm_5, nI_clamp (by omega), ← sm_pl_rc (n := n) (by omega), (hq _ (sm_rc_lt hr (by omega))).1]
    exact ⟨vp_in_nI (sm_pl_lt h5 (sm_rc_lt hr (by omega))) (by decide), nm_e (nm_r (nI_1 i) (hk _ rfl))⟩
theorem sy_down {r c : Nat} {x y : Int32} (h5 : n ≤ 5) (hq : sm_YQ n fo dg) (hr : r < n) (hc : c < n) (hx : x = nI r) (hy : y = nI c) (hp : post (nI (sm_ns (fun i => dg (c + i * n)) (r + 1)) - nI (r + 1))) :
    wpY_sumDown post (sz, dp, al, hd, sq, fo, ot, pa) x y := by
  subst hx hy
  refine loop_0 (fun k i a => wY_sumDown_5 post (nI r) (nI c) sz dp al hd sq fo ot pa k a (nI i)) (fun i a => a = sm_sum (fun j => sm_e (dg (c + j * n))) i) (r + 1) 0 rfl ?_ ?_
  · rintro k a rfl
    refine br_t (nI_lt (by omega) (by omega)) ?_
    rw [sm_sum_e]
    exact hp
  · rintro k i a hi rfl hk
    have hl : c + i * n < n * n := by
      rw [Nat.add_comm]
      exact sm_rc_lt (by omega) hc
    refine br_f (nI_nlt (by omega) (by omega)) ?_
    rw [sm_5, nI_clamp (by omega), ← sm_pl_cr hc, (hq _ hl).1]
    exact ⟨vp_in_nI (sm_pl_lt h5 hl) (by decide), nm_e (nm_r (nI_1 i) (hk _ rfl))⟩
theorem sy_leadsOut {r c s : Nat} {x y z : Int32} (h5 : n ≤ 5) (hq : sm_YQ n fo dg) (hr : r < n) (hc : c < n) (hs : s < 4) (hx : x = nI r) (hy : y = nI c) (hz : z = nI s) (ht : sm_lo n dg r c s = true → post 1) (hf : sm_lo n dg r c s = false → post 0) :
    wpY_leadsOut post (sz, dp, al, hd, sq, fo, ot, pa) x y z := by
  subst hx hy hz
  have hR : ∀ m, m ≤ n → sm_ns (fun j => dg (r * n + j)) m ≤ 10 := fun m hm => sm_ns2 (by omega) (fun j hj => (hq _ (sm_rc_lt hr (by omega))).2)
  have hC : ∀ m, m ≤ n → sm_ns (fun i => dg (c + i * n)) m ≤ 10 := fun m hm => sm_ns2 (by omega) (fun i hi => (hq _ (by rw [Nat.add_comm]; exact sm_rc_lt (by omega) hc)).2)
  rcases sm_four hs with rfl | rfl | rfl | rfl
  · refine br_t rfl (pk_eq r 0 (fun e => ht ?_) (fun e => ?_))
    · show (Nat.beq r 0 || _) = true
      rw [sm_beq_t e]
      rfl
    · have e0 : sm_lo n dg r c 0 = Nat.beq (sm_ns (fun i => dg (c + i * n)) r) r := by
        show (Nat.beq r 0 || _) = _
        rw [sm_beq_f e]
        rfl
      rw [e0] at ht hf
      refine sy_down (r := r - 1) h5 hq (by omega) hc (pk_sub (b := 1) (by omega)) rfl ?_
      rw [show r - 1 + 1 = r by omega, sm_z (by have := hC r (by omega); omega) (by omega)]
      exact sm_brb sm_beq ht hf
  · refine br_f (by decide) (br_t rfl (sy_across h5 hq hr hc rfl rfl ?_))
    rw [sm_z (by have := hR (c + 1) (by omega); omega) (by omega)]
    exact sm_brb sm_beq ht hf
  · refine br_f (by decide) (br_f (by decide) (br_t rfl (sy_down h5 hq hr hc rfl rfl ?_)))
    rw [sm_1 (by have := hC (r + 1) (by omega); omega) (by omega)]
    exact sm_brb sm_beq ht hf
  · refine br_f (by decide) (br_f (by decide) (br_f (by decide) (pk_le c 0 (fun e => hf ?_) (fun e => ?_))))
    · show (Nat.ble 1 c && _) = false
      rw [show c = 0 by omega]
      rfl
    · have e0 : sm_lo n dg r c 3 = Nat.beq (sm_ns (fun j => dg (r * n + j)) c) (c + 1) := by
        show (Nat.ble 1 c && _) = _
        rw [Nat.ble_eq_true_of_le (show 1 ≤ c by omega)]
        rfl
      rw [e0] at ht hf
      refine sy_across (c := c - 1) h5 hq hr (by omega) rfl (pk_sub (b := 1) (by omega)) ?_
      rw [show c - 1 + 1 = c by omega, sm_1 (by have := hR c (by omega); omega) (by omega)]
      exact sm_brb sm_beq ht hf
theorem sy_isOn {r c s : Nat} {x y z : Int32} (h5 : n ≤ 5) (hq : sm_YQ n fo dg) (hr : r < n) (hc : c < n) (hs : s < 4) (hx : x = nI r) (hy : y = nI c) (hz : z = nI s) (ht : sm_onY n dg r c s = true → post 1) (hf : sm_onY n dg r c s = false → post 0) :
    wpY_isOn post (sz, dp, al, hd, sq, fo, ot, pa) x y z := by
  subst hx hy hz
  have e : (nI r + nI c) - (nI r + nI c) / 2 * 2 = nI ((r + c) % 2) := by
    rw [nI_add]
    exact pk_rem (d := 2) (by omega) (by decide) (by decide)
  have fin : ∀ b, sm_lo n dg r c s = b → (¬ (2 : Int32) = 0 ∧ (((((nI r + nI c) - (nI r + nI c) / 2 * 2) = 1 → wY_isOn_21 post 1 (sm_bI b) sz dp al hd sq fo ot pa) ∧ (¬ ((nI r + nI c) - (nI r + nI c) / 2 * 2) = 1 → wY_isOn_21 post 0 (sm_bI b) sz dp al hd sq fo ot pa)))) := by
    intro b hb
    unfold sm_onY at ht hf
    rw [hb] at ht hf
    refine ⟨by decide, ?_⟩
    rw [e]
    rcases Nat.mod_two_eq_zero_or_one (r + c) with h | h
    · rw [h] at ht hf ⊢
      refine br_f (by decide) ?_
      cases b with
      | true => exact br_f (by decide) (hf rfl)
      | false => exact br_t rfl (ht rfl)
    · rw [h] at ht hf ⊢
      refine br_t rfl ?_
      cases b with
      | true => exact br_t rfl (ht rfl)
      | false => exact br_f (by decide) (hf rfl)
  unfold wpY_isOn
  dsimp only
  exact sy_leadsOut h5 hq hr hc hs rfl rfl rfl (fun z => fin true z) (fun z => fin false z)
theorem sy_outerPlace {e : Nat} {x : Int32} (h1 : 1 ≤ n) (h5 : n ≤ 5) (he : e < 4 * n) (hx : x = nI e) (hp : post (nI (5 * sm_opr n e + sm_opc n e))) :
    wpY_outerPlace post (nI n, dp, al, hd, sq, fo, ot, pa) x := by
  subst hx
  obtain ⟨o1, o2, o3, o4⟩ := sm_opF n (by omega) e he
  obtain ⟨g1, g2, g3⟩ := sm_opG n (by omega) e he
  have n0 : ¬ nI n = 0 := nI_ne0 (by omega) (by omega)
  have hm : e % n < n := Nat.mod_lt _ (by omega)
  have e2 : (2 : Int32) * nI n = nI (2 * n) := pk_mul 2 n
  have e3 : (3 : Int32) * nI n = nI (3 * n) := pk_mul 3 n
  refine ⟨n0, nm_r (pk_rem (by omega) (by omega) (by omega)) ?_⟩
  rw [e2, e3, sm_n1 h1]
  have key : ∀ a r c, sm_opr n e = r → sm_opc n e = c → a = nI (5 * r + c) → post a := by
    rintro _ _ _ rfl rfl rfl
    exact hp
  rcases sm_four o4 with hk | hk | hk | hk
  · refine br_f (nI_ge (by omega) (by omega)) (key _ 0 (e % n) ?_ ?_ ?_)
    · unfold sm_opr
      rw [hk]
      rfl
    · unfold sm_opc
      rw [hk]
      rfl
    · rw [Nat.mul_zero, Nat.zero_add]
  · refine br_t (nI_le (by omega) (by omega)) (br_f (nI_ge (by omega) (by omega)) (key _ (e % n) (n - 1) ?_ ?_ ?_))
    · unfold sm_opr
      rw [hk]
      rfl
    · unfold sm_opc
      rw [hk]
      rfl
    · rw [sm_5, show nI (5 * (e % n) + n) - 1 = nI (5 * (e % n) + n - 1) from pk_sub (b := 1) (by omega), show 5 * (e % n) + n - 1 = 5 * (e % n) + (n - 1) by omega]
  · refine br_t (nI_le (by omega) (by omega)) (br_t (nI_le (by omega) (by omega)) (br_f (nI_ge (by omega) (by omega)) (key _ (n - 1) (n - 1 - e % n) ?_ ?_ ?_)))
    · unfold sm_opr
      rw [hk]
      rfl
    · unfold sm_opc
      rw [hk]
      rfl
    · rw [sm_5, show nI (5 * (n - 1) + n) - 1 = nI (5 * (n - 1) + n - 1) from pk_sub (b := 1) (by omega), pk_sub (by omega), show 5 * (n - 1) + n - 1 - e % n = 5 * (n - 1) + (n - 1 - e % n) by omega]
  · refine br_t (nI_le (by omega) (by omega)) (br_t (nI_le (by omega) (by omega)) (br_t (nI_le (by omega) (by omega)) (key _ (n - 1 - e % n) 0 ?_ ?_ ?_)))
    · unfold sm_opr
      rw [hk]
      rfl
    · unfold sm_opc
      rw [hk]
      rfl
    · rw [pk_sub (by omega), show (5 : Int32) = nI 5 from rfl, pk_mul, Nat.add_zero]
/-- Y's test of a port -/
def sm_oY (n : Nat) (dg : Nat → Nat) (on : Nat → Bool) : Prop := ∀ t, t < 4 * (n * n) → on t = sm_onY n dg (t / 4 / n) (t / 4 % n) (t % 4)
theorem sm_oY_rc (hon : sm_oY n dg on) {r c s : Nat} (hr : r < n) (hc : c < n) (hs : s < 4) : on ((r * n + c) * 4 + s) = sm_onY n dg r c s := by
  rw [hon _ (sm_t_lt hr hc hs), sm_t_4 hs, sm_t_m hs, sm_rd hc, sm_rmd hc]
theorem sy_isOuterOn {e : Nat} {x : Int32} (h1 : 1 ≤ n) (h5 : n ≤ 5) (hq : sm_YQ n fo dg) (hon : sm_oY n dg on) (he : e < 4 * n) (hx : x = nI e) (ht : on (sm_op n e) = true → post 1) (hf : on (sm_op n e) = false → post 0) :
    wpY_isOuterOn post (nI n, dp, al, hd, sq, fo, ot, pa) x := by
  subst hx
  obtain ⟨o1, o2, o3, o4⟩ := sm_opF n (by omega) e he
  have n0 : ¬ nI n = 0 := nI_ne0 (by omega) (by omega)
  rw [o1, sm_oY_rc hon o2 o3 o4] at ht hf
  unfold wpY_isOuterOn
  dsimp only
  refine sy_outerPlace h1 h5 he rfl ⟨by decide, by decide, n0, ?_⟩
  refine sy_isOn h5 hq o2 o3 o4 ?_ ?_ (pk_div (by omega) (by omega) (by omega)) (fun z => ⟨rfl, ht z⟩) (fun z => ⟨rfl, hf z⟩)
  · rw [sm_d5 (by omega), sm_div5 (by omega)]
  · rw [sm_m5 (by omega), sm_mod5 (by omega)]
theorem sy_otherSide {r c t : Nat} {x y z : Int32} (h5 : n ≤ 5) (hq : sm_YQ n fo dg) (hon : sm_oY n dg on) (hr : r < n) (hc : c < n) (hx : x = nI r) (hy : y = nI c) (hz : ∀ s, s < 4 → (nI s = z ↔ (r * n + c) * 4 + s = t))
    (hp : ∀ s, s < 4 → sm_way on ((r * n + c) * 4) t 4 = (r * n + c) * 4 + s → post (nI s)) (he : sm_way on ((r * n + c) * 4) t 4 = t → post z) :
    wpY_otherSide post (nI n, dp, al, hd, sq, fo, ot, pa) x y z := by
  subst hx hy
  refine ⟨5, ?_⟩
  have key : ∀ k i, i + k = 4 → sm_way on ((r * n + c) * 4) t k = sm_way on ((r * n + c) * 4) t 4 → wY_otherSide_3 post (nI r) (nI c) z (nI n) dp al hd sq fo ot pa (k + 1) (nI i) := by
    intro k
    induction k with
    | zero =>
      intro i hi h
      exact br_t (nI_le (a := 4) (by omega) (by omega)) (he h.symm)
    | succ k ih =>
      intro i hi h
      rw [sm_way, show 3 - k = i by omega] at h
      refine br_f (nI_ge (b := 4) (by omega) (by decide)) ?_
      rw [hz i (by omega)]
      refine br_c (fun w => nm_r (nI_1 i) (ih (i + 1) (by omega) ?_)) (fun w => sy_isOn h5 hq hr hc (s := i) (by omega) rfl rfl rfl (fun o => br_f (by decide) (hp i (by omega) ?_)) (fun o => br_t rfl (nm_r (nI_1 i) (ih (i + 1) (by omega) ?_))))
      · rw [sm_beq_t w] at h
        exact h
      · rw [sm_beq_f w, sm_oY_rc hon hr hc (by omega), o] at h
        exact h.symm
      · rw [sm_beq_f w, sm_oY_rc hon hr hc (by omega), o] at h
        exact h
  exact key 4 0 rfl rfl
end
end
section
/-! Y: walks along the paths -/
def sm_PA (n : Nat) (pa : Nat → Int32) (m : Nat) : Prop := ∀ q, q < n * n → pa (sm_pl n q) = sm_bI (Nat.testBit m q)
theorem sm_PA_or {n P m : Nat} {pa : Nat → Int32} (h5 : n ≤ 5) (hP : P < n * n) (h : sm_PA n pa m) : sm_PA n (upd pa (sm_pl n P) 1) (m ||| 2 ^ P) := by
  intro q hq
  rw [Nat.testBit_or, Nat.testBit_two_pow]
  by_cases e : P = q
  · subst e
    rw [pk_us, decide_eq_true rfl, Bool.or_true]
    rfl
  · rw [pk_un (fun z => e (sm_pl_inj h5 hq hP z).symm), h q hq, decide_eq_false e, Bool.or_false]
theorem sm_fol_S (on : Nat → Bool) (n d f t m : Nat) : sm_fol on n d (f + 1) t m = (match sm_out n (sm_wy on t) with
    | 0 => bif Nat.beq (sm_acr n (sm_wy on t) / 4) d then (0, m ||| 2 ^ (t / 4)) else sm_fol on n d f (sm_acr n (sm_wy on t)) (m ||| 2 ^ (t / 4))
    | e + 1 => (e + 1, m ||| 2 ^ (t / 4))) := by
  rw [sm_fol, sm_fc_eq]
  cases sm_out n (sm_wy on t) <;> rfl
theorem sm_fol_1 (on : Nat → Bool) (n d : Nat) : ∀ (f t m m' : Nat), (sm_fol on n d f t m).1 = (sm_fol on n d f t m').1
  | 0, _, _, _ => rfl
  | f + 1, t, m, m' => by
    rw [sm_fol_S, sm_fol_S]
    cases sm_out n (sm_wy on t) with
    | zero =>
      show (bif _ then _ else _ : Nat × Nat).1 = (bif _ then _ else _ : Nat × Nat).1
      cases Nat.beq (sm_acr n (sm_wy on t) / 4) d with
      | true => rfl
      | false => exact sm_fol_1 on n d f _ _ _
    | succ e => rfl
theorem sm_nar1 : vp_nar .boolean 1 = 1 := rfl
theorem sm_nar0 : vp_nar .boolean 0 = 0 := rfl
section
variable {sz dp : Int32} {al hd sq fo ot pa : Nat → Int32} {n : Nat} {dg : Nat → Nat} {on : Nat → Bool}
theorem sy_f92in {post : Int32 → SY → Prop} {J : Int32 → Int32 → Int32 → Int32 → (Nat → Int32) → (Nat → Int32) → (Nat → Int32) → (Nat → Int32) → (Nat → Int32) → (Nat → Int32) → Prop} {x3 x4 z0 z1 x8 : Int32} {d i s r2 c2 s2 : Nat}
    (h5 : n ≤ 5) (hd2 : d < n * n) (hr : r2 < n) (hc : c2 < n) (hs : s < 4) (hs2 : (s + 2) % 4 = s2) (h8 : x8 = nI r2) (h9 : z1 + z0 = nI c2)
    (h : (r2 * n + c2 = d → post (-1) (nI n, dp, al, hd, sq, fo, ot, pa)) ∧ (¬ r2 * n + c2 = d → J (nI r2) (nI c2) (nI s2) (nI (i + 1)) al hd sq fo ot pa)) :
    wY_follow_92 post J (nI (sm_pl n d)) x3 x4 (nI i) (nI s) x8 z0 z1 (nI n) dp al hd sq fo ot pa := by
  subst h8
  have hl := sm_pl_lt h5 hd2
  have e2 : (nI s + 2) - (nI s + 2) / 4 * 4 = nI s2 := by
    rw [show nI s + 2 = nI (s + 2) from nI_add s 2, sm_tm (by omega), hs2]
  refine nm_r h9 (sy_isPlace_t h5 hr hc (br_f (by decide) ⟨by decide, nm_r e2 ?_⟩))
  rw [sm_5, nI_eq (by omega) (by omega), ← sm_pl_rc hc]
  refine br_c (fun z => h.1 (sm_pl_inj h5 (sm_rc_lt hr hc) hd2 z)) (fun z => nm_r (nI_1 i) (h.2 (fun w => z (by rw [w]))))
theorem sy_f92out {post : Int32 → SY → Prop} {J : Int32 → Int32 → Int32 → Int32 → (Nat → Int32) → (Nat → Int32) → (Nat → Int32) → (Nat → Int32) → (Nat → Int32) → (Nat → Int32) → Prop} {x1 x3 x4 x6 x7 z0 z1 x8 : Int32}
    (h5 : n ≤ 5) (hb : ∀ i j, i < n → j < n → x8 = nI i → z1 + z0 = nI j → False) (h : wpY_outerEdge (fun r => post r (nI n, dp, al, hd, sq, fo, ot, pa)) (nI n, dp, al, hd, sq, fo, ot, pa) x3 x4 x7) :
    wY_follow_92 post J x1 x3 x4 x6 x7 x8 z0 z1 (nI n) dp al hd sq fo ot pa :=
  nm_e (sy_isPlace_f h5 hb (br_t rfl h))
theorem sy_f66 {post : Int32 → SY → Prop} {J : Int32 → Int32 → Int32 → Int32 → (Nat → Int32) → (Nat → Int32) → (Nat → Int32) → (Nat → Int32) → (Nat → Int32) → (Nat → Int32) → Prop} {d i r c s : Nat}
    (h1 : 1 ≤ n) (h5 : n ≤ 5) (hd2 : d < n * n) (hr : r < n) (hc : c < n) (hs : s < 4)
    (hout : ∀ e, sm_out n ((r * n + c) * 4 + s) = e + 1 → post (nI e) (nI n, dp, al, hd, sq, fo, ot, pa))
    (hin : ∀ r2 c2 s2, r2 < n → c2 < n → s2 < 4 → sm_out n ((r * n + c) * 4 + s) = 0 → sm_acr n ((r * n + c) * 4 + s) = (r2 * n + c2) * 4 + s2 →
      (r2 * n + c2 = d → post (-1) (nI n, dp, al, hd, sq, fo, ot, pa)) ∧ (¬ r2 * n + c2 = d → J (nI r2) (nI c2) (nI s2) (nI (i + 1)) al hd sq fo ot pa)) :
    ((nI s = 0 → wY_follow_66 post J (nI (sm_pl n d)) (nI r) (nI c) (nI i) (nI s) (-1) (nI r) (nI n) dp al hd sq fo ot pa) ∧ (¬ nI s = 0 → ((nI s = 2 → wY_follow_66 post J (nI (sm_pl n d)) (nI r) (nI c) (nI i) (nI s) 1 (nI r) (nI n) dp al hd sq fo ot pa) ∧ (¬ nI s = 2 → wY_follow_66 post J (nI (sm_pl n d)) (nI r) (nI c) (nI i) (nI s) 0 (nI r) (nI n) dp al hd sq fo ot pa)))) := by
  have hneg : ∀ j : Nat, j < n → nI 0 + (-1) = nI j → False := by
    intro j hj z
    have h0 : nI 0 + (-1) < 0 := by decide
    rw [z] at h0
    exact nI_pos (by omega) h0
  rcases sm_four hs with rfl | rfl | rfl | rfl
  · refine br_t rfl ?_
    cases r with
    | zero =>
      refine nm_e (br_f (by decide) (br_f (by decide) (sy_f92out h5 (fun a b ha hb z _ => hneg a ha z) (br_t rfl (hout c ?_)))))
      rw [sm_out0 hc]
      rfl
    | succ r =>
      refine nm_r (pk_m1 r) (br_f (by decide) (br_f (by decide) (sy_f92in h5 hd2 (r2 := r) (c2 := c) (s2 := 2) (by omega) hc (by omega) rfl rfl (Int32.add_zero _) (hin r c 2 (by omega) hc (by omega) ?_ sm_acr0))))
      rw [sm_out0 hc]
      rfl
  · refine br_f (by decide) (br_f (by decide) (nm_r (Int32.add_zero _) (br_t rfl ?_)))
    by_cases e : c + 1 = n
    · refine sy_f92out h5 (fun a b ha hb _ z => ?_) (br_f (by decide) (br_t rfl ?_))
      · rw [nI_1] at z
        have := (nI_eq (by omega) (by omega)).mp z
        omega
      · rw [nI_add]
        refine hout (n + r) ?_
        rw [sm_out1 hc, sm_beq_t e]
        rfl
    · refine sy_f92in h5 hd2 (r2 := r) (c2 := c + 1) (s2 := 3) hr (by omega) (by omega) rfl rfl (nI_1 c) (hin r (c + 1) 3 hr (by omega) (by omega) ?_ sm_acr1)
      rw [sm_out1 hc, sm_beq_f e]
      rfl
  · refine br_f (by decide) (br_t rfl (nm_r (nI_1 r) (br_f (by decide) (br_f (by decide) ?_))))
    by_cases e : r + 1 = n
    · refine sy_f92out h5 (fun a b ha hb z _ => ?_) (br_f (by decide) (br_f (by decide) (br_t rfl ?_)))
      · have := (nI_eq (by omega) (by omega)).mp z
        omega
      · rw [show ((2 : Int32) * nI n + nI n) - 1 = nI (2 * n + n - 1) from by
          rw [show (2 : Int32) * nI n = nI (2 * n) from pk_mul 2 n, nI_add]
          exact pk_sub (b := 1) (by omega), pk_sub (by omega)]
        refine hout (2 * n + n - 1 - c) ?_
        rw [sm_out2 hc, sm_beq_t e]
        show 2 * n + (n - 1 - c) + 1 = _
        omega
    · refine sy_f92in h5 hd2 (r2 := r + 1) (c2 := c) (s2 := 0) (by omega) hc (by omega) rfl rfl (Int32.add_zero _) (hin (r + 1) c 0 (by omega) hc (by omega) ?_ sm_acr2)
      rw [sm_out2 hc, sm_beq_f e]
      rfl
  · refine br_f (by decide) (br_f (by decide) (nm_r (Int32.add_zero _) (br_f (by decide) (br_t rfl ?_))))
    cases c with
    | zero =>
      refine sy_f92out h5 (fun a b ha hb _ z => hneg b hb z) (br_f (by decide) (br_f (by decide) (br_f (by decide) ?_)))
      rw [show ((3 : Int32) * nI n + nI n) - 1 = nI (3 * n + n - 1) from by
        rw [show (3 : Int32) * nI n = nI (3 * n) from pk_mul 3 n, nI_add]
        exact pk_sub (b := 1) (by omega), pk_sub (by omega)]
      refine hout (3 * n + n - 1 - r) ?_
      rw [sm_out3 hc]
      show 3 * n + (n - 1 - r) + 1 = _
      omega
    | succ c =>
      refine sy_f92in h5 hd2 (r2 := r) (c2 := c) (s2 := 1) hr (by omega) (by omega) rfl rfl (pk_m1 c) (hin r c 1 hr (by omega) (by omega) ?_ sm_acr3)
      rw [sm_out3 hc]
      rfl
theorem sy_follow {post : Int32 → SY → Prop} {d sd : Nat} {x y : Int32} (h1 : 1 ≤ n) (h5 : n ≤ 5) (hq : sm_YQ n fo dg) (hon : sm_oY n dg on) (hd2 : d < n * n) (hsd : sd < 4) (hx : x = nI (sm_pl n d)) (hy : y = nI sd)
    (hp : ∀ pa', (∀ m, sm_PA n pa m → sm_PA n pa' (sm_fol on n d 30 (d * 4 + sd) m).2) → post (sm_e (sm_fol on n d 30 (d * 4 + sd) 0).1) (nI n, dp, al, hd, sq, fo, ot, pa')) :
    wpY_follow post (nI n, dp, al, hd, sq, fo, ot, pa) x y := by
  subst hx hy
  have key : ∀ f i r c sd pa, i + f = 30 → r < n → c < n → sd < 4 →
      (∀ pa', (∀ m, sm_PA n pa m → sm_PA n pa' (sm_fol on n d f ((r * n + c) * 4 + sd) m).2) → post (sm_e (sm_fol on n d f ((r * n + c) * 4 + sd) 0).1) (nI n, dp, al, hd, sq, fo, ot, pa')) →
      wY_follow_15 post (nI (sm_pl n d)) (nI n) dp (f + 1) (nI r) (nI c) (nI sd) (nI i) al hd sq fo ot pa := by
    intro f
    induction f with
    | zero =>
      intro i r c sd pa hi hr hc hsd hp
      refine br_t (nI_le (a := 30) (by omega) (by omega)) ?_
      have := hp pa (fun m h => h)
      rw [show sm_e (sm_fol on n d 0 ((r * n + c) * 4 + sd) 0).1 = -1 from sm_e0] at this
      exact this
    | succ f ih =>
      intro i r c sd pa hi hr hc hsd hp
      have hl := sm_rc_lt hr hc
      have hpl := sm_pl_lt h5 hl
      have e5 : (5 : Int32) * nI r + nI c = nI (sm_pl n (r * n + c)) := by rw [sm_5, sm_pl_rc hc]
      have eu : upd pa (nI (sm_pl n (r * n + c))).toNatClampNeg (vp_nar .boolean 1) = upd pa (sm_pl n (r * n + c)) 1 := by
        rw [nI_clamp (by omega), sm_nar1]
      have ewy : sm_wy on ((r * n + c) * 4 + sd) = sm_way on ((r * n + c) * 4) ((r * n + c) * 4 + sd) 4 := by
        unfold sm_wy
        rw [sm_t_m hsd, Nat.add_sub_cancel]
      have body : ∀ s, s < 4 → sm_way on ((r * n + c) * 4) ((r * n + c) * 4 + sd) 4 = (r * n + c) * 4 + s → ((nI s = 0 → wY_follow_66 post (wY_follow_15 post (nI (sm_pl n d)) (nI n) dp (f + 1)) (nI (sm_pl n d)) (nI r) (nI c) (nI i) (nI s) (-1) (nI r) (nI n) dp al hd sq fo ot (upd pa (sm_pl n (r * n + c)) 1)) ∧ (¬ nI s = 0 → ((nI s = 2 → wY_follow_66 post (wY_follow_15 post (nI (sm_pl n d)) (nI n) dp (f + 1)) (nI (sm_pl n d)) (nI r) (nI c) (nI i) (nI s) 1 (nI r) (nI n) dp al hd sq fo ot (upd pa (sm_pl n (r * n + c)) 1)) ∧ (¬ nI s = 2 → wY_follow_66 post (wY_follow_15 post (nI (sm_pl n d)) (nI n) dp (f + 1)) (nI (sm_pl n d)) (nI r) (nI c) (nI i) (nI s) 0 (nI r) (nI n) dp al hd sq fo ot (upd pa (sm_pl n (r * n + c)) 1))))) := by
        intro s hs hway
        rw [← ewy] at hway
        refine sy_f66 h1 h5 hd2 hr hc hs (fun e he => ?_) (fun r2 c2 s2 hr2 hc2 hs2 ho ha => ⟨fun z => ?_, fun z => ?_⟩)
        · have h2 := hp (upd pa (sm_pl n (r * n + c)) 1) (fun m hm => ?_)
          · rw [sm_fol_S, hway, he] at h2
            rw [← sm_eS]
            exact h2
          · rw [sm_fol_S, hway, he]
            show sm_PA n _ (m ||| 2 ^ (((r * n + c) * 4 + sd) / 4))
            rw [sm_t_4 hsd]
            exact sm_PA_or h5 hl hm
        · have eb : Nat.beq (sm_acr n ((r * n + c) * 4 + s) / 4) d = true := by
            rw [ha, sm_t_4 hs2]
            exact sm_beq_t z
          have h2 := hp (upd pa (sm_pl n (r * n + c)) 1) (fun m hm => ?_)
          · rw [sm_fol_S, hway, ho] at h2
            have h3 : post (sm_e (bif Nat.beq (sm_acr n ((r * n + c) * 4 + s) / 4) d then ((0, 0 ||| 2 ^ (((r * n + c) * 4 + sd) / 4)) : Nat × Nat) else sm_fol on n d f (sm_acr n ((r * n + c) * 4 + s)) (0 ||| 2 ^ (((r * n + c) * 4 + sd) / 4))).1) (nI n, dp, al, hd, sq, fo, ot, upd pa (sm_pl n (r * n + c)) 1) := h2
            rw [eb] at h3
            rw [← sm_e0]
            exact h3
          · rw [sm_fol_S, hway, ho]
            show sm_PA n _ (bif Nat.beq (sm_acr n ((r * n + c) * 4 + s) / 4) d then ((0, m ||| 2 ^ (((r * n + c) * 4 + sd) / 4)) : Nat × Nat) else sm_fol on n d f (sm_acr n ((r * n + c) * 4 + s)) (m ||| 2 ^ (((r * n + c) * 4 + sd) / 4))).2
            rw [eb]
            show sm_PA n _ (m ||| 2 ^ (((r * n + c) * 4 + sd) / 4))
            rw [sm_t_4 hsd]
            exact sm_PA_or h5 hl hm
        · have eb : Nat.beq (sm_acr n ((r * n + c) * 4 + s) / 4) d = false := by
            rw [ha, sm_t_4 hs2]
            exact sm_beq_f z
          have ef : ∀ m, sm_fol on n d (f + 1) ((r * n + c) * 4 + sd) m = sm_fol on n d f ((r2 * n + c2) * 4 + s2) (m ||| 2 ^ (r * n + c)) := by
            intro m
            rw [sm_fol_S, hway, ho]
            show (bif Nat.beq (sm_acr n ((r * n + c) * 4 + s) / 4) d then ((0, m ||| 2 ^ (((r * n + c) * 4 + sd) / 4)) : Nat × Nat) else sm_fol on n d f (sm_acr n ((r * n + c) * 4 + s)) (m ||| 2 ^ (((r * n + c) * 4 + sd) / 4))) = _
            rw [eb, ha, sm_t_4 hsd]
            rfl
          refine ih (i + 1) r2 c2 s2 _ (by omega) hr2 hc2 hs2 (fun pa' hpa => ?_)
          have h2 := hp pa' (fun m hm => ?_)
          · rw [ef, sm_fol_1 on n d f _ _ 0] at h2
            exact h2
          · rw [ef]
            exact hpa _ (sm_PA_or h5 hl hm)
      refine br_f (nI_ge (b := 30) (by omega) (by decide)) ?_
      rw [e5]
      refine ⟨vp_in_nI hpl (by decide), nm_r eu (sy_otherSide (t := (r * n + c) * 4 + sd) h5 hq hon hr hc rfl rfl (fun s hs => ?_) body (fun z => body sd hsd z))⟩
      rw [nI_eq (by omega) (by omega)]
      omega
  obtain ⟨r, c, hr, hc, rfl⟩ := sm_q_of hd2
  have hpl := sm_pl_lt h5 hd2
  have g1 : nI (sm_pl n (r * n + c)) / 5 = nI r := by rw [sm_d5 (by omega), sm_pl_d h5 hd2, sm_rd hc]
  have g2 : nI (sm_pl n (r * n + c)) - nI (sm_pl n (r * n + c)) / 5 * 5 = nI c := by rw [sm_m5 (by omega), sm_pl_m h5 hd2, sm_rmd hc]
  exact ⟨by decide, nm_r g1 ⟨by decide, nm_r g2 ⟨_, key 30 0 r c sd pa rfl hr hc hsd hp⟩⟩⟩
theorem sy_endOf {post : Int32 → SY → Prop} {e : Nat} {x : Int32} (h1 : 1 ≤ n) (h5 : n ≤ 5) (hq : sm_YQ n fo dg) (hon : sm_oY n dg on) (he : e < 4 * n) (hx : x = nI e)
    (hp : ∀ pa', (∀ m, sm_PA n pa m → sm_PA n pa' (sm_fol on n (sm_op n e / 4) 30 (sm_op n e) m).2) → post (sm_e (sm_fol on n (sm_op n e / 4) 30 (sm_op n e) 0).1) (nI n, dp, al, hd, sq, fo, ot, pa')) :
    wpY_endOf post (nI n, dp, al, hd, sq, fo, ot, pa) x := by
  subst hx
  obtain ⟨o1, o2, o3, o4⟩ := sm_opF n (by omega) e he
  have n0 : ¬ nI n = 0 := nI_ne0 (by omega) (by omega)
  rw [o1, sm_t_4 o4] at hp
  unfold wpY_endOf
  dsimp only
  refine sy_outerPlace h1 h5 he rfl ⟨n0, ?_⟩
  exact sy_follow h1 h5 hq hon (sm_rc_lt o2 o3) o4 (by rw [sm_pl_rc o3]) (pk_div (by omega) (by omega) (by omega)) hp
theorem sy_patternHere {post : Int32 → SY → Prop} (h1 : 1 ≤ n) (h5 : n ≤ 5) (hq : sm_YQ n fo dg) (hP : sm_Path n dg on) (hp : ∀ pa', post (sm_pat on n (4 * n) 0 0) (nI n, dp, al, hd, sq, fo, ot, pa')) :
    wpY_patternHere post (nI n, dp, al, hd, sq, fo, ot, pa) := by
  have hon : sm_oY n dg on := fun t ht => (hP.1 t ht).2
  have e4 : (4 : Int32) * nI n = nI (4 * n) := pk_mul 4 n
  have key : ∀ k e a pa, e + k = 4 * n → (∀ pa', post (sm_pat on n k e a) (nI n, dp, al, hd, sq, fo, ot, pa')) → wY_patternHere_4 post (k + 1) a (nI e) (nI n) dp al hd sq fo ot pa := by
    intro k
    induction k with
    | zero =>
      intro e a pa he hp
      refine br_t ?_ (hp pa)
      rw [e4]
      exact nI_le (by omega) (by omega)
    | succ k ih =>
      intro e a pa he hp
      have he4 : e < 4 * n := by omega
      rw [sm_pat] at hp
      refine br_f ?_ (sy_isOuterOn h1 h5 hq hon he4 rfl (fun z => ?_) (fun z => ?_))
      · rw [e4]
        exact nI_ge he4 (by omega)
      · rw [z] at hp
        obtain ⟨p1, p2⟩ := hP.2.1 e he4 z
        refine br_f (by decide) (sy_endOf h1 h5 hq hon he4 rfl (fun pa' _ => ?_))
        dsimp only
        rw [← p1, sm_e_le (by omega) (by omega)]
        refine br_c (fun w => nm_r (show (2 : Int32) * a + 0 = a * 2 + 0 from by rw [Int32.mul_comm]) (nm_r (nI_1 e) (ih (e + 1) _ _ (by omega) (fun pa'' => ?_)))) (fun w => nm_r (show (2 : Int32) * a + 1 = a * 2 + 1 from by rw [Int32.mul_comm]) (nm_r (nI_1 e) (ih (e + 1) _ _ (by omega) (fun pa'' => ?_))))
        · have := hp pa''
          rw [if_pos w] at this
          exact this
        · have := hp pa''
          rw [if_neg w] at this
          exact this
      · rw [z] at hp
        exact br_t rfl (nm_r (nI_1 e) (ih (e + 1) a pa (by omega) hp))
  exact ⟨_, key (4 * n) 0 0 pa (by omega) hp⟩
end
end
section
/-! pathEnd, rings, pattern, withPattern -/
theorem sm_way_off (on : Nat → Bool) (f t : Nat) (hne : ∀ s, s < 4 → ¬ f + s = t) : ∀ k, k ≤ 4 → sm_way on f t k = t → ∀ s, 4 - k ≤ s → s < 4 → on (f + s) = false
  | 0, _, _, s, h1, h2 => by omega
  | k + 1, hk, h, s, h1, h2 => by
    rw [sm_way, sm_beq_f (hne (3 - k) (by omega))] at h
    cases ho : on (f + (3 - k)) with
    | true =>
      rw [ho] at h
      exact absurd h (hne (3 - k) (by omega))
    | false =>
      rw [ho] at h
      by_cases e : s = 3 - k
      · rw [e]
        exact ho
      · exact sm_way_off on f t hne k (by omega) h s (by omega) h2
theorem sm_ry_S (on : Nat → Bool) (n k d c m : Nat) : sm_ry on n (k + 1) d c m = bif Nat.testBit m d then sm_ry on n k (d + 1) c m else sm_ry on n k (d + 1) (c + 1) (sm_fol on n d 30 (sm_way on (4 * d) (4 * d + 4) 4) m).2 := by
  rw [sm_ry, sm_fc_eq]
def sm_pst (n : Nat) (x : Int32) (a : Int32) (v : List Nat) : Int32 := if sm_pat (sm_pon n v) n (4 * n) 0 0 = x then a + 1 else a
section
variable {n : Nat} {sz dp pls gc fc : Int32} {al hd sq fo ot pa en st dr : Nat → Int32} {dg : Nat → Nat} {on : Nat → Bool}
theorem sm_sq_of {s : Nat} {v : List Nat} (h1 : 1 ≤ n) (h5 : n ≤ 5) (hv : v ∈ sm_G n) (hs : s + n * n ≤ 10725) (h : ∀ q, q < n * n → en (s + q) = sm_e (sm_dg v q)) : sm_SQ n en s (sm_pdg n v) :=
  ⟨hs, fun q hq => by
    rw [(sm_path h1 h5 hv).1 q hq]
    exact ⟨h q hq, sm_dg_le (sm_G_wd hv)⟩⟩
theorem sm_yq_of {v : List Nat} (h1 : 1 ≤ n) (h5 : n ≤ 5) (hv : v ∈ sm_G n) (h : ∀ q, q < n * n → fo (sm_pl n q) = sm_e (sm_dg v q)) : sm_YQ n fo (sm_pdg n v) := fun q hq => by
  rw [(sm_path h1 h5 hv).1 q hq]
  exact ⟨h q hq, sm_dg_le (sm_G_wd hv)⟩
theorem sx_rings14 {post : Int32 → Prop} {j s : Nat} (h1 : 1 ≤ n) (h5 : n ≤ 5) (hq : sm_SQ n en s dg) (hon : ∀ t, t < 4 * (n * n) → on t = sm_onX n dg t) (hj : j < 429) (hst : st j = nI s) (hp : post (nI (sm_rx on n (n * n)))) :
    ∃ k, wX_rings_14 post (nI j) (nI n) (nI (n * n)) gc fc en st al hd dr k 0 0 := by
  have hnn := sm_nn h5
  refine loop_0 (fun k i x => wX_rings_14 post (nI j) (nI n) (nI (n * n)) gc fc en st al hd dr k x (nI i)) (fun i x => x = nI (sm_rx on n i)) (n * n) 0 rfl ?_ ?_
  · rintro k x rfl
    exact br_t (nI_le (Nat.le_refl _) (by omega)) hp
  · rintro k i x hi rfl hk
    refine br_f (nI_ge hi (by omega)) ?_
    rw [nI_clamp (by omega), hst]
    refine ⟨vp_in_nI hj (by decide), sx_isFirst h1 h5 hq hon hi rfl rfl (fun z => br_f (by decide) (nm_r (nI_1 _) (nm_r (nI_1 i) (hk _ ?_)))) (fun z => br_t rfl (nm_r (nI_1 i) (hk _ ?_)))⟩
    · rw [sm_rx, z]
      rfl
    · rw [sm_rx, z]
      rfl
theorem sy_rings67 {post : Int32 → SY → Prop} (h1 : 1 ≤ n) (h5 : n ≤ 5) (hq : sm_YQ n fo dg) (hP : sm_Path n dg on) :
    ∀ k d c m pa, d + k = n * n → sm_PA n pa m → (∀ pa', post (nI (sm_ry on n k d c m)) (nI n, dp, al, hd, sq, fo, ot, pa')) → wY_rings_67 post (k + 1) (nI c) (nI d) (nI n) dp al hd sq fo ot pa := by
  have hnn := sm_nn h5
  have hon : sm_oY n dg on := fun t ht => (hP.1 t ht).2
  have e2 : nI n * nI n = nI (n * n) := pk_mul n n
  intro k
  induction k with
  | zero =>
    intro d c m pa hd2 hm hp
    refine br_t ?_ (hp pa)
    rw [e2]
    exact nI_le (by omega) (by omega)
  | succ k ih =>
    intro d c m pa hd2 hm hp
    have hdn : d < n * n := by omega
    have hpl := sm_pl_lt h5 hdn
    rw [sm_ry_S] at hp
    refine br_f ?_ (sy_placeAt h1 h5 (by omega) rfl ?_)
    · rw [e2]
      exact nI_ge hdn (by omega)
    · rw [nI_clamp (by omega), hm d hdn]
      refine ⟨vp_in_nI hpl (by decide), ?_⟩
      cases hb : Nat.testBit m d with
      | true =>
        rw [hb] at hp
        exact br_f (by decide) (nm_r (nI_1 d) (ih (d + 1) c m pa (by omega) hm hp))
      | false =>
        rw [hb] at hp
        obtain ⟨r, cc, hr, hc, hrc⟩ := sm_q_of hdn
        have g1 : nI (sm_pl n d) / 5 = nI r := by rw [sm_d5 (by omega), sm_pl_d h5 hdn, hrc, sm_rd hc]
        have g2 : nI (sm_pl n d) - nI (sm_pl n d) / 5 * 5 = nI cc := by rw [sm_m5 (by omega), sm_pl_m h5 hdn, hrc, sm_rmd hc]
        refine br_t rfl ⟨by decide, by decide, ?_⟩
        refine sy_otherSide (t := (r * n + cc) * 4 + 4) h5 hq hon hr hc g1 g2 (fun s hs => ⟨fun z => ?_, fun z => by omega⟩) (fun s hs hway => ?_) (fun z => ?_)
        · have h0 : (-1 : Int32) < 0 := by decide
          rw [← z] at h0
          exact absurd h0 (nI_pos (by omega))
        · refine sy_follow h1 h5 hq hon hdn hs rfl rfl (fun pa' hpa => nm_r (nI_1 c) (nm_r (nI_1 d) (ih (d + 1) (c + 1) _ pa' (by omega) (hpa m hm) ?_)))
          rw [← hrc, Nat.mul_comm d 4] at hway
          rw [Nat.mul_comm d 4, ← hway]
          exact hp
        · exfalso
          have off := sm_way_off on ((r * n + cc) * 4) ((r * n + cc) * 4 + 4) (fun s hs => by omega) 4 (Nat.le_refl _) z
          rw [← hrc, Nat.mul_comm d 4] at off
          have o0 := off 0 (by omega) (by omega)
          have o1 := off 1 (by omega) (by omega)
          have o2 := off 2 (by omega) (by omega)
          have o3 := off 3 (by omega) (by omega)
          rw [Nat.add_zero] at o0
          rcases hP.2.2.2 d hdn with w | w | w | w
          · rw [o0] at w
            cases w
          · rw [o1] at w
            cases w
          · rw [o2] at w
            cases w
          · rw [o3] at w
            cases w
theorem sy_rings33 {post : Int32 → SY → Prop} (h1 : 1 ≤ n) (h5 : n ≤ 5) (hq : sm_YQ n fo dg) (hP : sm_Path n dg on) :
    ∀ k e m pa, e + k = 4 * n → sm_PA n pa m → (∀ pa', post (nI (sm_ry on n (n * n) 0 0 (sm_rm on n k e m))) (nI n, dp, al, hd, sq, fo, ot, pa')) → wY_rings_33 post (k + 1) (nI e) (nI n) dp al hd sq fo ot pa := by
  have hon : sm_oY n dg on := fun t ht => (hP.1 t ht).2
  have e4 : (4 : Int32) * nI n = nI (4 * n) := pk_mul 4 n
  intro k
  induction k with
  | zero =>
    intro e m pa he hm hp
    refine br_t ?_ ⟨_, sy_rings67 h1 h5 hq hP (n * n) 0 0 m pa (by omega) hm hp⟩
    rw [e4]
    exact nI_le (by omega) (by omega)
  | succ k ih =>
    intro e m pa he hm hp
    have he4 : e < 4 * n := by omega
    rw [sm_rm] at hp
    refine br_f ?_ (sy_isOuterOn h1 h5 hq hon he4 rfl (fun z => ?_) (fun z => ?_))
    · rw [e4]
      exact nI_ge he4 (by omega)
    · rw [z] at hp
      exact br_f (by decide) (sy_endOf h1 h5 hq hon he4 rfl (fun pa' hpa => nm_r (nI_1 e) (ih (e + 1) _ pa' (by omega) (hpa m hm) hp)))
    · rw [z] at hp
      exact br_t rfl (nm_r (nI_1 e) (ih (e + 1) m pa (by omega) hm hp))
theorem sy_rings12 {post : Int32 → SY → Prop} (h1 : 1 ≤ n) (h5 : n ≤ 5) (hq : sm_YQ n fo dg) (hP : sm_Path n dg on) (hp : ∀ pa', post (nI (sm_ry on n (n * n) 0 0 (sm_rm on n (4 * n) 0 0))) (nI n, dp, al, hd, sq, fo, ot, pa')) :
    ∃ k, wY_rings_12 post (nI n) dp k 0 al hd sq fo ot pa := by
  refine loop_0 (fun k i p => wY_rings_12 post (nI n) dp k (nI i) al hd sq fo ot p) (fun i p => ∀ q, q < i → p q = 0) 25 pa (fun q h => absurd h (Nat.not_lt_zero q)) ?_ ?_
  · intro k p h
    refine br_t sm_25e ⟨_, sy_rings33 h1 h5 hq hP (4 * n) 0 0 p (by omega) (fun q hq2 => ?_) hp⟩
    rw [h _ (sm_pl_lt h5 hq2), Nat.zero_testBit]
    rfl
  · intro k i p hi h hk
    refine br_f (sm_25 hi) ⟨vp_in_nI hi (by decide), nm_e (nm_r (nI_1 i) (hk _ ?_))⟩
    intro q hq2
    rw [nI_clamp (by omega), sm_nar0]
    by_cases e : q = i
    · subst e
      rw [pk_us]
    · rw [pk_un e]
      exact h q (by omega)
theorem sx_withPattern {post : Int32 → Prop} {F : List (List Nat)} {x : Int32} (h1 : 1 ≤ n) (h5 : n ≤ 5) (hF : F.length ≤ 429) (hS : sm_ST (n * n) en st F) (hG : ∀ v, v ∈ F → v ∈ sm_G n) (hp : post (F.foldl (sm_pst n x) 0)) :
    wpX_withPattern post (nI n, nI (n * n), gc, nI F.length, en, st, al, hd, dr) x := by
  refine ⟨F.length + 1, ?_⟩
  refine sm_foldX F (sm_pst n x) (fun k i a => wX_withPattern_4 post x (nI n) (nI (n * n)) gc (nI F.length) en st al hd dr k a (nI i)) post ?_ ?_ F 0 0 (F.length + 1) (Nat.zero_le _) List.drop_zero (Nat.lt_succ_self _) hp
  · intro k a hp
    exact br_t (nI_le (Nat.le_refl _) (by omega)) hp
  · intro k i v a hi hv hW
    obtain ⟨s, s1, s2, s3⟩ := hS i v hv
    have hvG := hG v (List.mem_of_getElem? hv)
    unfold sm_pst at hW
    refine br_f (nI_ge hi (by omega)) ?_
    rw [nI_clamp (by omega), s1]
    refine ⟨vp_in_nI (by omega) (by decide), sx_patternOf h1 h5 (sm_sq_of h1 h5 hvG s2 s3) (sm_path h1 h5 hvG).2 rfl (br_c (fun z => nm_e (nm_r (nI_1 i) ?_)) (fun z => nm_r (nI_1 i) ?_))⟩
    · rw [if_pos z] at hW
      exact hW
    · rw [if_neg z] at hW
      exact hW
theorem sy_pat15 {post : Int32 → SY → Prop} {J : Int32 → Int32 → Int32 → (Nat → Int32) → (Nat → Int32) → (Nat → Int32) → (Nat → Int32) → (Nat → Int32) → (Nat → Int32) → Prop} {x a : Int32} {v : List Nat} (h1 : 1 ≤ n) (h5 : n ≤ 5) (hv : v ∈ sm_G n) (ha : ∀ q, q < n * n → sq (sm_pl n q) = sm_e (sm_dg v q))
    (hJ : ∀ fo' pa', J (sm_pst n x a v) (nI n) dp al hd sq fo' ot pa') :
    ∃ k, wY_withPattern_15 post J x a (nI n) dp k 0 al hd sq fo ot pa := by
  refine loop_0 (fun k i f => wY_withPattern_15 post J x a (nI n) dp k (nI i) al hd sq f ot pa) (fun i f => ∀ p, p < i → f p = sq p) 25 fo (fun p h => absurd h (Nat.not_lt_zero p)) ?_ ?_
  · intro k f h
    unfold sm_pst at hJ
    refine br_t sm_25e (sy_patternHere h1 h5 (sm_yq_of h1 h5 hv (fun q hq => ?_)) (sm_path h1 h5 hv).2 (fun pa' => br_c (fun z => nm_e ?_) (fun z => ?_)))
    · rw [h _ (sm_pl_lt h5 hq)]
      exact ha q hq
    · have := hJ f pa'
      rw [if_pos z] at this
      exact this
    · have := hJ f pa'
      rw [if_neg z] at this
      exact this
  · intro k i f hi h hk
    refine br_f (sm_25 hi) ?_
    rw [nI_clamp (by omega)]
    refine ⟨vp_in_nI hi (by decide), vp_in_nI hi (by decide), nm_e (nm_r (nI_1 i) (hk _ ?_))⟩
    intro p hp2
    by_cases e : p = i
    · subst e
      rw [pk_us]
    · rw [pk_un e]
      exact h p (by omega)
theorem sy_withPattern {post : Int32 → SY → Prop} {A : Nat → Int32} {x : Int32} (h1 : 1 ≤ n) (h5 : n ≤ 5) (hA : ∀ q, q < n * n → al (sm_pl n q) = A q) (hp : ∀ dp' sq' fo' pa', post ((sm_F n A).foldl (sm_pst n x) 0) (nI n, dp', al, hd, sq', fo', ot, pa')) :
    wpY_withPattern post (nI n, dp, al, hd, sq, fo, ot, pa) x := by
  refine nm_e ?_
  have key : ∀ (L : List (List Nat)) (a : Int32) (k : Nat) dp sq fo pa, (∀ v, v ∈ L → v ∈ sm_G n) → L.length < k → sm_pos n A dp sq L → (∀ dp' sq' fo' pa', post (L.foldl (sm_pst n x) a) (nI n, dp', al, hd, sq', fo', ot, pa')) → wY_withPattern_6 post x k a (nI n) dp al hd sq fo ot pa := by
    intro L
    induction L with
    | nil =>
      intro a k dp sq fo pa hG hk hpos hp
      obtain ⟨k, rfl⟩ : ∃ m, k = m + 1 := ⟨k - 1, by omega⟩
      exact sy_advance h1 h5 hA hpos (fun v L' sq' z => by cases z) (fun dp' sq' _ => br_t rfl (hp dp' sq' _ _))
    | cons v L ih =>
      intro a k dp sq fo pa hG hk hpos hp
      rw [List.length_cons] at hk
      obtain ⟨k, rfl⟩ : ∃ m, k = m + 1 := ⟨k - 1, by omega⟩
      refine sy_advance h1 h5 hA hpos (fun v2 L' sq' z zl zw za zp => ?_) (fun dp' sq' z => by cases z)
      injection z with z1 z2
      subst z1 z2
      exact br_f (by decide) (sy_pat15 h1 h5 (hG v List.mem_cons_self) (fun q hq => za q (by omega)) (fun fo' pa' => ih _ k _ _ fo' pa' (fun w hw => hG w (List.mem_cons_of_mem _ hw)) (by omega) zp hp))
  exact ⟨_, key (sm_F n A) 0 _ 0 (upd sq 0 (-2)) fo pa (fun v hv => sm_F_G hv) (Nat.lt_succ_self _) sm_pos_begin hp⟩
end
theorem i_vc_pathEnd {k : Nat} {u : SX} {v : SY} (I : i_Rel k u v) (hk : k + 4 ≤ 2049) (v1 : Int32) (v2 : Int32) : wpX_pathEnd (fun r => wpY_pathEnd (fun r' v' => r' = r ∧ i_Rel (k + 4) u v') v v1 v2) u v1 v2 := by
  obtain ⟨n, en, st, al, hd, dr, dp, al2, hd2, sq, fo, ot, pa, rfl, rfl, h1, h5, hE, hS, hA, hH⟩ := I
  have hR : sm_Rel n en st al hd al2 hd2 := ⟨h1, h5, hE, hS, hA, hH⟩
  have hFl := sm_F_len (A := al) h1 h5
  have e4 : (4 : Int32) * nI n = nI (4 * n) := pk_mul 4 n
  unfold wpX_pathEnd wpY_pathEnd
  dsimp only
  refine sx_isNumber (by omega) (fun hb => br_t rfl ?_) (fun j hj e => br_f (by decide) ?_)
  · exact sy_find_f h1 h5 hA hb (fun _ _ _ => br_t rfl ⟨rfl, sm_mk_rel _ hR⟩)
  · subst e
    obtain ⟨v, hv, _, hvG, _, _⟩ := sm_F_get hj
    obtain ⟨s, s1, s2, s3⟩ := hS j v hv
    have hq := sm_sq_of h1 h5 hvG s2 s3
    have hP := (sm_path h1 h5 hvG).2
    have hon : ∀ t, t < 4 * (n * n) → sm_pon n v t = sm_onX n (sm_pdg n v) t := fun t ht => (hP.1 t ht).1
    have honY : sm_oY n (sm_pdg n v) (sm_pon n v) := fun t ht => (hP.1 t ht).2
    refine br_c (fun z => ?_) (fun z => br_c (fun z2 => ?_) (fun z2 => ?_))
    · exact sy_find_t h1 h5 hA hj hv (fun _ _ _ _ => br_f (by decide) (br_t z ⟨rfl, sm_mk_rel _ hR⟩))
    · obtain ⟨e, he, rfl⟩ := nI_of z
      have he4 : e < 4 * n := by
        rw [e4] at z2
        exact (nI_ltI he (by omega)).mp z2
      have hop := sm_op_lt h5 he4
      refine sx_outerPort h1 h5 he4 rfl ?_
      rw [nI_clamp (by omega), s1]
      refine ⟨vp_in_nI (by omega) (by decide), sx_isOn h1 h5 hq hop rfl rfl (fun o => br_f (by decide) ⟨vp_in_nI (by omega) (by decide), sx_endOfPath h1 h5 hq hon hop rfl rfl ?_⟩) (fun o => br_t rfl ?_)⟩
      · have o2 : sm_pon n v (sm_op n e) = true := (hon _ hop).trans o
        refine sy_find_t h1 h5 hA hj hv (fun dp' sq' fo' hfo => br_f (by decide) (br_f z (br_t z2 (sy_isOuterOn h1 h5 (sm_yq_of h1 h5 hvG hfo) honY he4 rfl (fun _ => br_f (by decide) (sy_endOf h1 h5 (sm_yq_of h1 h5 hvG hfo) honY he4 rfl (fun pa' _ => ⟨?_, sm_mk_rel _ hR⟩))) (fun w => ?_)))))
        · rw [(hP.2.1 e he4 o2).1]
        · rw [o2] at w
          cases w
      · have o2 : sm_pon n v (sm_op n e) = false := (hon _ hop).trans o
        refine sy_find_t h1 h5 hA hj hv (fun dp' sq' fo' hfo => br_f (by decide) (br_f z (br_t z2 (sy_isOuterOn h1 h5 (sm_yq_of h1 h5 hvG hfo) honY he4 rfl (fun w => ?_) (fun _ => br_t rfl ⟨rfl, sm_mk_rel _ hR⟩)))))
        rw [o2] at w
        cases w
    · exact sy_find_t h1 h5 hA hj hv (fun _ _ _ _ => br_f (by decide) (br_f z (br_f z2 ⟨rfl, sm_mk_rel _ hR⟩)))
theorem i_vc_rings {k : Nat} {u : SX} {v : SY} (I : i_Rel k u v) (hk : k + 4 ≤ 2049) (v1 : Int32) : wpX_rings (fun r => wpY_rings (fun r' v' => r' = r ∧ i_Rel (k + 4) u v') v v1) u v1 := by
  obtain ⟨n, en, st, al, hd, dr, dp, al2, hd2, sq, fo, ot, pa, rfl, rfl, h1, h5, hE, hS, hA, hH⟩ := I
  have hR : sm_Rel n en st al hd al2 hd2 := ⟨h1, h5, hE, hS, hA, hH⟩
  have hFl := sm_F_len (A := al) h1 h5
  unfold wpX_rings wpY_rings
  dsimp only
  refine sx_isNumber (by omega) (fun hb => br_t rfl ?_) (fun j hj e => br_f (by decide) ?_)
  · exact sy_find_f h1 h5 hA hb (fun _ _ _ => br_t rfl ⟨rfl, sm_mk_rel _ hR⟩)
  · subst e
    obtain ⟨v, hv, _, hvG, _, _⟩ := sm_F_get hj
    obtain ⟨s, s1, s2, s3⟩ := hS j v hv
    have hP := (sm_path h1 h5 hvG).2
    refine sx_rings14 h1 h5 (sm_sq_of h1 h5 hvG s2 s3) (fun t ht => (hP.1 t ht).1) (by omega) s1 ?_
    refine sy_find_t h1 h5 hA hj hv (fun dp' sq' fo' hfo => br_f (by decide) (sy_rings12 h1 h5 (sm_yq_of h1 h5 hvG hfo) hP (fun pa' => ⟨?_, sm_mk_rel _ hR⟩)))
    rw [hP.2.2.1]
theorem i_vc_pattern {k : Nat} {u : SX} {v : SY} (I : i_Rel k u v) (hk : k + 4 ≤ 2049) (v1 : Int32) : wpX_pattern (fun r => wpY_pattern (fun r' v' => r' = r ∧ i_Rel (k + 4) u v') v v1) u v1 := by
  obtain ⟨n, en, st, al, hd, dr, dp, al2, hd2, sq, fo, ot, pa, rfl, rfl, h1, h5, hE, hS, hA, hH⟩ := I
  have hR : sm_Rel n en st al hd al2 hd2 := ⟨h1, h5, hE, hS, hA, hH⟩
  have hFl := sm_F_len (A := al) h1 h5
  unfold wpX_pattern wpY_pattern
  dsimp only
  refine sx_isNumber (by omega) (fun hb => br_t rfl ?_) (fun j hj e => br_f (by decide) ?_)
  · exact sy_find_f h1 h5 hA hb (fun _ _ _ => br_t rfl ⟨rfl, sm_mk_rel _ hR⟩)
  · subst e
    obtain ⟨v, hv, _, hvG, _, _⟩ := sm_F_get hj
    obtain ⟨s, s1, s2, s3⟩ := hS j v hv
    have hP := (sm_path h1 h5 hvG).2
    rw [nI_clamp (by omega), s1]
    refine ⟨vp_in_nI (by omega) (by decide), sx_patternOf h1 h5 (sm_sq_of h1 h5 hvG s2 s3) hP rfl ?_⟩
    exact sy_find_t h1 h5 hA hj hv (fun dp' sq' fo' hfo => br_f (by decide) (sy_patternHere h1 h5 (sm_yq_of h1 h5 hvG hfo) hP (fun pa' => ⟨rfl, sm_mk_rel _ hR⟩)))
theorem i_vc_withPattern {k : Nat} {u : SX} {v : SY} (I : i_Rel k u v) (hk : k + 4 ≤ 2049) (v1 : Int32) : wpX_withPattern (fun r => wpY_withPattern (fun r' v' => r' = r ∧ i_Rel (k + 4) u v') v v1) u v1 := by
  obtain ⟨n, en, st, al, hd, dr, dp, al2, hd2, sq, fo, ot, pa, rfl, rfl, h1, h5, hE, hS, hA, hH⟩ := I
  have hR : sm_Rel n en st al hd al2 hd2 := ⟨h1, h5, hE, hS, hA, hH⟩
  exact sx_withPattern h1 h5 (sm_F_len h1 h5) hS (fun v hv => sm_F_G hv) (sy_withPattern h1 h5 hA (fun dp' sq' fo' pa' => ⟨rfl, sm_mk_rel _ hR⟩))
end
