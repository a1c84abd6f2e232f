/-! lines that alternate; counts; folds over the fitting squares -/
theorem sm_01 (s : Int32) : (0 ≤ s ∧ s ≤ 1) ↔ (s = 0 ∨ s = 1) := by
  constructor
  · rintro ⟨a, b⟩
    rw [Int32.le_iff_toInt_le] at a b
    have h0 : (0 : Int32).toInt = 0 := by decide
    have h1 : (1 : Int32).toInt = 1 := by decide
    rcases (by omega : s.toInt = 0 ∨ s.toInt = 1) with h | h
    · exact Or.inl (Int32.toInt_inj.mp (by omega))
    · exact Or.inr (Int32.toInt_inj.mp (by omega))
  · rintro (rfl | rfl) <;> decide
theorem sm_10 : ¬ (0 : Int32) = 1 := by decide
/-- the line of the sums S alternates -/
def sm_alt (S : Nat → Int32) (n : Nat) : Prop := (∀ i, i < n → 0 ≤ S i ∧ S i ≤ 1) ∧ S (n - 1) = 1
def sm_okI (n c : Nat) (s : Int32) : Prop := s = 1 ∨ (s = 0 ∧ c + 1 < n)
theorem sm_alt_iff {S : Nat → Int32} {n : Nat} (hn : 1 ≤ n) : sm_alt S n ↔ ∀ c, c < n → sm_okI n c (S c) := by
  constructor
  · rintro ⟨a, b⟩ c hc
    rcases (sm_01 _).mp (a c hc) with h | h
    · by_cases e : c + 1 < n
      · exact Or.inr ⟨h, e⟩
      · rw [show n - 1 = c by omega, h] at b
        exact absurd b sm_10
    · exact Or.inl h
  · intro H
    constructor
    · intro i hi
      rcases H i hi with h | h
      · rw [h]
        decide
      · rw [h.1]
        decide
    · rcases H (n - 1) (by omega) with h | h
      · exact h
      · exact absurd h.2 (by omega)
/-- row sums and column sums of a square given by places -/
def sm_R (h : Nat → Int32) (n r c : Nat) : Int32 := sm_sum (fun j => h (r * n + j)) (c + 1)
def sm_K (h : Nat → Int32) (n r c : Nat) : Int32 := sm_sum (fun i => h (c + i * n)) (r + 1)
def sm_goodX (h : Nat → Int32) (n : Nat) : Prop := ∀ q, q < n * n → sm_okI n (q % n) (sm_R h n (q / n) (q % n)) ∧ sm_okI n (q / n) (sm_K h n (q / n) (q % n))
def sm_goodY (h : Nat → Int32) (n : Nat) : Prop := ∀ k, k < n → sm_alt (fun i => sm_R h n k i) n ∧ sm_alt (fun i => sm_K h n i k) n
theorem sm_good_iff {h : Nat → Int32} {n : Nat} (hn : 1 ≤ n) : sm_goodX h n ↔ sm_goodY h n := by
  constructor
  · intro H k hk
    rw [sm_alt_iff hn, sm_alt_iff hn]
    constructor
    · intro c hc
      have := (H (k * n + c) (sm_rc_lt hk hc)).1
      rw [sm_rd hc, sm_rmd hc] at this
      exact this
    · intro r hr
      have := (H (r * n + k) (sm_rc_lt hr hk)).2
      rw [sm_rd hk, sm_rmd hk] at this
      exact this
  · intro H q hq
    exact ⟨(sm_alt_iff hn).mp (H (q / n) (sm_q_r hq)).1 (q % n) (sm_q_c hq), (sm_alt_iff hn).mp (H (q % n) (sm_q_c hq)).2 (q / n) (sm_q_r hq)⟩
/-- the number of digits 0 -/
def sm_ng (dg : Nat → Nat) : Nat → Nat
  | 0 => 0
  | q + 1 => if dg q = 0 then sm_ng dg q + 1 else sm_ng dg q
theorem sm_ng_le (dg : Nat → Nat) : ∀ q, sm_ng dg q ≤ q
  | 0 => Nat.le_refl _
  | q + 1 => by
    have := sm_ng_le dg q
    rw [sm_ng]
    split <;> omega
theorem sm_ng_congr {f g : Nat → Nat} : ∀ {m : Nat}, (∀ q, q < m → f q = g q) → sm_ng f m = sm_ng g m
  | 0, _ => rfl
  | m + 1, H => by
    rw [sm_ng, sm_ng, sm_ng_congr (fun q hq => H q (by omega)), H m (by omega)]
def sm_pw (x : Int32) : Nat → Int32
  | 0 => 1
  | m + 1 => sm_pw x m * x
/-- the first word with P, counted from i; d if there is none -/
def sm_first (d : Int32) (P : List Nat → Bool) : List (List Nat) → Nat → Int32
  | [], _ => d
  | v :: L, i => bif P v then nI i else sm_first d P L (i + 1)
theorem sm_first_congr {d : Int32} {P Q : List Nat → Bool} : ∀ {L : List (List Nat)} {i : Nat}, (∀ v, v ∈ L → P v = Q v) → sm_first d P L i = sm_first d Q L i
  | [], _, _ => rfl
  | v :: L, i, H => by
    rw [sm_first, sm_first, H v List.mem_cons_self, sm_first_congr (fun v hv => H v (List.mem_cons_of_mem _ hv))]
theorem sm_first_3 (P : List Nat → Bool) : ∀ (L : List (List Nat)) (i : Nat), i + L.length < 2 ^ 31 →
    (sm_first (-2) P L i < 0 ∧ sm_first (-3) P L i = -3) ∨ (¬ sm_first (-2) P L i < 0 ∧ sm_first (-3) P L i = sm_first (-2) P L i)
  | [], _, _ => Or.inl ⟨by show (-2 : Int32) < 0; decide, rfl⟩
  | v :: L, i, h => by
    rw [List.length_cons] at h
    rw [sm_first, sm_first]
    cases P v with
    | true => exact Or.inr ⟨nI_pos (by omega), rfl⟩
    | false => exact sm_first_3 P L (i + 1) (by omega)
/-- X's loop over the numbers -/
theorem sm_foldX {α : Type} (F : List (List Nat)) (step : α → List Nat → α) (W : Nat → Nat → α → Prop) (post : α → Prop)
    (hx : ∀ n acc, post acc → W (n + 1) F.length acc)
    (hs : ∀ n i v acc, i < F.length → F[i]? = some v → W n (i + 1) (step acc v) → W (n + 1) i acc) :
    ∀ (L : List (List Nat)) (i : Nat) (acc : α) (n : Nat), i ≤ F.length → F.drop i = L → L.length < n → post (L.foldl step acc) → W n i acc := by
  intro L
  induction L with
  | nil =>
    intro i acc n hi hd hn hp
    have h1 : F.length ≤ i := List.drop_eq_nil_iff.mp hd
    obtain ⟨n, rfl⟩ : ∃ m, n = m + 1 := ⟨n - 1, by omega⟩
    rw [show i = F.length by omega]
    exact hx n acc hp
  | cons v L ih =>
    intro i acc n hi hd hn hp
    have h1 : i < F.length := by
      apply Nat.lt_of_not_le
      intro h
      rw [List.drop_eq_nil_of_le h] at hd
      cases hd
    rw [List.drop_eq_getElem_cons h1] at hd
    injection hd with ha hb
    rw [List.length_cons] at hn
    obtain ⟨n, rfl⟩ : ∃ m, n = m + 1 := ⟨n - 1, by omega⟩
    exact hs n i v acc h1 (by rw [List.getElem?_eq_getElem h1, ha]) (ih (i + 1) (step acc v) n h1 hb (by omega) hp)
/-- X's search for the first -/
theorem sm_firstX (d : Int32) (F : List (List Nat)) (P : List Nat → Bool) (W : Nat → Nat → Prop) (post : Int32 → Prop)
    (hx : ∀ n, post d → W (n + 1) F.length)
    (hs : ∀ n i v, i < F.length → F[i]? = some v → (P v = true → post (nI i)) → (P v = false → W n (i + 1)) → W (n + 1) i) :
    ∀ (L : List (List Nat)) (i n : Nat), i ≤ F.length → F.drop i = L → L.length < n → post (sm_first d P L i) → W n i := by
  intro L
  induction L with
  | nil =>
    intro i n hi hd hn hp
    have h1 : F.length ≤ i := List.drop_eq_nil_iff.mp hd
    obtain ⟨n, rfl⟩ : ∃ m, n = m + 1 := ⟨n - 1, by omega⟩
    rw [show i = F.length by omega]
    exact hx n hp
  | cons v L ih =>
    intro i n hi hd hn hp
    have h1 : i < F.length := by
      apply Nat.lt_of_not_le
      intro h
      rw [List.drop_eq_nil_of_le h] at hd
      cases hd
    rw [List.drop_eq_getElem_cons h1] at hd
    injection hd with ha hb
    rw [List.length_cons] at hn
    obtain ⟨n, rfl⟩ : ∃ m, n = m + 1 := ⟨n - 1, by omega⟩
    rw [sm_first] at hp
    refine hs n i v h1 (by rw [List.getElem?_eq_getElem h1, ha]) ?_ ?_
    · intro e
      rw [e] at hp
      exact hp
    · intro e
      rw [e] at hp
      exact ih (i + 1) n h1 hb (by omega) hp
