/-! the two searches, each over an abstract step of its loop -/
def sm_T (n : Nat) (pl : Nat → Nat) (f : Nat → Int32) (r c : Nat) : Prop :=
  sm_okI n c (sm_sum (fun j => f (pl (r * n + j))) (c + 1)) ∧ sm_okI n r (sm_sum (fun i => f (pl (c + i * n))) (r + 1))
theorem sm_T_ok {n : Nat} {pl : Nat → Nat} {f : Nat → Int32} {w : List Nat} {d r c : Nat} (h5 : n ≤ 5) (hi : sm_inj pl (n * n)) (hr : r < n) (hc : c < n) (hp : w.length = r * n + c) (hw : sm_wd w) (hd : d ≤ 2) (h : sm_ag pl f w) :
    sm_ok n w.length (d :: w) = true ↔ sm_T n pl (upd f (pl (r * n + c)) (sm_e d)) r c := by
  have hl : w.length < n * n := by
    rw [hp]
    exact sm_rc_lt hr hc
  have ha := sm_ag_push hi (d := d) hl h
  rw [hp] at ha ⊢
  exact sm_ok_I h5 hr hc (sm_wd_cons hd hw) ha (by rw [List.length_cons, hp])
/-- X's entries hold the words kept so far -/
def sm_EN (a : Nat) (en : Nat → Int32) (A : List (List Nat)) : Prop := ∀ i v, A[i]? = some v → ∀ q, q < a → en (i * a + q) = sm_e (sm_dg v q)
theorem sm_EN_nil {a : Nat} {en : Nat → Int32} : sm_EN a en [] := fun i v h => by
  rw [List.getElem?_nil] at h
  cases h
theorem sm_EN_add {a : Nat} {en en' : Nat → Int32} {A : List (List Nat)} {v : List Nat} (h : sm_EN a en A) (hk : ∀ i, i < A.length * a → en' i = en i) (hv : ∀ q, q < a → en' (A.length * a + q) = sm_e (sm_dg v q)) : sm_EN a en' (A ++ [v]) := by
  intro i u hu q hq
  by_cases hi : i < A.length
  · rw [List.getElem?_append_left hi] at hu
    have : i * a + q < A.length * a := by
      have : (i + 1) * a ≤ A.length * a := Nat.mul_le_mul_right a hi
      rw [Nat.add_mul] at this
      omega
    rw [hk _ this]
    exact h i u hu q hq
  · have hl : i < (A ++ [v]).length := by
      apply Nat.lt_of_not_le
      intro z
      rw [List.getElem?_eq_none z] at hu
      cases hu
    rw [List.length_append, List.length_singleton] at hl
    have e : i = A.length := by omega
    subst e
    rw [List.getElem?_append_right (Nat.le_refl _), Nat.sub_self] at hu
    cases hu
    exact hv q hq
theorem sm_fullX {n : Nat} (h1 : 1 ≤ n) (h5 : n ≤ 5) (W : Nat → Nat → Nat → (Nat → Int32) → (Nat → Int32) → Prop) (Fin : Nat → (Nat → Int32) → (Nat → Int32) → Prop)
    (t0 : ∀ p s m dr en, p < n * n → s < 1000000 → dr p = 1 → (∀ p', p = p' + 1 → W p' (s + 1) m dr en) → (p = 0 → Fin m dr en) → W p s m dr en)
    (t1 : ∀ r c s m dr en j, r < n → c < n → s < 1000000 → j ≤ 2 → dr (r * n + c) = sm_c (j + 1) → sm_T n (fun q => q) (upd dr (r * n + c) (sm_e (2 - j))) r c →
      (r * n + c + 1 < n * n → W (r * n + c + 1) (s + 1) m (upd (upd dr (r * n + c) (sm_e (2 - j))) (r * n + c + 1) (-2)) en) →
      (r * n + c + 1 = n * n → W (n * n) (s + 1) m (upd dr (r * n + c) (sm_e (2 - j))) en) → W (r * n + c) s m dr en)
    (t2 : ∀ r c s m dr en j, r < n → c < n → s < 1000000 → j ≤ 2 → dr (r * n + c) = sm_c (j + 1) → ¬ sm_T n (fun q => q) (upd dr (r * n + c) (sm_e (2 - j))) r c →
      W (r * n + c) (s + 1) m (upd dr (r * n + c) (sm_e (2 - j))) en → W (r * n + c) s m dr en)
    (t3 : ∀ s m dr en, s < 1000000 → m < 429 → (∀ en', (∀ i, i < m * (n * n) → en' i = en i) → (∀ q, q < n * n → en' (m * (n * n) + q) = dr q) → W (n * n - 1) (s + 1) (m + 1) dr en') → W (n * n) s m dr en)
    (hF : ∀ dr en, sm_EN (n * n) en (sm_G n) → Fin (sm_G n).length dr en) :
    ∀ dr en, dr 0 = -2 → W 0 0 0 dr en := by
  intro dr en hd
  have hnn := sm_nn1 h1
  have key := sm_full (sm_ok n) (n * n) 1000000 (sm_G n)
    (fun w j s A => ∀ dr en, sm_ag (fun q => q) dr w → dr w.length = sm_c j → sm_EN (n * n) en A → W w.length s A.length dr en)
    (fun v s A => ∀ dr en, sm_ag (fun q => q) dr v → sm_EN (n * n) en A → W (n * n) s A.length dr en)
    (by
      intro w j s A hl hj hw hs hok hE dr en ha hc he
      obtain ⟨r, c, hr, hcn, hp⟩ := sm_q_of (n := n) (q := w.length) (by omega)
      have hT := (sm_T_ok h5 (sm_inj_id _) hr hcn hp hw (by omega) ha).mp hok
      rw [hp] at hc hl ⊢
      refine t1 r c s A.length dr en j hr hcn hs hj hc hT ?_ ?_
      · intro _
        have := hE (upd (upd dr (r * n + c) (sm_e (2 - j))) (r * n + c + 1) (-2)) en ?_ ?_ he
        · rw [List.length_cons, hp] at this
          exact this
        · have hb := sm_ag_push (sm_inj_id (n * n)) (d := 2 - j) (by omega) ha
          have hc2 := sm_ag_set (sm_inj_id (n * n)) (p := r * n + c + 1) (x := -2) (by rw [List.length_cons]; omega) hl hb
          rw [hp] at hc2
          exact hc2
        · rw [List.length_cons, hp, pk_us, sm_c3]
      · intro e
        omega)
    (by
      intro w j s A hl hj hw hs hok hE dr en ha hc he
      obtain ⟨r, c, hr, hcn, hp⟩ := sm_q_of (n := n) (q := w.length) (by omega)
      have hT := (sm_T_ok h5 (sm_inj_id _) hr hcn hp hw (by omega) ha).mp hok
      rw [hp] at hc hl ⊢
      refine t1 r c s A.length dr en j hr hcn hs hj hc hT ?_ ?_
      · intro e
        omega
      · intro _
        have hb := sm_ag_push (sm_inj_id (n * n)) (d := 2 - j) (by omega) ha
        have hb2 := hE _ en hb he
        rw [hp] at hb2
        exact hb2)
    (by
      intro w j s A hl hj hw hs hok hE dr en ha hc he
      obtain ⟨r, c, hr, hcn, hp⟩ := sm_q_of (n := n) (q := w.length) (by omega)
      have hT : ¬ sm_T n (fun q => q) (upd dr (r * n + c) (sm_e (2 - j))) r c := by
        intro z
        rw [(sm_T_ok h5 (sm_inj_id _) hr hcn hp hw (by omega) ha).mpr z] at hok
        cases hok
      have hx := hE (upd dr (r * n + c) (sm_e (2 - j))) en ?_ ?_ he
      · rw [hp] at hc hx ⊢
        exact t2 r c s A.length dr en j hr hcn hs hj hc hT hx
      · have hb := sm_ag_set (sm_inj_id (n * n)) (p := w.length) (x := sm_e (2 - j)) (Nat.le_refl _) hl ha
        rw [hp] at hb
        exact hb
      · rw [hp, pk_us, sm_c_e hj])
    (by
      intro e w s A hl hw hs hE dr en ha hc he
      have hx := hE dr en (sm_ag_tail ha) ?_ he
      · rw [List.length_cons] at hc ⊢
        refine t0 (w.length + 1) s A.length dr en hl hs (by rw [hc, sm_c0]) ?_ ?_
        · intro p' hp'
          rw [show p' = w.length by omega]
          exact hx
        · intro z
          omega
      · rw [sm_ag_head ha]
        exact sm_e_c (sm_wd_head hw))
    (by
      intro s hs dr en _ hc he
      exact t0 0 s _ dr en (by omega) hs (by rw [← sm_c0]; exact hc) (fun p' hp' => by omega) (fun _ => hF dr en he))
    (by
      intro e w s A L hl hw hs hG hE dr en ha he
      have hlen : A.length < 429 := by
        have h2 := sm_lnT h1 h5
        rw [← hG, List.length_append, List.length_cons] at h2
        omega
      refine t3 s A.length dr en hs hlen ?_
      intro en' hk hv
      have hx := hE dr en' (sm_ag_tail ha) ?_ ?_
      · rw [List.length_append, List.length_singleton] at hx
        rw [show n * n - 1 = w.length by omega]
        exact hx
      · rw [sm_ag_head ha]
        exact sm_e_c (sm_wd_head hw)
      · refine sm_EN_add he hk ?_
        intro q hq
        rw [hv q hq]
        exact ha q (by rw [List.length_cons]; omega))
  have hst := sm_stT h1 h5
  have e1 : sm_rs (sm_ok n) (n * n - 1) [] 3 = sm_st (sm_ok n) (n * n) 0 [] := by
    rw [sm_rs_all, show n * n - 1 + 1 = n * n by omega]
  have e2 : sm_rem (sm_ok n) (n * n - 1) [] 3 = sm_G n := by
    rw [sm_rem_all, show n * n - 1 + 1 = n * n by omega]
    rfl
  exact key _ (n * n - 1) [] 3 0 [] (by rw [List.length_nil]; omega) (by omega) sm_wd_nil (Nat.le_refl _) (by omega) (by rw [e2]; rfl) dr en sm_ag_nil (by rw [sm_c3]; exact hd) sm_EN_nil
/-- where Y's search stands: L is still to come -/
def sm_pos (n : Nat) (A : Nat → Int32) (dp : Int32) (sq : Nat → Int32) (L : List (List Nat)) : Prop :=
  (dp = 0 ∧ sq 0 = -2 ∧ L = sm_F n A) ∨ (dp = nI (n * n) ∧ ∃ v, v.length = n * n ∧ sm_wd v ∧ sm_ag (sm_pl n) sq v ∧ sm_rest (sm_okA n A) 0 v = L)
theorem sm_okA_ok {n : Nat} {A : Nat → Int32} {p d : Nat} {w : List Nat} : sm_okA n A p (d :: w) = true ↔ sm_ok n p (d :: w) = true ∧ sm_al A p d = true := by
  show (sm_ok n p (d :: w) && sm_al A p d) = true ↔ _
  rw [Bool.and_eq_true]
def sm_TY (n : Nat) (A f : Nat → Int32) (r c d : Nat) : Prop := sm_T n (sm_pl n) f r c ∧ sm_al A (r * n + c) d = true
theorem sm_advY {n : Nat} (h1 : 1 ≤ n) (h5 : n ≤ 5) (A : Nat → Int32) (W : Nat → (Nat → Int32) → Prop) (Ex Fa : (Nat → Int32) → Prop)
    (s0 : ∀ p sq, p < n * n → sq (sm_pl n p) = 1 → (∀ p', p = p' + 1 → W p' (upd sq (sm_pl n p) 2)) → (p = 0 → Fa (upd sq (sm_pl n p) 2)) → W p sq)
    (s1 : ∀ r c sq j, r < n → c < n → j ≤ 2 → sq (sm_pl n (r * n + c)) = sm_c (j + 1) → sm_TY n A (upd sq (sm_pl n (r * n + c)) (sm_e (2 - j))) r c (2 - j) →
      (r * n + c + 1 < n * n → W (r * n + c + 1) (upd (upd sq (sm_pl n (r * n + c)) (sm_e (2 - j))) (sm_pl n (r * n + c + 1)) (-2))) →
      (r * n + c + 1 = n * n → Ex (upd sq (sm_pl n (r * n + c)) (sm_e (2 - j)))) → W (r * n + c) sq)
    (s2 : ∀ r c sq j, r < n → c < n → j ≤ 2 → sq (sm_pl n (r * n + c)) = sm_c (j + 1) → ¬ sm_TY n A (upd sq (sm_pl n (r * n + c)) (sm_e (2 - j))) r c (2 - j) →
      W (r * n + c) (upd sq (sm_pl n (r * n + c)) (sm_e (2 - j))) → W (r * n + c) sq)
    {L : List (List Nat)}
    (hL : ∀ v L' sq, L = v :: L' → v.length = n * n → sm_wd v → sm_ag (sm_pl n) sq v → sm_rest (sm_okA n A) 0 v = L' → Ex sq)
    (hE : ∀ sq, L = [] → Fa sq) :
    ∀ (k : Nat) (w : List Nat) (j : Nat) sq, w.length + k + 1 = n * n → j ≤ 3 → sm_wd w → sm_ag (sm_pl n) sq w → sq (sm_pl n w.length) = sm_c j → sm_rem (sm_okA n A) k w j = L → W w.length sq := by
  intro k w j sq hk hj hw ha hc hrem
  have hi := sm_inj_pl h5
  have key := sm_adv (sm_okA n A) (n * n)
    (fun w j => ∀ sq, sm_ag (sm_pl n) sq w → sq (sm_pl n w.length) = sm_c j → W w.length sq)
    (fun v => ∀ sq, sm_ag (sm_pl n) sq v → Ex sq) (∀ sq, Fa sq)
    (by
      intro w j hl hj hw hok hE sq ha hc
      obtain ⟨r, c, hr, hcn, hp⟩ := sm_q_of (n := n) (q := w.length) (by omega)
      have hT := (sm_T_ok h5 hi hr hcn hp hw (by omega) ha).mp (sm_okA_ok.mp hok).1
      have hA := (sm_okA_ok.mp hok).2
      rw [hp] at hc hl hA ⊢
      refine s1 r c sq j hr hcn hj hc ⟨hT, hA⟩ ?_ ?_
      · intro _
        have := hE (upd (upd sq (sm_pl n (r * n + c)) (sm_e (2 - j))) (sm_pl n (r * n + c + 1)) (-2)) ?_ ?_
        · rw [List.length_cons, hp] at this
          exact this
        · have hb := sm_ag_push hi (d := 2 - j) (by omega) ha
          have hc2 := sm_ag_set hi (p := r * n + c + 1) (x := -2) (by rw [List.length_cons]; omega) hl hb
          rw [hp] at hc2
          exact hc2
        · rw [List.length_cons, hp, pk_us, sm_c3]
      · intro e
        omega)
    (by
      intro w j hl hj hw hok hE sq ha hc
      obtain ⟨r, c, hr, hcn, hp⟩ := sm_q_of (n := n) (q := w.length) (by omega)
      have hT := (sm_T_ok h5 hi hr hcn hp hw (by omega) ha).mp (sm_okA_ok.mp hok).1
      have hA := (sm_okA_ok.mp hok).2
      rw [hp] at hc hl hA ⊢
      refine s1 r c sq j hr hcn hj hc ⟨hT, hA⟩ ?_ ?_
      · intro e
        omega
      · intro _
        have hb := sm_ag_push hi (d := 2 - j) (by omega) ha
        have hb2 := hE _ hb
        rw [hp] at hb2
        exact hb2)
    (by
      intro w j hl hj hw hok hE sq ha hc
      obtain ⟨r, c, hr, hcn, hp⟩ := sm_q_of (n := n) (q := w.length) (by omega)
      have hT : ¬ sm_TY n A (upd sq (sm_pl n (r * n + c)) (sm_e (2 - j))) r c (2 - j) := by
        intro z
        have z1 := (sm_T_ok h5 hi hr hcn hp hw (by omega) ha).mpr z.1
        have z2 := z.2
        rw [← hp] at z2
        rw [sm_okA_ok.mpr ⟨z1, z2⟩] at hok
        cases hok
      have hx := hE (upd sq (sm_pl n (r * n + c)) (sm_e (2 - j))) ?_ ?_
      · rw [hp] at hc hx ⊢
        exact s2 r c sq j hr hcn hj hc hT hx
      · have hb := sm_ag_set hi (p := w.length) (x := sm_e (2 - j)) (Nat.le_refl _) hl ha
        rw [hp] at hb
        exact hb
      · rw [hp, pk_us, sm_c_e hj])
    (by
      intro e w hl hw hE sq ha hc
      rw [List.length_cons] at hc ⊢
      have hx := hE (upd sq (sm_pl n (w.length + 1)) 2) ?_ ?_
      · refine s0 (w.length + 1) sq hl (by rw [hc, sm_c0]) ?_ ?_
        · intro p' hp'
          rw [show p' = w.length by omega]
          exact hx
        · intro z
          omega
      · exact sm_ag_set hi (by omega) hl (sm_ag_tail ha)
      · rw [pk_un (fun z => absurd (hi _ _ (by omega) hl z) (by omega)), sm_ag_head ha]
        exact sm_e_c (sm_wd_head hw))
    (by
      intro hE sq _ hc
      have hnn := sm_nn1 h1
      exact s0 0 sq (by omega) (by rw [← sm_c0]; exact hc) (fun p' hp' => by omega) (fun _ => hE _))
  exact key _ k w j hk hj hw (Nat.le_refl _) (fun v L' hv hwd hlen hr sq ha => hL v L' sq (hrem.symm.trans hv) hlen hwd ha hr) (fun hv sq => hE sq (hrem.symm.trans hv)) sq ha hc
