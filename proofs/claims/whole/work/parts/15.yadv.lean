/-! Y: the search -/
theorem sm_lt1 {s : Int32} : (¬ s < 1 ∧ ¬ 1 < s) ↔ s = 1 := by
  have h1 : (1 : Int32).toInt = 1 := by decide
  rw [Int32.lt_iff_toInt_lt, Int32.lt_iff_toInt_lt]
  constructor
  · rintro ⟨a, b⟩
    exact Int32.toInt_inj.mp (by omega)
  · rintro rfl
    omega
theorem sm_lt0 {s : Int32} : (¬ s < 0 ∧ ¬ 1 < s) ↔ (s = 0 ∨ s = 1) := by
  rw [← sm_01, Int32.not_lt, Int32.not_lt]
theorem sm_okI_Y {n c : Nat} (hc : c < n) {s : Int32} : sm_okI n c s ↔ (¬ s < (if c + 1 = n then 1 else 0) ∧ ¬ 1 < s) := by
  unfold sm_okI
  by_cases e : c + 1 = n
  · rw [if_pos e, sm_lt1]
    exact ⟨fun h => h.elim id (fun w => absurd w.2 (by omega)), Or.inl⟩
  · rw [if_neg e, sm_lt0]
    exact ⟨fun h => h.elim Or.inr (fun w => Or.inl w.1), fun h => h.elim (fun w => Or.inr ⟨w, by omega⟩) Or.inl⟩
theorem sm_pl_cr {n r c : Nat} (hc : c < n) : sm_pl n (c + r * n) = 5 * r + c := by
  rw [Nat.add_comm]
  exact sm_pl_rc hc
theorem sm_5 (r c : Nat) : (5 : Int32) * nI r + nI c = nI (5 * r + c) := by
  rw [show (5 : Int32) = nI 5 from rfl, pk_mul, nI_add]
theorem sm_d5 {p : Nat} (hp : p < 1000) : nI p / 5 = nI (p / 5) := pk_div (d := 5) (by omega) (by decide) (by decide)
theorem sm_m5 {p : Nat} (hp : p < 1000) : nI p - nI p / 5 * 5 = nI (p % 5) := pk_rem (d := 5) (by omega) (by decide) (by decide)
theorem sm_pl_d {n q : Nat} (hn : n ≤ 5) (h : q < n * n) : sm_pl n q / 5 = q / n := by
  have := sm_q_c h
  unfold sm_pl
  omega
theorem sm_pl_m {n q : Nat} (hn : n ≤ 5) (h : q < n * n) : sm_pl n q % 5 = q % n := by
  have := sm_q_c h
  unfold sm_pl
  omega
section
variable {post : Int32 → Prop} {sz dp : Int32} {al hd sq fo ot pa : Nat → Int32} {n : Nat}
theorem sy_isPlace (h5 : n ≤ 5) {a b : Int32} (hf : (∀ i j, i < n → j < n → a = nI i → b = nI j → False) → post 0) (ht : ∀ i j, i < n → j < n → a = nI i → b = nI j → post 1) :
    wpY_isPlace post (nI n, dp, al, hd, sq, fo, ot, pa) a b := by
  refine sm_gate (n := n) (by omega) (fun h => hf (fun i j hi _ e _ => h i hi e)) (fun i hi e => ?_)
  exact sm_gate (n := n) (by omega) (fun h => hf (fun _ j _ hj _ e2 => h j hj e2)) (fun j hj e2 => ht i j hi hj e e2)
theorem sy_placeAt {d : Nat} {x : Int32} (h1 : 1 ≤ n) (h5 : n ≤ 5) (hd2 : d < 100) (hx : x = nI d) (hp : post (nI (sm_pl n d))) :
    wpY_placeAt post (nI n, dp, al, hd, sq, fo, ot, pa) x := by
  subst hx
  have n0 : ¬ nI n = 0 := nI_ne0 (by omega) (by omega)
  refine ⟨n0, n0, ?_⟩
  rw [pk_rem (by omega) (by omega) (by omega), pk_div (by omega) (by omega) (by omega), sm_5]
  exact hp
theorem sy_goesOn {r c : Nat} {x y : Int32} (h1 : 1 ≤ n) (h5 : n ≤ 5) (hr : r < n) (hc : c < n) (hx : x = nI r) (hy : y = nI c)
    (ht : sm_T n (sm_pl n) sq r c → ((al (5 * r + c)) >>> (((sq (5 * r + c)) + 1) &&& 31)) &&& 1 = 1 → post 1)
    (hf : ¬ (sm_T n (sm_pl n) sq r c ∧ ((al (5 * r + c)) >>> (((sq (5 * r + c)) + 1) &&& 31)) &&& 1 = 1) → post 0) :
    wpY_goesOn post (nI n, dp, al, hd, sq, fo, ot, pa) x y := by
  subst hx hy
  refine loop_0 (fun k i a => wY_goesOn_8 post (nI r) (nI c) 0 (nI n) dp al hd sq fo ot pa k a (nI i)) (fun i a => a = sm_sum (fun j => sq (sm_pl n (r * n + j))) i) (c + 1) 0 rfl ?_ ?_
  · rintro k R rfl
    refine br_t (nI_lt (by omega) (by omega)) ?_
    refine loop_0 (fun k i a => wY_goesOn_37 post (nI r) (nI c) (sm_sum (fun j => sq (sm_pl n (r * n + j))) (c + 1)) (nI n) dp al hd sq fo ot pa k a (nI i)) (fun i a => a = sm_sum (fun j => sq (sm_pl n (c + j * n))) i) (r + 1) 0 rfl ?_ ?_
    · rintro k K rfl
      refine br_t (nI_lt (by omega) (by omega)) ?_
      have c5 : (nI (5 * r + c)).toNatClampNeg = 5 * r + c := nI_clamp (by omega)
      have no : ¬ sm_T n (sm_pl n) sq r c → wY_goesOn_120 post (nI r) (nI c) 0 (nI n) dp al hd sq fo ot pa := fun h => br_t rfl (hf (fun q => h q.1))
      have yes : sm_T n (sm_pl n) sq r c → wY_goesOn_120 post (nI r) (nI c) 1 (nI n) dp al hd sq fo ot pa := by
        intro h
        refine br_f (by decide) ?_
        rw [sm_5, c5]
        exact ⟨vp_in_nI (by omega) (by decide), vp_in_nI (by omega) (by decide), br_c (fun z => ht h z) (fun z => hf (fun q => z q.2))⟩
      have col : sm_okI n c (sm_sum (fun j => sq (sm_pl n (r * n + j))) (c + 1)) → ∀ z0, z0 = (if r + 1 = n then (1 : Int32) else 0) → wY_goesOn_106 post (nI r) (nI c) (sm_sum (fun j => sq (sm_pl n (c + j * n))) (r + 1)) z0 (sm_sum (fun j => sq (sm_pl n (c + j * n))) (r + 1)) (nI n) dp al hd sq fo ot pa := by
        rintro h _ rfl
        refine br_c (fun z => no (fun q => ((sm_okI_Y hr).mp q.2).1 z)) (fun z => br_c (fun w => no (fun q => ((sm_okI_Y hr).mp q.2).2 w)) (fun w => yes ⟨h, (sm_okI_Y hr).mpr ⟨z, w⟩⟩))
      have row : ∀ z0, z0 = (if c + 1 = n then (1 : Int32) else 0) → wY_goesOn_81 post (nI r) (nI c) (sm_sum (fun j => sq (sm_pl n (r * n + j))) (c + 1)) (sm_sum (fun j => sq (sm_pl n (c + j * n))) (r + 1)) z0 (sm_sum (fun j => sq (sm_pl n (r * n + j))) (c + 1)) (nI n) dp al hd sq fo ot pa := by
        rintro _ rfl
        refine br_c (fun z => no (fun q => ((sm_okI_Y hc).mp q.1).1 z)) (fun z => br_c (fun w => no (fun q => ((sm_okI_Y hc).mp q.1).2 w)) (fun w => ?_))
        rw [sm_n1 h1]
        exact pk_eq r (n - 1) (fun e => col ((sm_okI_Y hc).mpr ⟨z, w⟩) _ (by rw [if_pos (by omega)])) (fun e => col ((sm_okI_Y hc).mpr ⟨z, w⟩) _ (by rw [if_neg (by omega)]))
      rw [sm_n1 h1]
      exact pk_eq c (n - 1) (fun e => row _ (by rw [if_pos (by omega)])) (fun e => row _ (by rw [if_neg (by omega)]))
    · rintro k i a hi rfl hk
      refine br_f (nI_nlt (by omega) (by omega)) ?_
      rw [sm_5, nI_clamp (by omega)]
      refine ⟨vp_in_nI (by omega) (by decide), nm_e (nm_r (nI_1 i) (hk _ ?_))⟩
      rw [← sm_pl_cr hc]
      rfl
  · rintro k i a hi rfl hk
    refine br_f (nI_nlt (by omega) (by omega)) ?_
    rw [sm_5, nI_clamp (by omega)]
    refine ⟨vp_in_nI (by omega) (by decide), nm_e (nm_r (nI_1 i) (hk _ ?_))⟩
    rw [← sm_pl_rc (n := n) (by omega)]
    rfl
theorem sy_advance {post : Int32 → SY → Prop} {A : Nat → Int32} {L : List (List Nat)} (h1 : 1 ≤ n) (h5 : n ≤ 5) (hA : ∀ q, q < n * n → al (sm_pl n q) = A q) (hpos : sm_pos n A dp sq L)
    (ht : ∀ v L' sq', L = v :: L' → v.length = n * n → sm_wd v → sm_ag (sm_pl n) sq' v → sm_pos n A (nI (n * n)) sq' L' → post 1 (nI n, nI (n * n), al, hd, sq', fo, ot, pa))
    (hf : ∀ dp' sq', L = [] → post 0 (nI n, dp', al, hd, sq', fo, ot, pa)) :
    wpY_advance post (nI n, dp, al, hd, sq, fo, ot, pa) := by
  have hnn := sm_nn h5
  have hn1 := sm_nn1 h1
  have key := sm_advY h1 h5 A (fun p sq => ∃ k, wY_advance_28 post (nI (n * n)) (nI n) k (nI p) al hd sq fo ot pa)
    (fun sq => post 1 (nI n, nI (n * n), al, hd, sq, fo, ot, pa)) (fun sq => post 0 (nI n, nI 0 - 1, al, hd, sq, fo, ot, pa))
    (by
      intro p sq hp h hW hF
      have hl := sm_pl_lt h5 hp
      have c1 : (nI (sm_pl n p)).toNatClampNeg = sm_pl n p := nI_clamp (by omega)
      have eu : upd sq (nI (sm_pl n p)).toNatClampNeg (sq (nI (sm_pl n p)).toNatClampNeg + 1) = upd sq (sm_pl n p) 2 := by
        rw [c1, h]
        rfl
      have hin : vp_in (nI (sm_pl n p)) 25 := vp_in_nI hl (by decide)
      have n2 : ¬ upd sq (sm_pl n p) 2 (nI (sm_pl n p)).toNatClampNeg ≤ 1 := by
        rw [c1, pk_us]
        decide
      cases p with
      | zero =>
        refine ⟨2, br_f (nI_pos (by omega)) (br_f (nI_ge (by omega) (by omega)) (sy_placeAt h1 h5 (by omega) rfl ⟨hin, hin, nm_r eu ⟨hin, br_f n2 (nm_e ?_)⟩⟩))⟩
        refine br_t (by decide) (br_f ?_ (hF rfl))
        intro z
        have hz : nI 0 - 1 < 0 := by decide
        rw [z] at hz
        exact nI_pos (by omega) hz
      | succ p =>
        obtain ⟨k, hk⟩ := hW p rfl
        exact ⟨k + 1, br_f (nI_pos (by omega)) (br_f (nI_ge (by omega) (by omega)) (sy_placeAt h1 h5 (by omega) rfl ⟨hin, hin, nm_r eu ⟨hin, br_f n2 (nm_r (nI_pred p) hk)⟩⟩))⟩)
    (by
      intro r c sq j hr hc hj h hT hW hX
      have hp := sm_rc_lt hr hc
      have hl := sm_pl_lt h5 hp
      have c1 : (nI (sm_pl n (r * n + c))).toNatClampNeg = sm_pl n (r * n + c) := nI_clamp (by omega)
      have eu : upd sq (nI (sm_pl n (r * n + c))).toNatClampNeg (sq (nI (sm_pl n (r * n + c))).toNatClampNeg + 1) = upd sq (sm_pl n (r * n + c)) (sm_e (2 - j)) := by
        rw [c1, h, sm_c_up, sm_c_e hj]
      have hin : vp_in (nI (sm_pl n (r * n + c))) 25 := vp_in_nI hl (by decide)
      have n2 : upd sq (sm_pl n (r * n + c)) (sm_e (2 - j)) (nI (sm_pl n (r * n + c))).toNatClampNeg ≤ 1 := by
        rw [c1, pk_us]
        exact (sm_e_le (e := 1) (by omega) (by omega)).mpr (by omega)
      have g1 : nI (sm_pl n (r * n + c)) / 5 = nI r := by rw [sm_d5 (by omega), sm_pl_d h5 hp, sm_rd hc]
      have g2 : nI (sm_pl n (r * n + c)) - nI (sm_pl n (r * n + c)) / 5 * 5 = nI c := by rw [sm_m5 (by omega), sm_pl_m h5 hp, sm_rmd hc]
      have hal : ((al (5 * r + c)) >>> (((upd sq (sm_pl n (r * n + c)) (sm_e (2 - j)) (5 * r + c)) + 1) &&& 31)) &&& 1 = 1 := by
        have := sm_al_t.mp hT.2
        rw [← sm_pl_rc hc, pk_us, hA _ hp, sm_e_def, Int32.sub_add_cancel]
        exact this
      by_cases e : r * n + c + 1 = n * n
      · refine ⟨2, br_f (nI_pos (by omega)) (br_f (nI_ge (by omega) (by omega)) (sy_placeAt h1 h5 (by omega) rfl ⟨hin, hin, nm_r eu ⟨hin, br_t n2 ⟨by decide, by decide, sy_goesOn h1 h5 hr hc g1 g2 (fun _ _ => br_f (by decide) (nm_r (nI_1 (r * n + c)) ?_)) (fun z => absurd ⟨hT.1, hal⟩ z)⟩⟩⟩))⟩
        rw [e]
        refine br_t (nI_le (Nat.le_refl _) (by omega)) ?_
        exact br_f (nI_pos (by omega)) (br_t (nI_le (Nat.le_refl _) (by omega)) (br_t rfl (hX e)))
      · obtain ⟨k, hk⟩ := hW (by omega)
        have hl2 := sm_pl_lt h5 (q := r * n + c + 1) (by omega)
        refine ⟨k + 1, br_f (nI_pos (by omega)) (br_f (nI_ge (by omega) (by omega)) (sy_placeAt h1 h5 (by omega) rfl ⟨hin, hin, nm_r eu ⟨hin, br_t n2 ⟨by decide, by decide, sy_goesOn h1 h5 hr hc g1 g2 (fun _ _ => br_f (by decide) (nm_r (nI_1 (r * n + c)) (br_f (nI_ge (by omega) (by omega)) (sy_placeAt h1 h5 (d := r * n + c + 1) (by omega) rfl ⟨vp_in_nI hl2 (by decide), nm_e ?_⟩)))) (fun z => absurd ⟨hT.1, hal⟩ z)⟩⟩⟩))⟩
        rw [nI_clamp (by omega)]
        exact hk)
    (by
      intro r c sq j hr hc hj h hT hW
      have hp := sm_rc_lt hr hc
      have hl := sm_pl_lt h5 hp
      have c1 : (nI (sm_pl n (r * n + c))).toNatClampNeg = sm_pl n (r * n + c) := nI_clamp (by omega)
      have eu : upd sq (nI (sm_pl n (r * n + c))).toNatClampNeg (sq (nI (sm_pl n (r * n + c))).toNatClampNeg + 1) = upd sq (sm_pl n (r * n + c)) (sm_e (2 - j)) := by
        rw [c1, h, sm_c_up, sm_c_e hj]
      have hin : vp_in (nI (sm_pl n (r * n + c))) 25 := vp_in_nI hl (by decide)
      have n2 : upd sq (sm_pl n (r * n + c)) (sm_e (2 - j)) (nI (sm_pl n (r * n + c))).toNatClampNeg ≤ 1 := by
        rw [c1, pk_us]
        exact (sm_e_le (e := 1) (by omega) (by omega)).mpr (by omega)
      have g1 : nI (sm_pl n (r * n + c)) / 5 = nI r := by rw [sm_d5 (by omega), sm_pl_d h5 hp, sm_rd hc]
      have g2 : nI (sm_pl n (r * n + c)) - nI (sm_pl n (r * n + c)) / 5 * 5 = nI c := by rw [sm_m5 (by omega), sm_pl_m h5 hp, sm_rmd hc]
      have no : ¬ (sm_T n (sm_pl n) (upd sq (sm_pl n (r * n + c)) (sm_e (2 - j))) r c ∧ ((al (5 * r + c)) >>> (((upd sq (sm_pl n (r * n + c)) (sm_e (2 - j)) (5 * r + c)) + 1) &&& 31)) &&& 1 = 1) := by
        rintro ⟨z1, z2⟩
        rw [← sm_pl_rc hc, pk_us, hA _ hp, sm_e_def, Int32.sub_add_cancel] at z2
        exact hT ⟨z1, sm_al_t.mpr z2⟩
      obtain ⟨k, hk⟩ := hW
      exact ⟨k + 1, br_f (nI_pos (by omega)) (br_f (nI_ge (by omega) (by omega)) (sy_placeAt h1 h5 (by omega) rfl ⟨hin, hin, nm_r eu ⟨hin, br_t n2 ⟨by decide, by decide, sy_goesOn h1 h5 hr hc g1 g2 (fun z1 z2 => absurd ⟨z1, z2⟩ no) (fun _ => br_t rfl hk)⟩⟩⟩))⟩)
    (L := L) (fun v L' sq' a b c d e => ht v L' sq' a b c d (Or.inr ⟨rfl, v, b, c, d, e⟩)) (fun sq' a => hf _ sq' a)
  refine nm_r (pk_mul n n) ?_
  rcases hpos with ⟨a, b, c⟩ | ⟨a, v, b, c, d, e⟩
  · subst a
    refine br_f (fun z => nI_ne0 (by omega) (by omega) z.symm) ?_
    have := key (n * n - 1) [] 3 sq (by rw [List.length_nil]; omega) (by omega) sm_wd_nil sm_ag_nil ?_ ?_
    · exact this
    · rw [List.length_nil, show sm_pl n 0 = 0 from by unfold sm_pl; rw [Nat.zero_div, Nat.zero_mod], b, sm_c3]
    · rw [sm_rem_all, show n * n - 1 + 1 = n * n by omega, sm_F_gen, c]
  · subst a
    cases v with
    | nil =>
      rw [List.length_nil] at b
      omega
    | cons x w =>
      rw [List.length_cons] at b
      have e1 : nI (n * n) - 1 = nI w.length := by
        rw [← b]
        exact nI_pred w.length
      refine br_t rfl (nm_r e1 ?_)
      refine key 0 w (2 - x) sq (by omega) (by omega) (sm_wd_tail c) (sm_ag_tail d) ?_ ?_
      · rw [sm_ag_head d]
        exact sm_e_c (sm_wd_head c)
      · rw [← sm_rest_rem]
        exact e
theorem sm_pos_begin {A : Nat → Int32} : sm_pos n A 0 (upd sq 0 (-2)) (sm_F n A) := Or.inl ⟨rfl, pk_us, rfl⟩
end
