/-! X: walks along the paths, rings, patterns -/
theorem sm_four {k : Nat} (h : k < 4) : k = 0 ∨ k = 1 ∨ k = 2 ∨ k = 3 := by omega
theorem sm_e_le {x e : Nat} (hx : x < 1000) (he : e < 1000) : sm_e x ≤ nI e ↔ x ≤ e + 1 := by
  rw [Int32.le_iff_toInt_le, sm_e_def, nI_toInt (by omega)]
  have : (nI x - 1).toInt = (x : Int) - 1 := pk_sub_toInt (b := 1) (by omega) (by decide)
  rw [this]
  omega
theorem sm_e_neg {x : Nat} (hx : x < 1000) : sm_e x < 0 ↔ x = 0 := by
  cases x with
  | zero => exact ⟨fun _ => rfl, fun _ => by decide⟩
  | succ x =>
    rw [sm_eS]
    exact ⟨fun h => absurd h (nI_pos (by omega)), fun h => by omega⟩
def sm_pat (on : Nat → Bool) (n : Nat) : Nat → Nat → Int32 → Int32
  | 0, _, a => a
  | k + 1, e, a => bif on (sm_op n e) then sm_pat on n k (e + 1) (a * 2 + (if sm_end on n (n * n) (sm_op n e) ≤ e + 1 then 0 else 1)) else sm_pat on n k (e + 1) a
theorem sm_end_S (on : Nat → Bool) (n f t : Nat) : sm_end on n (f + 1) t = (match sm_out n (sm_wy on t) with
    | 0 => sm_end on n f (sm_acr n (sm_wy on t))
    | e + 1 => e + 1) := by
  rw [sm_end, sm_fc_eq]
  cases sm_out n (sm_wy on t) <;> rfl
theorem sm_fr_S (on : Nat → Bool) (n d f t : Nat) : sm_fr on n d (f + 1) t = (match sm_out n (sm_wy on t) with
    | 0 => bif Nat.ble (sm_acr n (sm_wy on t) / 4 + 1) d then false else bif Nat.beq (sm_acr n (sm_wy on t) / 4) d then true else sm_fr on n d f (sm_acr n (sm_wy on t))
    | _ + 1 => false) := by
  rw [sm_fr, sm_fc_eq]
  cases sm_out n (sm_wy on t) <;> rfl
section
variable {post : Int32 → Prop} {sz pls gc fc : Int32} {en st al hd dr : Nat → Int32} {n s : Nat} {dg : Nat → Nat} {on : Nat → Bool}
theorem sx_outerPort {e : Nat} {x : Int32} (h1 : 1 ≤ n) (h5 : n ≤ 5) (he : e < 4 * n) (hx : x = nI e) (hp : post (nI (sm_op n e))) :
    wpX_outerPort post (nI n, pls, gc, fc, en, st, al, hd, dr) x := by
  subst hx
  obtain ⟨o1, o2, o3, o4⟩ := sm_opF n (by omega) e he
  have n0 : ¬ nI n = 0 := nI_ne0 (by omega) (by omega)
  have h86 : ∀ a b, a = nI (sm_opr n e) → b = nI (sm_opc n e) → wX_outerPort_86 post (nI (e / n)) a b (nI n) pls gc fc en st al hd dr := by
    rintro _ _ rfl rfl
    show post (((nI (sm_opr n e) * nI n) + nI (sm_opc n e)) * 4 + nI (e / n))
    rw [show (4 : Int32) = nI 4 from rfl, pk_mul, nI_add, pk_mul, nI_add, ← o1]
    exact hp
  refine ⟨n0, nm_r (pk_div (by omega) (by omega) (by omega)) ⟨n0, nm_r (pk_rem (by omega) (by omega) (by omega)) (nm_r (sm_n1 h1) ?_)⟩⟩
  have hm : e % n < n := Nat.mod_lt _ (by omega)
  have hs : nI (n - 1) - nI (e % n) = nI (n - 1 - e % n) := pk_sub (by omega)
  rcases sm_four o4 with hk | hk | hk | hk
  · rw [hk] at h86 ⊢
    exact br_t rfl (br_t rfl (h86 _ _ (by unfold sm_opr; rw [hk]; rfl) (by unfold sm_opc; rw [hk]; rfl)))
  · rw [hk] at h86 ⊢
    exact br_f (by decide) (br_t rfl (br_f (by decide) (br_t rfl (h86 _ _ (by unfold sm_opr; rw [hk]; rfl) (by unfold sm_opc; rw [hk]; rfl)))))
  · rw [hk] at h86 ⊢
    exact br_f (by decide) (br_f (by decide) (br_t rfl (br_f (by decide) (br_f (by decide) (br_t rfl (h86 _ _ (by unfold sm_opr; rw [hk]; rfl) (by unfold sm_opc; rw [hk, hs]; rfl)))))))
  · rw [hk] at h86 ⊢
    exact br_f (by decide) (br_f (by decide) (br_f (by decide) (br_f (by decide) (br_f (by decide) (br_f (by decide) (h86 _ _ (by unfold sm_opr; rw [hk, hs]; rfl) (by unfold sm_opc; rw [hk]; rfl)))))))
theorem sx_endOfPath {t : Nat} {x y : Int32} (h1 : 1 ≤ n) (h5 : n ≤ 5) (hq : sm_SQ n en s dg) (hon : ∀ t, t < 4 * (n * n) → on t = sm_onX n dg t) (ht4 : t < 4 * (n * n)) (hx : x = nI s) (hy : y = nI t) (hp : post (sm_e (sm_end on n (n * n) t))) :
    wpX_endOfPath post (nI n, nI (n * n), gc, fc, en, st, al, hd, dr) x y := by
  subst hx hy
  have hnn := sm_nn h5
  refine ⟨n * n + 1, ?_⟩
  have key : ∀ f i t, i + f = n * n → t < 4 * (n * n) → post (sm_e (sm_end on n f t)) → wX_endOfPath_5 post (nI s) (nI n) (nI (n * n)) gc fc en st al hd dr (f + 1) (nI t) (nI i) := by
    intro f
    induction f with
    | zero =>
      intro i t hi ht hp
      refine br_t (nI_le (by omega) (by omega)) ?_
      rw [← sm_e0]
      exact hp
    | succ f ih =>
      intro i t hi ht hp
      have hw := sm_wy_lt on ht
      have ho := sm_out_le hw
      rw [sm_end_S] at hp
      refine br_f (nI_ge (by omega) (by omega)) (sx_wayOn h1 h5 hq hon ht rfl rfl (sx_outerNumber h1 h5 hw rfl ?_))
      cases h : sm_out n (sm_wy on t) with
      | zero =>
        rw [h] at hp
        exact br_t (by decide) (sx_portAcross h5 hw rfl h (nm_r (nI_1 i) (ih (i + 1) _ (by omega) (sm_acr_lt hw h) hp)))
      | succ e =>
        rw [h] at hp
        exact br_f (fun z => absurd ((sm_e_neg (by omega)).mp z) (by omega)) hp
  exact key (n * n) 0 t (by omega) ht4 hp
theorem sx_isFirst {d : Nat} {x y : Int32} (h1 : 1 ≤ n) (h5 : n ≤ 5) (hq : sm_SQ n en s dg) (hon : ∀ t, t < 4 * (n * n) → on t = sm_onX n dg t) (hd2 : d < n * n) (hx : x = nI s) (hy : y = nI d)
    (ht : sm_fr on n d (n * n) (sm_f0 on d) = true → post 1) (hf : sm_fr on n d (n * n) (sm_f0 on d) = false → post 0) :
    wpX_isFirstOfRing post (nI n, nI (n * n), gc, fc, en, st, al, hd, dr) x y := by
  subst hx hy
  have hnn := sm_nn h5
  have key : ∀ f i t, i + f = n * n → t < 4 * (n * n) → (sm_fr on n d f t = true → post 1) → (sm_fr on n d f t = false → post 0) → wX_isFirstOfRing_23 post (nI s) (nI d) (nI n) (nI (n * n)) gc fc en st al hd dr (f + 1) (nI t) (nI i) := by
    intro f
    induction f with
    | zero =>
      intro i t hi ht _ hf
      exact br_t (nI_le (by omega) (by omega)) (hf rfl)
    | succ f ih =>
      intro i t hi ht hpt hpf
      have hw := sm_wy_lt on ht
      have ho := sm_out_le hw
      rw [sm_fr_S] at hpt hpf
      refine br_f (nI_ge (by omega) (by omega)) (sx_wayOn h1 h5 hq hon ht rfl rfl (sx_outerNumber h1 h5 hw rfl ?_))
      cases h : sm_out n (sm_wy on t) with
      | zero =>
        rw [h] at hpt hpf
        have ha := sm_acr_lt hw h
        refine br_t (by decide) (sx_portAcross h5 hw rfl h ⟨by decide, ?_⟩)
        rw [sm_t4 (by omega)]
        refine pk_le d (sm_acr n (sm_wy on t) / 4) (fun z => ⟨by decide, pk_eq (sm_acr n (sm_wy on t) / 4) d (fun z2 => hpt ?_) (fun z2 => ?_)⟩) (fun z => hpf ?_)
        · show (bif Nat.ble _ _ then false else bif Nat.beq _ _ then true else _) = true
          rw [sm_beq_t z2, show Nat.ble (sm_acr n (sm_wy on t) / 4 + 1) d = false from by
            cases q : Nat.ble (sm_acr n (sm_wy on t) / 4 + 1) d with
            | false => rfl
            | true => exact absurd (Nat.le_of_ble_eq_true q) (by omega)]
          rfl
        · have e1 : Nat.ble (sm_acr n (sm_wy on t) / 4 + 1) d = false := by
            cases q : Nat.ble (sm_acr n (sm_wy on t) / 4 + 1) d with
            | false => rfl
            | true => exact absurd (Nat.le_of_ble_eq_true q) (by omega)
          rw [e1, sm_beq_f z2] at hpt hpf
          exact nm_r (nI_1 i) (ih (i + 1) _ (by omega) ha hpt hpf)
        · show (bif Nat.ble _ _ then false else _) = false
          rw [show Nat.ble (sm_acr n (sm_wy on t) / 4 + 1) d = true from Nat.ble_eq_true_of_le (by omega)]
          rfl
      | succ e =>
        rw [h] at hpf
        exact br_f (fun z => absurd ((sm_e_neg (by omega)).mp z) (by omega)) (hpf rfl)
  have e4 : nI d * 4 = nI (d * 4) := pk_mul d 4
  have hb : d * 4 < 4 * (n * n) := by omega
  refine nm_r e4 (sx_isOn h1 h5 hq hb rfl rfl ?_ ?_)
  · intro z
    unfold sm_f0 at ht hf
    rw [hon _ hb, z] at ht hf
    exact br_f (by decide) ⟨_, key (n * n) 0 (d * 4) (by omega) hb ht hf⟩
  · intro z
    unfold sm_f0 at ht hf
    rw [hon _ hb, z] at ht hf
    exact br_t rfl (sx_wayOn h1 h5 hq hon hb rfl rfl ⟨_, key (n * n) 0 _ (by omega) (sm_wy_lt on hb) ht hf⟩)
theorem sx_patternOf {x : Int32} (h1 : 1 ≤ n) (h5 : n ≤ 5) (hq : sm_SQ n en s dg) (hP : sm_Path n dg on) (hx : x = nI s) (hp : post (sm_pat on n (4 * n) 0 0)) :
    wpX_patternOf post (nI n, nI (n * n), gc, fc, en, st, al, hd, dr) x := by
  subst hx
  have hon : ∀ t, t < 4 * (n * n) → on t = sm_onX n dg t := fun t ht => (hP.1 t ht).1
  refine ⟨4 * n + 1, ?_⟩
  have e4 : (4 : Int32) * nI n = nI (4 * n) := pk_mul 4 n
  have key : ∀ k e a, e + k = 4 * n → post (sm_pat on n k e a) → wX_patternOf_4 post (nI s) (nI n) (nI (n * n)) gc fc en st al hd dr (k + 1) a (nI e) := by
    intro k
    induction k with
    | zero =>
      intro e a he hp
      refine br_t ?_ hp
      rw [e4]
      exact nI_le (by omega) (by omega)
    | succ k ih =>
      intro e a he hp
      have he4 : e < 4 * n := by omega
      have hb := sm_op_lt h5 he4
      rw [sm_pat] at hp
      refine br_f ?_ (sx_outerPort h1 h5 he4 rfl (sx_isOn h1 h5 hq hb rfl rfl ?_ ?_))
      · rw [e4]
        exact nI_ge he4 (by omega)
      · intro z
        have z2 : on (sm_op n e) = true := (hon _ hb).trans z
        rw [z2] at hp
        have hle := (hP.2.1 e he4 z2).2
        refine br_f (by decide) (sx_endOfPath h1 h5 hq hon hb rfl rfl ?_)
        rw [sm_e_le (by omega) (by omega)]
        refine br_c (fun w => nm_e (nm_r (nI_1 e) (ih (e + 1) _ (by omega) ?_))) (fun w => nm_e (nm_r (nI_1 e) (ih (e + 1) _ (by omega) ?_)))
        · rw [if_pos w] at hp
          exact hp
        · rw [if_neg w] at hp
          exact hp
      · intro z
        have z2 : on (sm_op n e) = false := (hon _ hb).trans z
        rw [z2] at hp
        exact br_t rfl (nm_r (nI_1 e) (ih (e + 1) a (by omega) hp))
  exact key (4 * n) 0 0 (by omega) hp
end
