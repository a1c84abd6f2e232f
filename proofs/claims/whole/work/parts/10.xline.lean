/-! X: sums of lines, the test of a place -/
theorem sm_n1 {n : Nat} (h : 1 ≤ n) : nI n - 1 = nI (n - 1) := pk_sub (b := 1) h
section
variable {post : Int32 → Prop} {sz pls gc fc : Int32} {en st al hd dr : Nat → Int32}
theorem sx_sumD {f s m : Nat} {x y z : Int32} (g : Nat → Int32) (hx : x = nI f) (hy : y = nI s) (hz : z = nI m) (hm : m < 100) (hb : ∀ i, i < m → f + i * s < 25) (hg : ∀ i, i < m → dr (f + i * s) = g i) (hp : post (sm_sum g m)) :
    wpX_sumOfLine__draft post (sz, pls, gc, fc, en, st, al, hd, dr) x y z := by
  subst hx hy hz
  refine loop_0 (fun n i x => wX_sumOfLine__draft_6 post (nI f) (nI s) (nI m) sz pls gc fc en st al hd dr n x (nI i)) (fun i x => x = sm_sum g i) m 0 rfl ?_ ?_
  · rintro n x rfl
    exact br_t (nI_le (Nat.le_refl _) (by omega)) hp
  · rintro n i x hi rfl hk
    have e : nI f + nI i * nI s = nI (f + i * s) := by rw [pk_mul, nI_add]
    have hb2 := hb i hi
    refine br_f (nI_ge hi (by omega)) ⟨?_, nm_e (nm_r (nI_1 i) (hk _ ?_))⟩
    · rw [e]
      exact vp_in_nI hb2 (by decide)
    · rw [e, nI_clamp (by omega), hg i hi]
      rfl
theorem sx_sumH {f s m : Nat} {x y z : Int32} (g : Nat → Int32) (hx : x = nI f) (hy : y = nI s) (hz : z = nI m) (hm : m < 100) (hb : ∀ i, i < m → f + i * s < 25) (hg : ∀ i, i < m → hd (f + i * s) = g i) (hp : post (sm_sum g m)) :
    wpX_sumOfLine__hand post (sz, pls, gc, fc, en, st, al, hd, dr) x y z := by
  subst hx hy hz
  refine loop_0 (fun n i x => wX_sumOfLine__hand_6 post (nI f) (nI s) (nI m) sz pls gc fc en st al hd dr n x (nI i)) (fun i x => x = sm_sum g i) m 0 rfl ?_ ?_
  · rintro n x rfl
    exact br_t (nI_le (Nat.le_refl _) (by omega)) hp
  · rintro n i x hi rfl hk
    have e : nI f + nI i * nI s = nI (f + i * s) := by rw [pk_mul, nI_add]
    have hb2 := hb i hi
    refine br_f (nI_ge hi (by omega)) ⟨?_, nm_e (nm_r (nI_1 i) (hk _ ?_))⟩
    · rw [e]
      exact vp_in_nI hb2 (by decide)
    · rw [e, nI_clamp (by omega), hg i hi]
      rfl
theorem sx_sumE {f s m : Nat} {x y z : Int32} (g : Nat → Int32) (hx : x = nI f) (hy : y = nI s) (hz : z = nI m) (hm : m < 100) (hb : ∀ i, i < m → f + i * s < 10725) (hg : ∀ i, i < m → en (f + i * s) = g i) (hp : post (sm_sum g m)) :
    wpX_sumOfLine__entries post (sz, pls, gc, fc, en, st, al, hd, dr) x y z := by
  subst hx hy hz
  refine loop_0 (fun n i x => wX_sumOfLine__entries_6 post (nI f) (nI s) (nI m) sz pls gc fc en st al hd dr n x (nI i)) (fun i x => x = sm_sum g i) m 0 rfl ?_ ?_
  · rintro n x rfl
    exact br_t (nI_le (Nat.le_refl _) (by omega)) hp
  · rintro n i x hi rfl hk
    have e : nI f + nI i * nI s = nI (f + i * s) := by rw [pk_mul, nI_add]
    have hb2 := hb i hi
    refine br_f (nI_ge hi (by omega)) ⟨?_, nm_e (nm_r (nI_1 i) (hk _ ?_))⟩
    · rw [e]
      exact vp_in_nI hb2 (by decide)
    · rw [e, nI_clamp (by omega), hg i hi]
      rfl
theorem sx_alt76D {n r : Nat} (h1 : 1 ≤ n) (h5 : n ≤ 5) (hr : r < n) {C z : Int32} (ht : sm_okI n r C → ¬ z = 0 → post 1) (hf : ¬ (sm_okI n r C ∧ ¬ z = 0) → post 0) :
    wX_alternatesUpTo__draft_76 post (nI r) C z (nI n) pls gc fc en st al hd dr := by
  have T : sm_okI n r C → wX_alternatesUpTo__draft_104 post z 1 (nI n) pls gc fc en st al hd dr := fun h => br_c (fun a => hf (fun q => q.2 a)) (fun a => br_f (by decide) (ht h a))
  have N : ¬ sm_okI n r C → wX_alternatesUpTo__draft_104 post z 0 (nI n) pls gc fc en st al hd dr := fun h => br_c (fun a => hf (fun q => h q.1)) (fun a => br_t rfl (hf (fun q => h q.1)))
  refine br_c (fun a => T (Or.inl a)) (fun a => br_c (fun b => ?_) (fun b => N (fun q => q.elim a (fun w => b w.1))))
  rw [sm_n1 h1, nI_leI (by omega) (by omega)]
  exact br_c (fun d => N (fun q => q.elim a (fun w => absurd w.2 (by omega)))) (fun d => T (Or.inr ⟨b, by omega⟩))
theorem sx_altD {n r c : Nat} {x : Int32} (h1 : 1 ≤ n) (h5 : n ≤ 5) (hr : r < n) (hc : c < n) (hx : x = nI (r * n + c)) (ht : sm_T n (fun q => q) dr r c → post 1) (hf : ¬ sm_T n (fun q => q) dr r c → post 0) :
    wpX_alternatesUpTo__draft post (nI n, pls, gc, fc, en, st, al, hd, dr) x := by
  subst hx
  have hl := sm_rc_lt hr hc
  have hnn := sm_nn h5
  have n0 : ¬ nI n = 0 := nI_ne0 (by omega) (by omega)
  have e1 : nI (r * n + c) / nI n = nI r := by rw [pk_div (by omega) (by omega) (by omega), sm_rd hc]
  have e2 : nI (r * n + c) - nI (r * n + c) / nI n * nI n = nI c := by rw [pk_rem (by omega) (by omega) (by omega), sm_rmd hc]
  refine ⟨n0, nm_r e1 ⟨n0, nm_r e2 ?_⟩⟩
  refine sx_sumD (f := r * n) (s := 1) (m := c + 1) (fun j => dr (r * n + j)) (pk_mul r n) rfl (nI_1 c) (by omega) (fun i hi => by omega) (fun i hi => by rw [Nat.mul_one]) ?_
  refine sx_sumD (f := c) (s := n) (m := r + 1) (fun i => dr (c + i * n)) rfl rfl (nI_1 r) (by omega) ?_ (fun i hi => rfl) ?_
  · intro i hi
    have : i * n ≤ r * n := Nat.mul_le_mul_right n (by omega)
    omega
  · have A : sm_okI n c (sm_sum (fun j => dr (r * n + j)) (c + 1)) → wX_alternatesUpTo__draft_76 post (nI r) (sm_sum (fun i => dr (c + i * n)) (r + 1)) 1 (nI n) pls gc fc en st al hd dr :=
      fun h => sx_alt76D h1 h5 hr (fun a _ => ht ⟨h, a⟩) (fun a => hf (fun q => a ⟨q.2, by decide⟩))
    have B : ¬ sm_okI n c (sm_sum (fun j => dr (r * n + j)) (c + 1)) → wX_alternatesUpTo__draft_76 post (nI r) (sm_sum (fun i => dr (c + i * n)) (r + 1)) 0 (nI n) pls gc fc en st al hd dr :=
      fun h => sx_alt76D h1 h5 hr (fun _ b => absurd rfl b) (fun a => hf (fun q => h q.1))
    refine br_c (fun a => A (Or.inl a)) (fun a => br_c (fun b => ?_) (fun b => B (fun q => q.elim a (fun w => b w.1))))
    rw [sm_n1 h1, nI_leI (by omega) (by omega)]
    exact br_c (fun d => B (fun q => q.elim a (fun w => absurd w.2 (by omega)))) (fun d => A (Or.inr ⟨b, by omega⟩))
theorem sx_alt76H {n r : Nat} (h1 : 1 ≤ n) (h5 : n ≤ 5) (hr : r < n) {C z : Int32} (ht : sm_okI n r C → ¬ z = 0 → post 1) (hf : ¬ (sm_okI n r C ∧ ¬ z = 0) → post 0) :
    wX_alternatesUpTo__hand_76 post (nI r) C z (nI n) pls gc fc en st al hd dr := by
  have T : sm_okI n r C → wX_alternatesUpTo__hand_104 post z 1 (nI n) pls gc fc en st al hd dr := fun h => br_c (fun a => hf (fun q => q.2 a)) (fun a => br_f (by decide) (ht h a))
  have N : ¬ sm_okI n r C → wX_alternatesUpTo__hand_104 post z 0 (nI n) pls gc fc en st al hd dr := fun h => br_c (fun a => hf (fun q => h q.1)) (fun a => br_t rfl (hf (fun q => h q.1)))
  refine br_c (fun a => T (Or.inl a)) (fun a => br_c (fun b => ?_) (fun b => N (fun q => q.elim a (fun w => b w.1))))
  rw [sm_n1 h1, nI_leI (by omega) (by omega)]
  exact br_c (fun d => N (fun q => q.elim a (fun w => absurd w.2 (by omega)))) (fun d => T (Or.inr ⟨b, by omega⟩))
theorem sx_altH {n r c : Nat} {x : Int32} (h1 : 1 ≤ n) (h5 : n ≤ 5) (hr : r < n) (hc : c < n) (hx : x = nI (r * n + c)) (ht : sm_T n (fun q => q) hd r c → post 1) (hf : ¬ sm_T n (fun q => q) hd r c → post 0) :
    wpX_alternatesUpTo__hand post (nI n, pls, gc, fc, en, st, al, hd, dr) x := by
  subst hx
  have hl := sm_rc_lt hr hc
  have hnn := sm_nn h5
  have n0 : ¬ nI n = 0 := nI_ne0 (by omega) (by omega)
  have e1 : nI (r * n + c) / nI n = nI r := by rw [pk_div (by omega) (by omega) (by omega), sm_rd hc]
  have e2 : nI (r * n + c) - nI (r * n + c) / nI n * nI n = nI c := by rw [pk_rem (by omega) (by omega) (by omega), sm_rmd hc]
  refine ⟨n0, nm_r e1 ⟨n0, nm_r e2 ?_⟩⟩
  refine sx_sumH (f := r * n) (s := 1) (m := c + 1) (fun j => hd (r * n + j)) (pk_mul r n) rfl (nI_1 c) (by omega) (fun i hi => by omega) (fun i hi => by rw [Nat.mul_one]) ?_
  refine sx_sumH (f := c) (s := n) (m := r + 1) (fun i => hd (c + i * n)) rfl rfl (nI_1 r) (by omega) ?_ (fun i hi => rfl) ?_
  · intro i hi
    have : i * n ≤ r * n := Nat.mul_le_mul_right n (by omega)
    omega
  · have A : sm_okI n c (sm_sum (fun j => hd (r * n + j)) (c + 1)) → wX_alternatesUpTo__hand_76 post (nI r) (sm_sum (fun i => hd (c + i * n)) (r + 1)) 1 (nI n) pls gc fc en st al hd dr :=
      fun h => sx_alt76H h1 h5 hr (fun a _ => ht ⟨h, a⟩) (fun a => hf (fun q => a ⟨q.2, by decide⟩))
    have B : ¬ sm_okI n c (sm_sum (fun j => hd (r * n + j)) (c + 1)) → wX_alternatesUpTo__hand_76 post (nI r) (sm_sum (fun i => hd (c + i * n)) (r + 1)) 0 (nI n) pls gc fc en st al hd dr :=
      fun h => sx_alt76H h1 h5 hr (fun _ b => absurd rfl b) (fun a => hf (fun q => h q.1))
    refine br_c (fun a => A (Or.inl a)) (fun a => br_c (fun b => ?_) (fun b => B (fun q => q.elim a (fun w => b w.1))))
    rw [sm_n1 h1, nI_leI (by omega) (by omega)]
    exact br_c (fun d => B (fun q => q.elim a (fun w => absurd w.2 (by omega)))) (fun d => A (Or.inr ⟨b, by omega⟩))
end
