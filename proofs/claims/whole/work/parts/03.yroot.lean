section MLH
/-! Y: the root of a row, by its own stack -/
variable {post : Int32 → SY → Prop} {E c : Int32} {e h : Nat → Int32}
theorem ml_yopen {P : SY → Prop} {F C S V : Nat → Int32} {t : Nat} {x a b : Int32} (ht : t < 100) (hx : x = nI t) (k : P (E, c, e, h, upd F t a, upd C t b, upd S t 0, V)) : wpY_open P (E, c, e, h, F, C, S, V) x a b := by
  subst hx
  have hi : vp_in (nI t) 100 := vp_in_nI ht (by omega)
  have hc : (nI t).toNatClampNeg = t := nI_clamp (by omega)
  refine ⟨hi, nm_r (e' := upd F t a) (by rw [hc]) ⟨hi, nm_r (e' := upd C t b) (by rw [hc]) ⟨hi, nm_r (e' := upd S t 0) (by rw [hc]) k⟩⟩⟩
/-- a leaf on top: one turn -/
theorem ml_y15a {F C S V : Nat → Int32} {N t st f : Nat} {dn : Int32} (ht : t < 100) (hst : st < 300) (hf : f < 40) (hF : F t = nI f) (hC : C t = nI 1)
    (k : wY_rootOf_15 post N (nI t + (-1)) (ml_lf (e f)) (nI (st + 1)) E c e h F C S V) : wY_rootOf_15 post (N + 1) (nI t) dn (nI st) E c e h F C S V := by
  have hi : vp_in (nI t) 100 := vp_in_nI ht (by omega)
  have hc : (nI t).toNatClampNeg = t := nI_clamp (by omega)
  have hfc : (nI f).toNatClampNeg = f := nI_clamp (by omega)
  have e1 : C (nI t).toNatClampNeg = 1 := by rw [hc, hC]; rfl
  have e2 : F (nI t).toNatClampNeg = nI f := by rw [hc, hF]
  have e3 : ¬ (40 : Int32) ≤ F (nI t).toNatClampNeg := by rw [e2]; exact nI_ge (a := f) (b := 40) hf (by omega)
  have e4 : vp_in (F (nI t).toNatClampNeg) 40 := by rw [e2]; exact vp_in_nI hf (by omega)
  have e5 : e (F (nI t).toNatClampNeg).toNatClampNeg = e f := by rw [e2, hfc]
  refine br_f (nI_ge (a := st) (b := 300) hst (by omega)) (br_f (nI_pos (by omega)) ⟨hi, br_t e1 ⟨hi, br_f e3 ⟨hi, e4, ?_⟩⟩⟩)
  rw [e5]
  refine ml_yleaf ?_
  exact nm_e (nm_r (nI_1 st) k)
/-- a row on top, not yet begun -/
theorem ml_y15b {F C S V : Nat → Int32} {N t st f n : Nat} {dn : Int32} (ht : t < 99) (hst : st < 300) (hn : 2 ≤ n) (hn4 : n ≤ 64) (hF : F t = nI f) (hC : C t = nI n) (hS : S t = 0)
    (k : wY_rootOf_15 post N (nI (t + 1)) dn (nI (st + 1)) E c e h (upd F (t + 1) (nI f)) (upd C (t + 1) (nI (ml_hf n))) (upd (upd S t 1) (t + 1) 0) V) : wY_rootOf_15 post (N + 1) (nI t) dn (nI st) E c e h F C S V := by
  have hi : vp_in (nI t) 100 := vp_in_nI (by omega) (by omega)
  have hc : (nI t).toNatClampNeg = t := nI_clamp (by omega)
  have e1 : ¬ C (nI t).toNatClampNeg = 1 := by rw [hc, hC]; exact fun z => absurd ((nI_eq (a := n) (b := 1) (by omega) (by omega)).mp z) (by omega)
  have e2 : F (nI t).toNatClampNeg = nI f := by rw [hc, hF]
  have e3 : C (nI t).toNatClampNeg = nI n := by rw [hc, hC]
  have e4 : S (nI t).toNatClampNeg = 0 := by rw [hc, hS]
  refine br_f (nI_ge (a := st) (b := 300) hst (by omega)) (br_f (nI_pos (by omega)) ⟨hi, br_f e1 ⟨hi, br_t e4 ⟨hi, nm_r (e' := upd S t 1) (by rw [hc]) ⟨hi, ?_⟩⟩⟩⟩)
  rw [e3]
  refine ml_yhalf (by omega) ?_
  refine ⟨hi, ?_⟩
  rw [e2]
  refine ml_yopen (t := t + 1) (by omega) (nI_1 t) ?_
  exact nm_r (nI_1 t) (nm_r (nI_1 st) k)
/-- its first part is done -/
theorem ml_y15c {F C S V : Nat → Int32} {N t st f n : Nat} {dn : Int32} (ht : t < 99) (hst : st < 300) (hn : 2 ≤ n) (hn4 : n ≤ 64) (hF : F t = nI f) (hC : C t = nI n) (hS : S t = 1)
    (k : wY_rootOf_15 post N (nI (t + 1)) dn (nI (st + 1)) E c e h (upd F (t + 1) (nI (f + ml_hf n))) (upd C (t + 1) (nI (n - ml_hf n))) (upd (upd S t 2) (t + 1) 0) (upd V t dn)) : wY_rootOf_15 post (N + 1) (nI t) dn (nI st) E c e h F C S V := by
  have hi : vp_in (nI t) 100 := vp_in_nI (by omega) (by omega)
  have hc : (nI t).toNatClampNeg = t := nI_clamp (by omega)
  have e1 : ¬ C (nI t).toNatClampNeg = 1 := by rw [hc, hC]; exact fun z => absurd ((nI_eq (a := n) (b := 1) (by omega) (by omega)).mp z) (by omega)
  have e2 : F (nI t).toNatClampNeg = nI f := by rw [hc, hF]
  have e3 : C (nI t).toNatClampNeg = nI n := by rw [hc, hC]
  have e4 : S (nI t).toNatClampNeg = 1 := by rw [hc, hS]
  have e5 : ¬ S (nI t).toNatClampNeg = 0 := by rw [e4]; exact ml_10
  have ha := ml_hf_a n (by omega) hn
  refine br_f (nI_ge (a := st) (b := 300) hst (by omega)) (br_f (nI_pos (by omega)) ⟨hi, br_f e1 ⟨hi, br_f e5 ⟨hi, br_t e4 ⟨hi, nm_r (e' := upd V t dn) (by rw [hc]) ⟨hi, nm_r (e' := upd S t 2) (by rw [hc]) ⟨hi, ?_⟩⟩⟩⟩⟩⟩)
  rw [e3]
  refine ml_yhalf (by omega) ?_
  refine ⟨hi, hi, ?_⟩
  rw [e2, nI_add, pk_sub (by omega)]
  refine ml_yopen (t := t + 1) (by omega) (nI_1 t) ?_
  exact nm_r (nI_1 t) (nm_r (nI_1 st) k)
/-- both are done -/
theorem ml_y15d {F C S V : Nat → Int32} {N t st n : Nat} {dn x : Int32} (ht : t < 100) (hst : st < 300) (hn : 2 ≤ n) (hn4 : n ≤ 64) (hC : C t = nI n) (hS : S t = 2) (hV : V t = x)
    (k : wY_rootOf_15 post N (nI t + (-1)) (ml_nd x dn) (nI (st + 1)) E c e h F C S V) : wY_rootOf_15 post (N + 1) (nI t) dn (nI st) E c e h F C S V := by
  have hi : vp_in (nI t) 100 := vp_in_nI (by omega) (by omega)
  have hc : (nI t).toNatClampNeg = t := nI_clamp (by omega)
  have e1 : ¬ C (nI t).toNatClampNeg = 1 := by rw [hc, hC]; exact fun z => absurd ((nI_eq (a := n) (b := 1) (by omega) (by omega)).mp z) (by omega)
  have e5 : ¬ S (nI t).toNatClampNeg = 0 := by rw [hc, hS]; decide
  have e6 : ¬ S (nI t).toNatClampNeg = 1 := by rw [hc, hS]; decide
  have e7 : V (nI t).toNatClampNeg = x := by rw [hc, hV]
  refine br_f (nI_ge (a := st) (b := 300) hst (by omega)) (br_f (nI_pos (by omega)) ⟨hi, br_f e1 ⟨hi, br_f e5 ⟨hi, br_f e6 ⟨hi, ?_⟩⟩⟩⟩)
  rw [e7]
  refine ml_ynode ?_
  exact nm_e (nm_r (nI_1 st) k)
theorem ml_y15 : ∀ (d n f t st N : Nat) (dn : Int32) (F C S V : Nat → Int32), d ≤ 6 → 1 ≤ n → n ≤ 2 ^ d → f + n ≤ 40 → t + d < 99 → st + (4 * n - 3) ≤ 300 → F t = nI f → C t = nI n → S t = 0 →
    (∀ F' C' S' V' : Nat → Int32, (∀ j, j < t → F' j = F j) → (∀ j, j < t → C' j = C j) → (∀ j, j < t → S' j = S j) → (∀ j, j < t → V' j = V j) → wY_rootOf_15 post N (nI t + (-1)) (ml_rn (fun i => ml_lf (e i)) d f n) (nI (st + (4 * n - 3))) E c e h F' C' S' V') →
    wY_rootOf_15 post (N + (4 * n - 3)) (nI t) dn (nI st) E c e h F C S V := by
  intro d
  induction d with
  | zero =>
    intro n f t st N dn F C S V hd h1 hp hf ht hst hF hC hS K
    have hn : n = 1 := by omega
    subst hn
    exact ml_y15a (by omega) (by omega) (by omega) hF hC (K F C S V (fun _ _ => rfl) (fun _ _ => rfl) (fun _ _ => rfl) (fun _ _ => rfl))
  | succ d ih =>
    intro n f t st N dn F C S V hd h1 hp hf ht hst hF hC hS K
    by_cases hn1 : n = 1
    · subst hn1
      exact ml_y15a (by omega) (by omega) (by omega) hF hC (K F C S V (fun _ _ => rfl) (fun _ _ => rfl) (fun _ _ => rfl) (fun _ _ => rfl))
    · have ha := ml_hf_a n (by omega) (by omega)
      have hD := ml_hf_d d (by omega) n (by omega) (by omega) hp
      rw [show N + (4 * n - 3) = (N + 1 + (4 * (n - ml_hf n) - 3) + 1 + (4 * ml_hf n - 3)) + 1 from by omega]
      refine ml_y15b (by omega) (by omega) (by omega) (by omega) hF hC hS ?_
      refine ih (ml_hf n) f (t + 1) (st + 1) _ dn _ _ _ _ (by omega) ha.1 hD.1 (by omega) (by omega) (by omega) pk_us pk_us pk_us ?_
      intro F2 C2 S2 V2 hF2 hC2 hS2 hV2
      rw [pk_m1]
      refine ml_y15c (f := f) (n := n) (by omega) (by omega) (by omega) (by omega) ?_ ?_ ?_ ?_
      · rw [hF2 t (by omega), pk_un (by omega), hF]
      · rw [hC2 t (by omega), pk_un (by omega), hC]
      · rw [hS2 t (by omega), pk_un (by omega), pk_us]
      refine ih (n - ml_hf n) (f + ml_hf n) (t + 1) _ _ _ _ _ _ _ (by omega) (by omega) hD.2 (by omega) (by omega) (by omega) pk_us pk_us pk_us ?_
      intro F4 C4 S4 V4 hF4 hC4 hS4 hV4
      rw [pk_m1]
      refine ml_y15d (n := n) (by omega) (by omega) (by omega) (by omega) (x := ml_rn (fun i => ml_lf (e i)) d f (ml_hf n)) ?_ ?_ ?_ ?_
      · rw [hC4 t (by omega), pk_un (by omega), hC2 t (by omega), pk_un (by omega), hC]
      · rw [hS4 t (by omega), pk_un (by omega), pk_us]
      · rw [hV4 t (by omega), pk_us]
      have q := K F4 C4 S4 V4 (fun j hj => by rw [hF4 j (by omega), pk_un (by omega), hF2 j (by omega), pk_un (by omega)]) (fun j hj => by rw [hC4 j (by omega), pk_un (by omega), hC2 j (by omega), pk_un (by omega)]) (fun j hj => by rw [hS4 j (by omega), pk_un (by omega), pk_un (by omega), hS2 j (by omega), pk_un (by omega), pk_un (by omega)]) (fun j hj => by rw [hV4 j (by omega), pk_un (by omega), hV2 j (by omega)])
      rw [ml_rn_s (by omega)] at q
      rw [show st + 1 + (4 * ml_hf n - 3) + 1 + (4 * (n - ml_hf n) - 3) + 1 = st + (4 * n - 3) from by omega]
      exact q
theorem ml_yroot {F C S V : Nat → Int32} {f n : Nat} {x y : Int32} (h1 : 1 ≤ n) (hf : f + n ≤ 40) (hx : x = nI f) (hy : y = nI n)
    (K : ∀ F' C' S' V' : Nat → Int32, post (ml_rn (fun i => ml_lf (e i)) 6 f n) (E, c, e, h, F', C', S', V')) : wpY_rootOf post (E, c, e, h, F, C, S, V) x y := by
  subst hx hy
  unfold wpY_rootOf
  refine ml_yopen (t := 0) (by omega) rfl ?_
  refine ⟨1 + (4 * n - 3), ?_⟩
  refine ml_y15 6 n f 0 0 1 0 _ _ _ _ (by omega) h1 (by omega) hf (by omega) (by omega) pk_us pk_us pk_us ?_
  intro F' C' S' V' _ _ _ _
  exact br_f (nI_ge (a := 0 + (4 * n - 3)) (b := 300) (by omega) (by omega)) (br_t (by decide) (K F' C' S' V'))
end MLH
