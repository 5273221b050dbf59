section MLL
/-! the way up, the depth, the turns -/
theorem ml_wy_1 {d n m w : Nat} (h : n ≤ 1) : ml_wy (d + 1) n m w = w := if_pos h
theorem ml_wy_a {d n m w : Nat} (h : 2 ≤ n) (h2 : m < ml_hf n) : ml_wy (d + 1) n m w = ml_wy d (ml_hf n) m (w * 2) := (if_neg (by omega)).trans (if_pos h2)
theorem ml_wy_b {d n m w : Nat} (h : 2 ≤ n) (h2 : ml_hf n ≤ m) : ml_wy (d + 1) n m w = ml_wy d (n - ml_hf n) (m - ml_hf n) (w * 2 + 1) := (if_neg (by omega)).trans (if_neg (by omega))
theorem ml_dp_1 {d n m w : Nat} (h : n ≤ 1) : ml_dp (d + 1) n m w = w := if_pos h
theorem ml_dp_a {d n m w : Nat} (h : 2 ≤ n) (h2 : m < ml_hf n) : ml_dp (d + 1) n m w = ml_dp d (ml_hf n) m (w + 1) := (if_neg (by omega)).trans (if_pos h2)
theorem ml_dp_b {d n m w : Nat} (h : 2 ≤ n) (h2 : ml_hf n ≤ m) : ml_dp (d + 1) n m w = ml_dp d (n - ml_hf n) (m - ml_hf n) (w + 1) := (if_neg (by omega)).trans (if_neg (by omega))
theorem ml_fs_1 {d n m : Nat} (h : n ≤ 1) : ml_fs (d + 1) n m = false := if_pos h
theorem ml_fs_a {d n m : Nat} (h : 2 ≤ n) (h2 : m < ml_hf n) : ml_fs (d + 1) n m = ml_fs d (ml_hf n) m := (if_neg (by omega)).trans (if_pos h2)
theorem ml_fs_b {d n m : Nat} (h : 2 ≤ n) (h2 : ml_hf n ≤ m) : ml_fs (d + 1) n m = ml_fs d (n - ml_hf n) (m - ml_hf n) := (if_neg (by omega)).trans (if_neg (by omega))
theorem ml_fs_0 {n m : Nat} : ml_fs 0 n m = (decide (1 < n) && decide (m < ml_hf n)) := rfl
theorem ml_xway_l {post : Int32 → Prop} {m0 : Nat} (hm0 : m0 < 40) : ∀ (d r s n m w : Nat) (y : Int32), r + d = 6 → 1 ≤ n → s + n ≤ 40 → m < n → m0 = s + m → y = nI (s + n) → post (nI (ml_wy d n m w)) → wX_wayUp_10 post (nI m0) (d + 1) (nI w) (nI s) y (nI r) := by
  intro d
  induction d with
  | zero =>
    intro r s n m w y hr h1 hs hm em hy K
    exact br_t (nI_le (a := 6) (b := r) (by omega) (by omega)) K
  | succ d ih =>
    intro r s n m w y hr h1 hs hm em hy K
    subst hy
    refine br_f (nI_ge (a := r) (b := 6) (by omega) (by omega)) ?_
    refine pk_le n 1 (fun hn => ?_) (fun hn => ?_) (ml_sb s n) rfl
    · rw [ml_wy_1 hn] at K
      exact K
    · have ha := ml_hf_a n (by omega) (by omega)
      refine ml_xmid (by omega) ?_
      refine pk_le (s + ml_hf n) m0 (fun hk => ?_) (fun hk => ?_)
      · rw [ml_wy_b (by omega) (by omega)] at K
        exact nm_r (e' := nI (w * 2 + 1)) (by rw [ml_n2, nI_1]) (nm_r (nI_1 r) (ih (r + 1) (s + ml_hf n) (n - ml_hf n) (m - ml_hf n) _ _ (by omega) (by omega) (by omega) (by omega) (by omega) (congrArg nI (by omega)) K))
      · rw [ml_wy_a (by omega) (by omega)] at K
        exact nm_r (ml_n2 w) (nm_r (nI_1 r) (ih (r + 1) s (ml_hf n) m _ _ (by omega) (by omega) (by omega) (by omega) (by omega) rfl K))
theorem ml_xway {post : Int32 → Prop} {n m : Nat} (h1 : n ≤ 40) (hm : m < n) (K : post (nI (ml_wy 6 n m 1))) : wpX_wayUp post (nI m) (nI n) :=
  ⟨7, ml_xway_l (by omega) 6 0 0 n m 1 (nI n) rfl (by omega) (by omega) hm (by omega) (congrArg nI (by omega)) K⟩
theorem ml_ydep_l {post : Int32 → Prop} : ∀ (d r n m w : Nat) (y z : Int32), r + d = 6 → 1 ≤ n → n ≤ 40 → m < n → y = nI n → z = nI m → post (nI (ml_dp d n m w)) → wY_depth_10 post (d + 1) (nI w) y z (nI r) := by
  intro d
  induction d with
  | zero =>
    intro r n m w y z hr h1 hs hm hy hz K
    exact br_t (nI_le (a := 6) (b := r) (by omega) (by omega)) K
  | succ d ih =>
    intro r n m w y z hr h1 hs hm hy hz K
    subst hy hz
    refine br_f (nI_ge (a := r) (b := 6) (by omega) (by omega)) ?_
    refine pk_le n 1 (fun hn => ?_) (fun hn => ?_)
    · rw [ml_dp_1 hn] at K
      exact K
    · have ha := ml_hf_a n (by omega) (by omega)
      refine ml_yhalf (by omega) ?_
      refine nm_r (nI_1 w) ?_
      refine pk_le (ml_hf n) m (fun hk => ?_) (fun hk => ?_)
      · have hq : nI (ml_hf n) ≤ nI m := nI_le hk (by omega)
        rw [ml_dp_b (by omega) hk] at K
        refine br_t hq (nm_e (nm_r (nI_1 r) ?_))
        exact ih (r + 1) (n - ml_hf n) (m - ml_hf n) (w + 1) _ _ (by omega) (by omega) (by omega) (by omega) (pk_sub (by omega)) (pk_sub (by omega)) K
      · have hq : ¬ nI (ml_hf n) ≤ nI m := nI_ge hk (by omega)
        rw [ml_dp_a (by omega) hk] at K
        refine br_f hq (nm_r (nI_1 r) ?_)
        exact ih (r + 1) (ml_hf n) m (w + 1) _ _ (by omega) (by omega) (by omega) (by omega) rfl rfl K
theorem ml_ydep {post : Int32 → Prop} {n m : Nat} (h1 : n ≤ 40) (hm : m < n) (K : post (nI (ml_dp 6 n m 0))) : wpY_depth post (nI m) (nI n) :=
  ⟨7, ml_ydep_l 6 0 n m 0 (nI n) (nI m) rfl (by omega) h1 hm rfl rfl K⟩
theorem ml_y67 {post : Int32 → Prop} {n m : Nat} (h1 : 1 ≤ n) (h4 : n ≤ 40) (hm : m < n) (K : post (if ml_fs 0 n m = true then 1 else 0)) : wY_first_67 post (nI n) (nI m) := by
  rw [ml_fs_0] at K
  refine pk_le n 1 (fun hn => ?_) (fun hn => ?_)
  · rw [decide_eq_false (by omega : ¬ 1 < n)] at K
    exact K
  · rw [decide_eq_true (by omega : 1 < n)] at K
    have ha := ml_hf_a n (by omega) (by omega)
    refine ml_yhalf (by omega) ?_
    refine pk_le (ml_hf n) m (fun hk => ?_) (fun hk => ?_)
    · rw [decide_eq_false (by omega : ¬ m < ml_hf n)] at K
      exact K
    · rw [decide_eq_true hk] at K
      exact K
theorem ml_yfst_l {post : Int32 → Prop} {D : Nat} (hD : D < 100) : ∀ (d i n m : Nat) (y z : Int32), i + d = D → 1 ≤ n → n ≤ 40 → m < n → y = nI n → z = nI m → post (if ml_fs d n m = true then 1 else 0) → wY_first_8 post (nI D) (d + 1) y z (nI i) := by
  intro d
  induction d with
  | zero =>
    intro i n m y z hi h1 hs hm hy hz K
    subst hy hz
    exact br_t (nI_le (by omega) (by omega)) (ml_y67 h1 hs hm K)
  | succ d ih =>
    intro i n m y z hi h1 hs hm hy hz K
    subst hy hz
    refine br_f (nI_ge (by omega) (by omega)) ?_
    refine pk_le n 1 (fun hn => ?_) (fun hn => ?_)
    · rw [ml_fs_1 hn] at K
      refine ml_y67 h1 hs hm ?_
      rw [ml_fs_0, decide_eq_false (by omega : ¬ 1 < n)]
      exact K
    · have ha := ml_hf_a n (by omega) (by omega)
      refine ml_yhalf (by omega) ?_
      refine pk_le (ml_hf n) m (fun hk => ?_) (fun hk => ?_)
      · have hq : nI (ml_hf n) ≤ nI m := nI_le hk (by omega)
        rw [ml_fs_b (by omega) hk] at K
        refine br_t hq (nm_e (nm_r (nI_1 i) ?_))
        exact ih (i + 1) (n - ml_hf n) (m - ml_hf n) _ _ (by omega) (by omega) (by omega) (by omega) (pk_sub (by omega)) (pk_sub (by omega)) K
      · have hq : ¬ nI (ml_hf n) ≤ nI m := nI_ge hk (by omega)
        rw [ml_fs_a (by omega) hk] at K
        refine br_f hq (nm_r (nI_1 i) ?_)
        exact ih (i + 1) (ml_hf n) m _ _ (by omega) (by omega) (by omega) (by omega) rfl rfl K
theorem ml_yfst {post : Int32 → Prop} {n m D : Nat} {x : Int32} (hD : D < 100) (h1 : n ≤ 40) (hm : m < n) (hx : x = nI D) (K : post (if ml_fs D n m = true then 1 else 0)) : wpY_first post (nI m) (nI n) x := by
  subst hx
  exact ⟨D + 1, ml_yfst_l hD D 0 n m (nI n) (nI m) (by omega) (by omega) h1 hm rfl rfl K⟩
theorem ml_bit {w i : Nat} (hw : w < 65536) (hi : i < 32) : ((nI w).toUInt32 >>> ((nI i).toUInt32 &&& Int32.toUInt32 31)).toInt32 &&& 1 = nI (w / 2 ^ i % 2) := by
  rw [nx_ush hw hi]
  show nI (w >>> i) &&& nI 1 = _
  rw [nx_and, Nat.and_one_is_mod, Nat.shiftRight_eq_div_pow]
theorem ml_ush {w i : Nat} (hw : w < 65536) (hi : i < 32) : ((nI w).toUInt32 >>> ((nI i).toUInt32 &&& Int32.toUInt32 31)).toInt32 = nI (w / 2 ^ i) := by
  rw [nx_ush hw hi, Nat.shiftRight_eq_div_pow]
theorem ml_rf_s {h : Nat → Int32} {b : Nat → Bool} {d i : Nat} {r : Int32} : ml_rf h b (d + 1) i r = ml_rf h b d (i + 1) (if b i = true then ml_nd r (h i) else ml_nd (h i) r) := rfl
theorem ml_xfrom {post : Int32 → Prop} {E : Int32} {e h lev : Nat → Int32} {b : Nat → Bool} {w c : Nat} (hw : w < 65536) (hc : c ≤ 16) (hb : ∀ i, i < c → (w / 2 ^ i % 2 = 1 ↔ b i = false)) :
    ∀ (d i : Nat) (r : Int32), i + d = c → post (ml_rf h b d i r) → wX_rootFrom_51 post (nI w) E (nI c) e h lev (d + 1) r (nI i) := by
  intro d
  induction d with
  | zero =>
    intro i r hi K
    exact br_t (nI_le (by omega) (by omega)) K
  | succ d ih =>
    intro i r hi K
    rw [ml_rf_s] at K
    have c1 : (nI i).toNatClampNeg = i := nI_clamp (by omega)
    refine br_f (nI_ge (by omega) (by omega)) ⟨pk_in i 16 (by omega), nm_r (e' := h i) (by rw [c1]) ?_⟩
    refine pk_eq (w / 2 ^ i % 2) 1 (fun hk => ?_) (fun hk => ?_) (ml_bit hw (by omega)) rfl
    · have hbi := (hb i (by omega)).mp hk
      rw [if_neg (by rw [hbi]; decide)] at K
      refine br_f ml_10 ?_
      refine ml_xnode ?_
      exact nm_r (nI_1 i) (ih (i + 1) _ (by omega) K)
    · have hbi : b i = true := by
        cases hq : b i with
        | true => rfl
        | false => exact absurd ((hb i (by omega)).mpr hq) hk
      rw [if_pos hbi] at K
      refine br_t rfl ?_
      refine ml_xnode ?_
      exact nm_r (nI_1 i) (ih (i + 1) _ (by omega) K)
theorem ml_yfrom {post : Int32 → Prop} {E : Int32} {e h F C S V : Nat → Int32} {n m c : Nat} (h1 : n ≤ 40) (hm : m < n) (hc : c ≤ 16) :
    ∀ (d i : Nat) (r : Int32), i + d = c → post (ml_rf h (fun i => ml_fs (c - 1 - i) n m) d i r) → wY_rootFrom_43 post (nI m) (nI n) E (nI c) e h F C S V (d + 1) r (nI i) := by
  intro d
  induction d with
  | zero =>
    intro i r hi K
    exact br_t (nI_le (by omega) (by omega)) K
  | succ d ih =>
    intro i r hi K
    rw [ml_rf_s] at K
    have c1 : (nI i).toNatClampNeg = i := nI_clamp (by omega)
    have i1 : vp_in (nI i) 16 := vp_in_nI (by omega) (by omega)
    refine br_f (nI_ge (by omega) (by omega)) ?_
    refine ml_yfst (D := c - 1 - i) (by omega) h1 hm (ml_mi (by omega)) ?_
    by_cases hb : ml_fs (c - 1 - i) n m = true
    · rw [if_pos hb]
      rw [if_pos hb] at K
      refine br_f ml_10 ⟨i1, ?_⟩
      rw [c1]
      refine ml_ynode ?_
      exact nm_r (nI_1 i) (ih (i + 1) _ (by omega) K)
    · rw [if_neg hb]
      rw [if_neg hb] at K
      refine br_t rfl ⟨i1, ?_⟩
      rw [c1]
      refine ml_ynode ?_
      exact nm_r (nI_1 i) (ih (i + 1) _ (by omega) K)
end MLL
