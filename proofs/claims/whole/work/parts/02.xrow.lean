section MLF
/-! numbers as the walks print them -/
theorem ml_n2 (k : Nat) : nI k * 2 = nI (k * 2) := pk_mul k 2
theorem ml_2n (k : Nat) : 2 * nI k = nI (2 * k) := pk_mul 2 k
theorem ml_2n' (k : Nat) : 2 * nI k = nI (k * 2) := by rw [ml_2n, Nat.mul_comm]
theorem ml_sb (s n : Nat) : nI (s + n) - nI s = nI n := by
  rw [pk_sub (by omega)]; exact congrArg nI (by omega)
theorem ml_s1 {w : Nat} (h : 1 ≤ w) : nI w - 1 = nI (w - 1) := pk_sub (b := 1) h
theorem ml_d2 {w : Nat} (h : w < 2 ^ 31) : nI w / 2 = nI (w / 2) := pk_div (d := 2) h (by omega) (by omega)
theorem ml_r2 {w : Nat} (h : w < 2 ^ 31) : nI w - nI w / 2 * 2 = nI (w % 2) := pk_rem (d := 2) h (by omega) (by omega)
theorem ml_mi {c i : Nat} (h : i + 1 ≤ c) : nI c - 1 - nI i = nI (c - 1 - i) := by
  rw [ml_s1 (by omega), pk_sub (by omega)]
theorem ml_20 : ¬ (2 : Int32) = 0 := by decide
theorem ml_10 : ¬ (1 : Int32) = 0 := by decide
/-! X: pressing, the middle -/
theorem ml_xmix {post : Int32 → Prop} {x k : Int32} (h : post (ml_mx x k)) : wpX_mix post x k := by
  unfold wpX_mix
  intro a ea
  subst ea
  intro b eb
  subst eb
  exact h
theorem ml_xleaf {post : Int32 → Prop} {x : Int32} (h : post (ml_lf x)) : wpX_leaf post x := by
  unfold wpX_leaf
  exact ml_xmix (post := fun r => post r) h
theorem ml_xnode {post : Int32 → Prop} {a b : Int32} (h : post (ml_nd a b)) : wpX_node post a b := by
  unfold wpX_node
  refine ml_xmix ?_
  exact ml_xmix (post := fun r => post r) h
theorem ml_ymix {post : Int32 → Prop} {x k : Int32} (h : post (ml_mx x k)) : wpY_mix post x k := by
  unfold wpY_mix
  intro a ea
  subst ea
  intro b eb
  subst eb
  exact h
theorem ml_yleaf {post : Int32 → Prop} {x : Int32} (h : post (ml_lf x)) : wpY_leaf post x := by
  unfold wpY_leaf
  exact ml_ymix (post := fun r => post r) h
theorem ml_ynode {post : Int32 → Prop} {a b : Int32} (h : post (ml_nd a b)) : wpY_node post a b := by
  unfold wpY_node
  refine ml_ymix ?_
  exact ml_ymix (post := fun r => post r) h
theorem ml_k2 {k d : Nat} : k * 2 ^ (d + 1) = k * 2 * 2 ^ d := by
  rw [Nat.pow_succ, Nat.mul_comm (2 ^ d) 2, Nat.mul_assoc]
theorem ml_kp (k d : Nat) : k ≤ k * 2 ^ d := Nat.le_mul_of_pos_right _ (Nat.two_pow_pos d)
theorem ml_xmid_l {post : Int32 → Prop} {s n : Nat} (hn : n < 1000) : ∀ (d k r : Nat), r + d = 6 → k * 2 ^ d ≤ 64 → post (nI (s + ml_hl d k n)) → wX_middleOf_4 post (nI s) (nI (s + n)) (d + 1) (nI k) (nI r) := by
  intro d
  induction d with
  | zero =>
    intro k r hr hp h
    refine br_t (nI_le (a := 6) (b := r) (by omega) (by omega)) ?_
    rw [nI_add]
    exact h
  | succ d ih =>
    intro k r hr hp h
    rw [ml_k2] at hp
    have hk := ml_kp (k * 2) d
    rw [ml_hl_s] at h
    refine br_f (nI_ge (a := r) (b := 6) (by omega) (by omega)) ?_
    refine pk_le n (k * 2) (fun hc => ?_) (fun hc => ?_) (ml_sb s n) (ml_n2 k)
    · rw [if_neg (by omega)] at h
      rw [nI_add]
      exact h
    · rw [if_pos hc] at h
      exact nm_r (ml_n2 k) (nm_r (nI_1 r) (ih (k * 2) (r + 1) (by omega) hp h))
theorem ml_xmid {post : Int32 → Prop} {s n : Nat} (hn : n < 1000) (h : post (nI (s + ml_hf n))) : wpX_middleOf post (nI s) (nI (s + n)) :=
  ⟨7, ml_xmid_l hn 6 1 0 rfl (by decide) h⟩
theorem ml_yhalf_l {post : Int32 → Prop} {n : Nat} (hn : n < 1000) : ∀ (d k : Nat), k * 2 ^ d = 64 → post (nI (ml_hl d k n)) → wY_half_2 post (nI n) (d + 1) (nI k) := by
  intro d
  induction d with
  | zero =>
    intro k hp h
    have hk : k = 64 := by omega
    subst hk
    exact br_t (nI_le (a := 64) (b := 64) (by omega) (by omega)) h
  | succ d ih =>
    intro k hp h
    rw [ml_k2] at hp
    have hk := ml_kp (k * 2) d
    rw [ml_hl_s] at h
    refine br_f (nI_ge (a := k) (b := 64) (by omega) (by omega)) ?_
    refine pk_le n (k * 2) (fun hc => ?_) (fun hc => ?_) rfl (ml_2n' k)
    · rw [if_neg (by omega)] at h
      exact h
    · rw [if_pos hc] at h
      exact nm_r (ml_2n' k) (ih (k * 2) hp h)
theorem ml_yhalf {post : Int32 → Prop} {n : Nat} (hn : n < 1000) (h : post (nI (ml_hf n))) : wpY_half post (nI n) :=
  ⟨7, ml_yhalf_l hn 6 1 (by decide) h⟩
end MLF
section MLG
/-! X: the root of a row, level by level -/
variable {post : Int32 → SX → Prop} {E c : Int32} {e h : Nat → Int32}
theorem ml_x61 {J : Int32 → Int32 → (Nat → Int32) → (Nat → Int32) → (Nat → Int32) → Prop} {w r : Nat} {l : Nat → Int32} (hw : 2 ≤ w) (hw4 : w ≤ 40)
    (K : ∀ lev : Nat → Int32, (∀ j, j < w / 2 → lev j = ml_nd (l (2 * j)) (l (2 * j + 1))) → (w % 2 = 1 → lev (w / 2) = l (w - 1)) → J (nI (w - w / 2)) (nI (r + 1)) e h lev) :
    ∀ (d i : Nat) (lev : Nat → Int32), i + d = w / 2 → (∀ j, j < i → lev j = ml_nd (l (2 * j)) (l (2 * j + 1))) → (∀ j, i ≤ j → lev j = l j) →
    wX_rowRoot_61 post J (nI w) (nI r) (nI (w / 2)) E c (d + 1) (nI i) e h lev := by
  intro d
  induction d with
  | zero =>
    intro i lev hi hlo hhi
    have hi' : i = w / 2 := by omega
    subst hi'
    refine br_t (nI_le (by omega) (by omega)) ⟨ml_20, ?_⟩
    refine pk_eq (w % 2) 1 (fun hc => ?_) (fun hc => ?_) (ml_r2 (by omega)) rfl
    · refine ⟨pk_in (w - 1) 40 (by omega) (ml_s1 (by omega)), pk_in (w / 2) 40 (by omega), ?_⟩
      refine nm_r (e' := upd lev (w / 2) (lev (w - 1))) ?_ (nm_r (pk_sub (by omega)) (nm_r (nI_1 r) (K _ ?_ ?_)))
      · rw [ml_s1 (by omega), nI_clamp (by omega), nI_clamp (by omega)]
      · intro j hj
        rw [pk_un (by omega)]
        exact hlo j hj
      · intro _
        rw [pk_us]
        exact hhi _ (by omega)
    · exact nm_r (pk_sub (by omega)) (nm_r (nI_1 r) (K lev hlo (fun z => absurd z hc)))
  | succ d ih =>
    intro i lev hi hlo hhi
    refine br_f (nI_ge (by omega) (by omega)) ⟨pk_in (2 * i) 40 (by omega) (ml_2n i), pk_in (2 * i + 1) 40 (by omega) (by rw [ml_2n, nI_1]), ?_⟩
    refine ml_xnode ?_
    refine ⟨pk_in i 40 (by omega), ?_⟩
    refine nm_r (e' := upd lev i (ml_nd (lev (2 * i)) (lev (2 * i + 1)))) ?_ (nm_r (nI_1 i) (ih (i + 1) _ (by omega) ?_ ?_))
    · rw [ml_2n, nI_1, nI_clamp (by omega), nI_clamp (by omega), nI_clamp (by omega)]
    · intro j hj
      by_cases hji : j = i
      · subst hji
        rw [pk_us, hhi _ (by omega), hhi _ (by omega)]
      · rw [pk_un hji]
        exact hlo j (by omega)
    · intro j hj
      rw [pk_un (by omega)]
      exact hhi j (by omega)
theorem ml_x41 : ∀ (d r w : Nat) (lev : Nat → Int32), r + d = 6 → 1 ≤ w → w ≤ 40 → w ≤ 2 ^ d → (∀ lev' : Nat → Int32, post (ml_rn lev d 0 w) (E, c, e, h, lev')) →
    wX_rowRoot_41 post E c (d + 1) (nI w) (nI r) e h lev := by
  intro d
  induction d with
  | zero =>
    intro r w lev hr h1 h4 hp K
    exact br_t (nI_le (a := 6) (b := r) (by omega) (by omega)) (K lev)
  | succ d ih =>
    intro r w lev hr h1 h4 hp K
    refine br_f (nI_ge (a := r) (b := 6) (by omega) (by omega)) ?_
    refine pk_le w 1 (fun hc => ?_) (fun hc => ?_)
    · have := K lev
      rw [ml_rn_1 hc] at this
      exact this
    · refine ⟨ml_20, nm_r (ml_d2 (by omega)) ⟨w / 2 + 1, ?_⟩⟩
      refine ml_x61 (l := lev) hc h4 ?_ (w / 2) 0 lev (by omega) (fun j hj => absurd hj (by omega)) (fun j hj => rfl)
      intro lev' k1 k2
      have q := ml_rn_pair (l := lev) (l' := lev') d (by omega) 0 w h1 hp (fun i hi => by simp only [Nat.mul_zero, Nat.zero_add]; exact k1 i hi) (fun z => by simp only [Nat.mul_zero, Nat.zero_add]; exact k2 z)
      rw [Nat.mul_zero, show (w + 1) / 2 = w - w / 2 from by omega] at q
      rw [q] at K
      rw [Nat.pow_succ] at hp
      exact ih (r + 1) (w - w / 2) lev' (by omega) (by omega) (by omega) (by omega) K
theorem ml_x7 {s w : Nat} (hw : 1 ≤ w) (hs : s + w ≤ 40) (K : ∀ lev : Nat → Int32, post (ml_rn (fun i => ml_lf (e i)) 6 s w) (E, c, e, h, lev)) :
    ∀ (d i : Nat) (lev : Nat → Int32), i + d = w → (∀ j, j < i → lev j = ml_lf (e (s + j))) → wX_rowRoot_7 post (nI s) (nI w) E c (d + 1) (nI i) e h lev := by
  intro d
  induction d with
  | zero =>
    intro i lev hi hlo
    refine br_t (nI_le (by omega) (by omega)) ⟨7, ?_⟩
    refine ml_x41 6 0 w lev rfl hw (by omega) (by omega) ?_
    intro lev'
    rw [ml_rn_cg (l := lev) (l' := fun i => ml_lf (e i)) 6 0 s w hw (by omega) (fun i hi' => by rw [Nat.zero_add]; exact hlo i (by omega))]
    exact K lev'
  | succ d ih =>
    intro i lev hi hlo
    refine br_f (nI_ge (by omega) (by omega)) ⟨pk_in (s + i) 40 (by omega) (nI_add s i), ?_⟩
    refine ml_xleaf ?_
    refine ⟨pk_in i 40 (by omega), ?_⟩
    refine nm_r (e' := upd lev i (ml_lf (e (s + i)))) ?_ (nm_r (nI_1 i) (ih (i + 1) _ (by omega) ?_))
    · rw [nI_add, nI_clamp (by omega), nI_clamp (by omega)]
    · intro j hj
      by_cases hji : j = i
      · subst hji
        rw [pk_us]
      · rw [pk_un hji]
        exact hlo j (by omega)
theorem ml_xrow {lev : Nat → Int32} {s w : Nat} {x y : Int32} (hw : 1 ≤ w) (hs : s + w ≤ 40) (hx : x = nI s) (hy : y = nI (s + w))
    (K : ∀ lev' : Nat → Int32, post (ml_rn (fun i => ml_lf (e i)) 6 s w) (E, c, e, h, lev')) : wpX_rowRoot post (E, c, e, h, lev) x y := by
  subst hx hy
  exact nm_r (ml_sb s w) ⟨w + 1, ml_x7 hw hs K w 0 lev (by omega) (fun j hj => absurd hj (by omega))⟩
end MLG
