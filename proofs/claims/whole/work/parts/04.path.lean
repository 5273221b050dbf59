section MLI
/-! the hand: put at its end, turned round -/
variable {E : Int32} {e : Nat → Int32}
theorem ml_xtake {post : Int32 → SX → Prop} {h lev : Nat → Int32} {c : Nat} {x : Int32} (hc : c < 16) (K : post (nI (c + 1)) (E, nI (c + 1), e, upd h c x, lev)) : wpX_take post (E, nI c, e, h, lev) x := by
  refine br_t (nI_lt (a := c) (b := 16) hc (by omega)) ⟨pk_in c 16 hc, ?_⟩
  exact nm_r (e' := upd h c x) (by rw [nI_clamp (by omega)]) (nm_r (nI_1 c) K)
theorem ml_xhold {post : SX → Prop} {h lev : Nat → Int32} {c s w : Nat} {x y : Int32} (hc : c < 16) (hw : 1 ≤ w) (hs : s + w ≤ 40) (hx : x = nI s) (hy : y = nI (s + w))
    (K : ∀ lev' : Nat → Int32, post (E, nI (c + 1), e, upd h c (ml_rn (fun i => ml_lf (e i)) 6 s w), lev')) : wpX_holdRoot post (E, nI c, e, h, lev) x y := by
  unfold wpX_holdRoot
  refine ml_xrow hw hs hx hy (fun lev' => ?_)
  refine ml_xtake hc ?_
  exact K lev'
theorem ml_xturn_l {post : SX → Prop} {lev : Nat → Int32} {c : Nat} (hc : c ≤ 16) : ∀ (d i : Nat) (h : Nat → Int32), i + d = c / 2 → post (E, nI c, e, ml_tr c d i h, lev) → wX_turnHand_2 post E (nI c) (d + 1) (nI i) e h lev := by
  intro d
  induction d with
  | zero =>
    intro i h hi K
    refine ⟨ml_20, pk_le (c / 2) i (fun _ => K) (fun z => absurd z (by omega)) (ml_d2 (by omega)) rfl⟩
  | succ d ih =>
    intro i h hi K
    have hm : nI c - 1 - nI i = nI (c - 1 - i) := ml_mi (by omega)
    have c1 : (nI i).toNatClampNeg = i := nI_clamp (by omega)
    have c2 : (nI (c - 1 - i)).toNatClampNeg = c - 1 - i := nI_clamp (by omega)
    have i1 : vp_in (nI i) 16 := vp_in_nI (by omega) (by omega)
    have i2 : vp_in (nI (c - 1 - i)) 16 := vp_in_nI (by omega) (by omega)
    refine ⟨ml_20, pk_le (c / 2) i (fun z => absurd z (by omega)) (fun _ => ?_) (ml_d2 (by omega)) rfl⟩
    refine nm_r hm ⟨i1, nm_r (e' := h i) (by rw [c1]) ⟨i2, i1, nm_r (e' := upd h i (h (c - 1 - i))) (by rw [c1, c2]) ⟨i2, nm_r (e' := upd (upd h i (h (c - 1 - i))) (c - 1 - i) (h i)) (by rw [c2]) (nm_r (nI_1 i) ?_)⟩⟩⟩
    exact ih (i + 1) _ (by omega) K
theorem ml_xturn {post : SX → Prop} {h lev : Nat → Int32} {c : Nat} (hc : c ≤ 16) (K : post (E, nI c, e, ml_tr c (c / 2) 0 h, lev)) : wpX_turnHand post (E, nI c, e, h, lev) :=
  ⟨c / 2 + 1, ml_xturn_l hc (c / 2) 0 h (by omega) K⟩
theorem ml_yhold {post : SY → Prop} {h F C S V : Nat → Int32} {c : Nat} {x : Int32} (hc : c < 16) (K : post (E, nI (c + 1), e, upd h c x, F, C, S, V)) : wpY_hold post (E, nI c, e, h, F, C, S, V) x := by
  refine br_f (nI_ge (a := c) (b := 16) hc (by omega)) ⟨pk_in c 16 hc, ?_⟩
  exact nm_r (e' := upd h c x) (by rw [nI_clamp (by omega)]) (nm_r (nI_1 c) K)
theorem ml_yturn_l {post : SY → Prop} {F C S V : Nat → Int32} {c : Nat} (hc : c ≤ 16) : ∀ (d i : Nat) (h : Nat → Int32), i + d = c / 2 → post (E, nI c, e, ml_tr c d i h, F, C, S, V) → wY_turnHand_2 post E (nI c) (d + 1) (nI i) e h F C S V := by
  intro d
  induction d with
  | zero =>
    intro i h hi K
    by_cases h0 : c = 0
    · subst h0
      have hi0 : i = 0 := by omega
      subst hi0
      exact br_t (by decide) K
    · exact pk_le (c - 1 - i) i (fun _ => K) (fun z => absurd z (by omega)) (ml_mi (by omega)) rfl
  | succ d ih =>
    intro i h hi K
    have hm : nI c - 1 - nI i = nI (c - 1 - i) := ml_mi (by omega)
    have c1 : (nI i).toNatClampNeg = i := nI_clamp (by omega)
    have c2 : (nI c - 1 - nI i).toNatClampNeg = c - 1 - i := by rw [hm]; exact nI_clamp (by omega)
    have i1 : vp_in (nI i) 16 := vp_in_nI (by omega) (by omega)
    have i2 : vp_in (nI c - 1 - nI i) 16 := by rw [hm]; exact vp_in_nI (by omega) (by omega)
    refine pk_le (c - 1 - i) i (fun z => absurd z (by omega)) (fun _ => ?_) hm rfl
    refine ⟨i1, nm_r (e' := h i) (by rw [c1]) ⟨i2, i1, nm_r (e' := upd h i (h (c - 1 - i))) (by rw [c1, c2]) ⟨i2, nm_r (e' := upd (upd h i (h (c - 1 - i))) (c - 1 - i) (h i)) (by rw [c2]) (nm_r (nI_1 i) ?_)⟩⟩⟩
    exact ih (i + 1) _ (by omega) K
theorem ml_yturn {post : SY → Prop} {h F C S V : Nat → Int32} {c : Nat} (hc : c ≤ 16) (K : post (E, nI c, e, ml_tr c (c / 2) 0 h, F, C, S, V)) : wpY_turnHand post (E, nI c, e, h, F, C, S, V) :=
  ⟨c / 2 + 1, ml_yturn_l hc (c / 2) 0 h (by omega) K⟩
end MLI
section MLJ
/-! paths -/
variable {E : Int32} {e : Nat → Int32}
theorem ml_ph_1 {l h : Nat → Int32} {d f n m c : Nat} (h1 : n ≤ 1) : ml_ph l (d + 1) f n m h c = (h, c) := if_pos h1
theorem ml_ph_a {l h : Nat → Int32} {d f n m c : Nat} (h1 : 2 ≤ n) (h2 : m < ml_hf n) : ml_ph l (d + 1) f n m h c = ml_ph l d f (ml_hf n) m (upd h c (ml_rn l 6 (f + ml_hf n) (n - ml_hf n))) (c + 1) :=
  (if_neg (by omega)).trans (if_pos h2)
theorem ml_ph_b {l h : Nat → Int32} {d f n m c : Nat} (h1 : 2 ≤ n) (h2 : ml_hf n ≤ m) : ml_ph l (d + 1) f n m h c = ml_ph l d (f + ml_hf n) (n - ml_hf n) (m - ml_hf n) (upd h c (ml_rn l 6 f (ml_hf n))) (c + 1) :=
  (if_neg (by omega)).trans (if_neg (by omega))
theorem ml_ph_c {l : Nat → Int32} : ∀ (d f n m : Nat) (h : Nat → Int32) (c : Nat), (ml_ph l d f n m h c).2 ≤ c + d := by
  intro d
  induction d with
  | zero => intro f n m h c; exact Nat.le_refl c
  | succ d ih =>
    intro f n m h c
    by_cases h1 : n ≤ 1
    · rw [ml_ph_1 h1]; exact Nat.le_add_right _ _
    · by_cases h2 : m < ml_hf n
      · rw [ml_ph_a (by omega) h2]
        have := ih f (ml_hf n) m (upd h c (ml_rn l 6 (f + ml_hf n) (n - ml_hf n))) (c + 1)
        omega
      · rw [ml_ph_b (by omega) (by omega)]
        have := ih (f + ml_hf n) (n - ml_hf n) (m - ml_hf n) (upd h c (ml_rn l 6 f (ml_hf n))) (c + 1)
        omega
theorem ml_xpath {post : Int32 → SX → Prop} {m0 : Nat} (hm0 : m0 < 40) : ∀ (d r s n m : Nat) (h : Nat → Int32) (c : Nat) (lev : Nat → Int32) (y : Int32), r + d = 6 → 1 ≤ n → s + n ≤ 40 → m < n → m0 = s + m → c + d ≤ 16 → y = nI (s + n) →
    (∀ lev' : Nat → Int32, wX_path_97 post E (nI (ml_ph (fun i => ml_lf (e i)) d s n m h c).2) e (ml_ph (fun i => ml_lf (e i)) d s n m h c).1 lev') →
    wX_path_37 post (nI m0) (d + 1) (nI s) y (nI r) E (nI c) e h lev := by
  intro d
  induction d with
  | zero =>
    intro r s n m h c lev y hr h1 hs hm em hc hy K
    exact br_t (nI_le (a := 6) (b := r) (by omega) (by omega)) (K lev)
  | succ d ih =>
    intro r s n m h c lev y hr h1 hs hm em hc hy K
    subst hy
    refine br_f (nI_ge (a := r) (b := 6) (by omega) (by omega)) ?_
    refine pk_le n 1 (fun hn => ?_) (fun hn => ?_) (ml_sb s n) rfl
    · have q := K lev
      rw [ml_ph_1 hn] at q
      exact q
    · have ha := ml_hf_a n (by omega) (by omega)
      refine ml_xmid (by omega) ?_
      refine pk_le (s + ml_hf n) m0 (fun hk => ?_) (fun hk => ?_)
      · rw [ml_ph_b (by omega) (by omega)] at K
        refine ml_xhold (by omega) (w := ml_hf n) ha.1 (by omega) rfl rfl (fun lev' => ?_)
        exact nm_r (nI_1 r) (ih (r + 1) (s + ml_hf n) (n - ml_hf n) (m - ml_hf n) _ (c + 1) lev' _ (by omega) (by omega) (by omega) (by omega) (by omega) (by omega) (congrArg nI (by omega)) K)
      · rw [ml_ph_a (by omega) (by omega)] at K
        refine ml_xhold (by omega) (s := s + ml_hf n) (w := n - ml_hf n) (by omega) (by omega) rfl (congrArg nI (by omega)) (fun lev' => ?_)
        exact nm_r (nI_1 r) (ih (r + 1) s (ml_hf n) m _ (c + 1) lev' _ (by omega) (by omega) (by omega) (by omega) (by omega) (by omega) rfl K)
theorem ml_ypath {post : Int32 → SY → Prop} : ∀ (d r f n m : Nat) (h : Nat → Int32) (c : Nat) (F C S V : Nat → Int32) (x y z : Int32), r + d = 6 → 1 ≤ n → f + n ≤ 40 → m < n → c + d ≤ 16 → x = nI f → y = nI n → z = nI m →
    (∀ F' C' S' V' : Nat → Int32, wY_path_158 post E (nI (ml_ph (fun i => ml_lf (e i)) d f n m h c).2) e (ml_ph (fun i => ml_lf (e i)) d f n m h c).1 F' C' S' V') →
    wY_path_40 post (d + 1) x y z (nI r) E (nI c) e h F C S V := by
  intro d
  induction d with
  | zero =>
    intro r f n m h c F C S V x y z hr h1 hs hm hc hx hy hz K
    exact br_t (nI_le (a := 6) (b := r) (by omega) (by omega)) (K F C S V)
  | succ d ih =>
    intro r f n m h c F C S V x y z hr h1 hs hm hc hx hy hz K
    subst hx hy hz
    refine br_f (nI_ge (a := r) (b := 6) (by omega) (by omega)) ?_
    refine pk_le n 1 (fun hn => ?_) (fun hn => ?_)
    · have q := K F C S V
      rw [ml_ph_1 hn] at q
      exact q
    · have ha := ml_hf_a n (by omega) (by omega)
      refine ml_yhalf (by omega) ?_
      refine pk_le (ml_hf n) m (fun hk => ?_) (fun hk => ?_)
      · have hq : nI (ml_hf n) ≤ nI m := nI_le hk (by omega)
        rw [ml_ph_b (by omega) hk] at K
        refine ml_yroot ha.1 (by omega) rfl rfl (fun F' C' S' V' => ?_)
        refine ml_yhold (by omega) ?_
        refine br_t hq (br_t hq (br_t hq (nm_e (nm_r (nI_1 r) ?_))))
        exact ih (r + 1) (f + ml_hf n) (n - ml_hf n) (m - ml_hf n) _ (c + 1) F' C' S' V' _ _ _ (by omega) (by omega) (by omega) (by omega) (by omega) (nI_add _ _) (pk_sub (by omega)) (pk_sub (by omega)) K
      · have hq : ¬ nI (ml_hf n) ≤ nI m := nI_ge hk (by omega)
        rw [ml_ph_a (by omega) hk] at K
        refine ml_yroot (f := f + ml_hf n) (n := n - ml_hf n) (by omega) (by omega) (nI_add _ _) (pk_sub (by omega)) (fun F' C' S' V' => ?_)
        refine ml_yhold (by omega) ?_
        refine br_f hq (br_f hq (br_f hq (nm_r (nI_1 r) ?_)))
        exact ih (r + 1) f (ml_hf n) m _ (c + 1) F' C' S' V' _ _ _ (by omega) (by omega) (by omega) (by omega) (by omega) rfl rfl rfl K
end MLJ
