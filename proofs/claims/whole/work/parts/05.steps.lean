section MLK
/-! steps -/
variable {E : Int32} {e : Nat → Int32}
def ml_sh (l : Nat → Int32) : Nat → Nat → Nat → Nat → (Nat → Int32) → Nat → (Nat → Int32) × Nat × Nat × Nat
  | 0, f, n, _, h, c => (h, c, f, n)
  | d + 1, f, n, m, h, c => if n ≤ m then (h, c, f, n) else if m ≤ ml_hf n then ml_sh l d f (ml_hf n) m (upd h c (ml_rn l 6 (f + ml_hf n) (n - ml_hf n))) (c + 1) else ml_sh l d (f + ml_hf n) (n - ml_hf n) (m - ml_hf n) (upd h c (ml_rn l 6 f (ml_hf n))) (c + 1)
theorem ml_sh_1 {l h : Nat → Int32} {d f n m c : Nat} (h1 : n ≤ m) : ml_sh l (d + 1) f n m h c = (h, c, f, n) := if_pos h1
theorem ml_sh_a {l h : Nat → Int32} {d f n m c : Nat} (h1 : m < n) (h2 : m ≤ ml_hf n) : ml_sh l (d + 1) f n m h c = ml_sh l d f (ml_hf n) m (upd h c (ml_rn l 6 (f + ml_hf n) (n - ml_hf n))) (c + 1) :=
  (if_neg (by omega)).trans (if_pos h2)
theorem ml_sh_b {l h : Nat → Int32} {d f n m c : Nat} (h1 : m < n) (h2 : ml_hf n < m) : ml_sh l (d + 1) f n m h c = ml_sh l d (f + ml_hf n) (n - ml_hf n) (m - ml_hf n) (upd h c (ml_rn l 6 f (ml_hf n))) (c + 1) :=
  (if_neg (by omega)).trans (if_neg (by omega))
theorem ml_sh_c {l : Nat → Int32} : ∀ (d f n m : Nat) (h : Nat → Int32) (c : Nat), 1 ≤ m → m ≤ n → f + n ≤ 40 → (ml_sh l d f n m h c).2.1 ≤ c + d ∧ 1 ≤ (ml_sh l d f n m h c).2.2.2 ∧ (ml_sh l d f n m h c).2.2.1 + (ml_sh l d f n m h c).2.2.2 ≤ 40 := by
  intro d
  induction d with
  | zero => intro f n m h c h1 h2 h3; exact ⟨Nat.le_refl c, Nat.le_trans h1 h2, h3⟩
  | succ d ih =>
    intro f n m h c h1 h2 h3
    by_cases h4 : n ≤ m
    · rw [ml_sh_1 h4]; exact ⟨Nat.le_add_right _ _, Nat.le_trans h1 h2, h3⟩
    · have ha := ml_hf_a n (by omega) (by omega)
      by_cases h5 : m ≤ ml_hf n
      · rw [ml_sh_a (by omega) h5]
        have := ih f (ml_hf n) m (upd h c (ml_rn l 6 (f + ml_hf n) (n - ml_hf n))) (c + 1) h1 h5 (by omega)
        omega
      · rw [ml_sh_b (by omega) (by omega)]
        have := ih (f + ml_hf n) (n - ml_hf n) (m - ml_hf n) (upd h c (ml_rn l 6 f (ml_hf n))) (c + 1) (by omega) (by omega) (by omega)
        omega
def ml_sf (l h : Nat → Int32) (c f n : Nat) : (Nat → Int32) × Nat := if f = 0 then (h, c) else (upd h c (ml_rn l 6 f n), c + 1)
theorem ml_sf_0 {l h : Nat → Int32} {c f n : Nat} (h0 : f = 0) : ml_sf l h c f n = (h, c) := if_pos h0
theorem ml_sf_1 {l h : Nat → Int32} {c f n : Nat} (h0 : ¬ f = 0) : ml_sf l h c f n = (upd h c (ml_rn l 6 f n), c + 1) := if_neg h0
theorem ml_sf_c {l h : Nat → Int32} {c f n : Nat} : (ml_sf l h c f n).2 ≤ c + 1 := by
  by_cases h0 : f = 0
  · rw [ml_sf_0 h0]; exact Nat.le_add_right _ _
  · rw [ml_sf_1 h0]; exact Nat.le_refl _
theorem ml_xs91 {post : Int32 → SX → Prop} {h lev : Nat → Int32} {c f n : Nat} (hc : c < 16) (h1 : 1 ≤ n) (hf : f + n ≤ 40)
    (K : ∀ lev' : Nat → Int32, wX_steps_102 post E (nI (ml_sf (fun i => ml_lf (e i)) h c f n).2) e (ml_sf (fun i => ml_lf (e i)) h c f n).1 lev') :
    wX_steps_91 post (nI f) (nI (f + n)) E (nI c) e h lev := by
  refine pk_le f 0 (fun h0 => ?_) (fun h0 => ?_)
  · rw [ml_sf_0 (by omega)] at K
    exact K lev
  · rw [ml_sf_1 (by omega)] at K
    refine ml_xhold hc h1 hf rfl rfl (fun lev' => ?_)
    exact K lev'
theorem ml_ys177 {post : Int32 → SY → Prop} {h F C S V : Nat → Int32} {c f n : Nat} {x y g : Int32} (hc : c < 16) (h1 : 1 ≤ n) (hf : f + n ≤ 40) (hx : x = nI f) (hy : y = nI n) (hg : g = if f = 0 then 1 else 0)
    (K : ∀ F' C' S' V' : Nat → Int32, wY_steps_197 post E (nI (ml_sf (fun i => ml_lf (e i)) h c f n).2) e (ml_sf (fun i => ml_lf (e i)) h c f n).1 F' C' S' V') :
    wY_steps_177 post x y g E (nI c) e h F C S V := by
  subst hx hy
  by_cases h0 : f = 0
  · rw [if_pos h0] at hg
    rw [ml_sf_0 h0] at K
    subst hg
    exact br_f ml_10 (K F C S V)
  · rw [if_neg h0] at hg
    rw [ml_sf_1 h0] at K
    subst hg
    refine br_t rfl ?_
    refine ml_yroot h1 hf rfl rfl (fun F' C' S' V' => ?_)
    refine ml_yhold hc ?_
    exact K F' C' S' V'
theorem ml_xsteps {post : Int32 → SX → Prop} {m0 : Nat} (hm0 : m0 ≤ 40) : ∀ (d r s n m : Nat) (h : Nat → Int32) (c : Nat) (lev : Nat → Int32) (y : Int32), r + d = 6 → 1 ≤ m → s + n ≤ 40 → m ≤ n → m0 = s + m → c + d ≤ 16 → y = nI (s + n) →
    (∀ lev' : Nat → Int32, wX_steps_91 post (nI (ml_sh (fun i => ml_lf (e i)) d s n m h c).2.2.1) (nI ((ml_sh (fun i => ml_lf (e i)) d s n m h c).2.2.1 + (ml_sh (fun i => ml_lf (e i)) d s n m h c).2.2.2)) E (nI (ml_sh (fun i => ml_lf (e i)) d s n m h c).2.1) e (ml_sh (fun i => ml_lf (e i)) d s n m h c).1 lev') →
    wX_steps_33 post (nI m0) (d + 1) (nI s) y (nI r) E (nI c) e h lev := by
  intro d
  induction d with
  | zero =>
    intro r s n m h c lev y hr h1 hs hm em hc hy K
    subst hy
    exact br_t (nI_le (a := 6) (b := r) (by omega) (by omega)) (K lev)
  | succ d ih =>
    intro r s n m h c lev y hr h1 hs hm em hc hy K
    subst hy
    refine br_f (nI_ge (a := r) (b := 6) (by omega) (by omega)) ?_
    refine pk_le (s + n) m0 (fun hn => ?_) (fun hn => ?_)
    · have q := K lev
      rw [ml_sh_1 (by omega)] at q
      exact q
    · have ha := ml_hf_a n (by omega) (by omega)
      refine ml_xmid (by omega) ?_
      refine pk_lt (s + ml_hf n) m0 (fun hk => ?_) (fun hk => ?_)
      · rw [ml_sh_b (by omega) (by omega)] at K
        refine ml_xhold (by omega) (w := ml_hf n) ha.1 (by omega) rfl rfl (fun lev' => ?_)
        exact nm_r (nI_1 r) (ih (r + 1) (s + ml_hf n) (n - ml_hf n) (m - ml_hf n) _ (c + 1) lev' _ (by omega) (by omega) (by omega) (by omega) (by omega) (by omega) (congrArg nI (by omega)) K)
      · rw [ml_sh_a (by omega) (by omega)] at K
        refine ml_xhold (by omega) (s := s + ml_hf n) (w := n - ml_hf n) (by omega) (by omega) rfl (congrArg nI (by omega)) (fun lev' => ?_)
        exact nm_r (nI_1 r) (ih (r + 1) s (ml_hf n) m _ (c + 1) lev' _ (by omega) (by omega) (by omega) (by omega) (by omega) (by omega) rfl K)
theorem ml_ysteps {post : Int32 → SY → Prop} : ∀ (d r f n m : Nat) (h : Nat → Int32) (c : Nat) (F C S V : Nat → Int32) (x y z g : Int32), r + d = 6 → 1 ≤ m → f + n ≤ 40 → m ≤ n → c + d ≤ 16 → x = nI f → y = nI n → z = nI m → g = (if f = 0 then 1 else 0) →
    (∀ (F' C' S' V' : Nat → Int32) (x y g : Int32), x = nI (ml_sh (fun i => ml_lf (e i)) d f n m h c).2.2.1 → y = nI (ml_sh (fun i => ml_lf (e i)) d f n m h c).2.2.2 → g = (if (ml_sh (fun i => ml_lf (e i)) d f n m h c).2.2.1 = 0 then 1 else 0) → wY_steps_177 post x y g E (nI (ml_sh (fun i => ml_lf (e i)) d f n m h c).2.1) e (ml_sh (fun i => ml_lf (e i)) d f n m h c).1 F' C' S' V') →
    wY_steps_39 post (d + 1) x y z g (nI r) E (nI c) e h F C S V := by
  intro d
  induction d with
  | zero =>
    intro r f n m h c F C S V x y z g hr h1 hs hm hc hx hy hz hg K
    exact br_t (nI_le (a := 6) (b := r) (by omega) (by omega)) (K F C S V x y g hx hy hg)
  | succ d ih =>
    intro r f n m h c F C S V x y z g hr h1 hs hm hc hx hy hz hg K
    subst hx hy hz
    refine br_f (nI_ge (a := r) (b := 6) (by omega) (by omega)) ?_
    refine pk_le n m (fun hn => ?_) (fun hn => ?_)
    · have q := K F C S V (nI f) (nI n) g
      rw [ml_sh_1 hn] at q
      exact q rfl rfl hg
    · have ha := ml_hf_a n (by omega) (by omega)
      refine ml_yhalf (by omega) ?_
      refine pk_lt (ml_hf n) m (fun hk => ?_) (fun hk => ?_)
      · have hq : nI (ml_hf n) < nI m := nI_lt hk (by omega)
        rw [ml_sh_b hn hk] at K
        refine ml_yroot ha.1 (by omega) rfl rfl (fun F' C' S' V' => ?_)
        refine ml_yhold (by omega) ?_
        have A : wY_steps_114 post (wY_steps_39 post (d + 1)) (nI f) (nI n) (nI m) (nI r) (nI (ml_hf n)) E (nI (c + 1)) e (upd h c (ml_rn (fun i => ml_lf (e i)) 6 f (ml_hf n))) F' C' S' V' := by
          refine br_t hq (br_t hq (br_t hq (nm_e (nm_r (nI_1 r) ?_))))
          exact ih (r + 1) (f + ml_hf n) (n - ml_hf n) (m - ml_hf n) _ (c + 1) F' C' S' V' _ _ _ _ (by omega) (by omega) (by omega) (by omega) (by omega) (nI_add _ _) (pk_sub (by omega)) (pk_sub (by omega)) (if_neg (by omega)).symm K
        exact br_c (fun _ => A) (fun _ => br_t hq A)
      · have hq : ¬ nI (ml_hf n) < nI m := nI_nlt hk (by omega)
        rw [ml_sh_a hn hk] at K
        refine ml_yroot (f := f + ml_hf n) (n := n - ml_hf n) (by omega) (by omega) (nI_add _ _) (pk_sub (by omega)) (fun F' C' S' V' => ?_)
        refine ml_yhold (by omega) ?_
        have A : wY_steps_115 post (wY_steps_39 post (d + 1)) (nI f) (nI n) (nI m) (nI r) (nI (ml_hf n)) g E (nI (c + 1)) e (upd h c (ml_rn (fun i => ml_lf (e i)) 6 (f + ml_hf n) (n - ml_hf n))) F' C' S' V' := by
          refine br_f hq (br_f hq (br_f hq (nm_r (nI_1 r) ?_)))
          exact ih (r + 1) f (ml_hf n) m _ (c + 1) F' C' S' V' _ _ _ _ (by omega) (by omega) (by omega) (by omega) (by omega) rfl rfl rfl hg K
        by_cases h0 : f = 0
        · rw [if_pos h0] at hg
          subst hg
          exact br_f ml_10 (br_f hq A)
        · rw [if_neg h0] at hg
          subst hg
          exact br_t rfl A
end MLK
