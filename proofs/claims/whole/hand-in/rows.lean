section
section MLA
/-! numbers (rows pasted from kit/rows) -/
theorem pk_us {f : Nat → Int32} {k : Nat} {x : Int32} : upd f k x k = x := if_pos rfl
theorem pk_un {f : Nat → Int32} {k j : Nat} {x : Int32} (h : j ≠ k) : upd f k x j = f j := if_neg h
theorem pk_sub {a b : Nat} (h : b ≤ a) : nI a - nI b = nI (a - b) := by
  obtain ⟨c, rfl⟩ : ∃ c, a = c + b := ⟨a - b, by omega⟩
  rw [← nI_add, Int32.add_sub_cancel, Nat.add_sub_cancel]
theorem pk_m1 (n : Nat) : nI (n + 1) + (-1) = nI n := by
  rw [← nI_1, Int32.add_assoc, show (1 : Int32) + (-1) = 0 from rfl, Int32.add_zero]
theorem pk_mul (a b : Nat) : nI a * nI b = nI (a * b) := (Int32.ofNat_mul a b).symm
theorem pk_div {a d : Nat} (ha : a < 2 ^ 31) (h0 : 0 < d) (hd : d < 2 ^ 31) : nI a / nI d = nI (a / d) := by
  apply Int32.toInt_inj.mp
  rw [lg_idiv_nonneg (by rw [nI_toInt ha]; omega) (by rw [nI_toInt hd]; omega), nI_toInt ha, nI_toInt hd, nI_toInt (Nat.lt_of_le_of_lt (Nat.div_le_self a d) ha)]
  first | rfl | exact (Int.natCast_ediv _ _).symm
theorem pk_rem {a d : Nat} (ha : a < 2 ^ 31) (h0 : 0 < d) (hd : d < 2 ^ 31) : nI a - nI a / nI d * nI d = nI (a % d) := by
  rw [pk_div ha h0 hd, pk_mul, pk_sub (Nat.div_mul_le_self a d)]
  exact congrArg nI (by have := Nat.div_add_mod' a d; omega)
theorem pk_ix (x : Int32) {n : Nat} (hn : n < 2 ^ 31) : x < 0 ∨ nI n ≤ x ∨ ∃ j : Nat, j < n ∧ x = nI j := by
  by_cases h : x < 0
  · exact Or.inl h
  · obtain ⟨j, hj, rfl⟩ := nI_of h
    by_cases h2 : j < n
    · exact Or.inr (Or.inr ⟨j, h2, rfl⟩)
    · exact Or.inr (Or.inl (nI_le (by omega) hj))
theorem pk_le {x y : Int32} {A B : Prop} (a b : Nat) (f : a ≤ b → A) (g : b < a → B) (hx : x = nI a := by rfl) (hy : y = nI b := by rfl) (ha : a < 2 ^ 31 := by omega) (hb : b < 2 ^ 31 := by omega) : (x ≤ y → A) ∧ (¬ x ≤ y → B) := by
  subst hx hy
  rw [nI_leI ha hb]
  exact ⟨f, fun z => g (by omega)⟩
theorem pk_lt {x y : Int32} {A B : Prop} (a b : Nat) (f : a < b → A) (g : b ≤ a → B) (hx : x = nI a := by rfl) (hy : y = nI b := by rfl) (ha : a < 2 ^ 31 := by omega) (hb : b < 2 ^ 31 := by omega) : (x < y → A) ∧ (¬ x < y → B) := by
  subst hx hy
  rw [nI_ltI ha hb]
  exact ⟨f, fun z => g (by omega)⟩
theorem pk_eq {x y : Int32} {A B : Prop} (a b : Nat) (f : a = b → A) (g : a ≠ b → B) (hx : x = nI a := by rfl) (hy : y = nI b := by rfl) (ha : a < 2 ^ 31 := by omega) (hb : b < 2 ^ 31 := by omega) : (x = y → A) ∧ (¬ x = y → B) := by
  subst hx hy
  rw [nI_eq ha hb]
  exact ⟨f, g⟩
theorem pk_in {x : Int32} (n N : Nat) (h : n < N) (hx : x = nI n := by rfl) (hN : N < 2 ^ 31 := by omega) : vp_in x N := by
  subst hx
  exact vp_in_nI h hN
theorem pk_cl {x : Int32} (n : Nat) (hx : x = nI n := by rfl) (h : n < 2 ^ 31 := by omega) : x.toNatClampNeg = n := by
  subst hx
  exact nI_clamp h
theorem pk_tn {n : Nat} (h : n < 2 ^ 32) : (nI n).toBitVec.toNat = n := Nat.mod_eq_of_lt h
theorem nx_and (a b : Nat) : nI a &&& nI b = nI (a &&& b) := by
  apply Int32.toBitVec_inj.1
  show BitVec.ofNat 32 a &&& BitVec.ofNat 32 b = BitVec.ofNat 32 (a &&& b)
  apply BitVec.eq_of_getLsbD_eq
  intro i hi
  simp [hi]
theorem nx_cnt : ∀ j : Fin 32, (UInt32.ofNat j.val &&& Int32.toUInt32 31).toNat % 32 = j.val := by decide +kernel
theorem nx_ush {k j : Nat} (hk : k < 65536) (hj : j < 32) : ((nI k).toUInt32 >>> ((nI j).toUInt32 &&& Int32.toUInt32 31)).toInt32 = nI (k >>> j) := by
  have hs : k >>> j ≤ k := by
    rw [Nat.shiftRight_eq_div_pow]
    exact Nat.div_le_self _ _
  have e2 : UInt32.ofNat k >>> (UInt32.ofNat j &&& Int32.toUInt32 31) = UInt32.ofNat (k >>> j) := by
    apply UInt32.toNat_inj.1
    have h1 : (UInt32.ofNat k).toNat = k := Nat.mod_eq_of_lt (by omega)
    have h2 : (UInt32.ofNat (k >>> j)).toNat = k >>> j := Nat.mod_eq_of_lt (by omega)
    rw [UInt32.toNat_shiftRight, nx_cnt ⟨j, hj⟩, h1, h2]
  show (UInt32.ofNat k >>> (UInt32.ofNat j &&& Int32.toUInt32 31)).toInt32 = _
  rw [e2]
  rfl
end MLA
section MLB
/-! the greatest power of 2 below n -/
def ml_hl : Nat → Nat → Nat → Nat
  | 0, k, _ => k
  | d + 1, k, n => if k * 2 < n then ml_hl d (k * 2) n else k
theorem ml_hl_s (d k n : Nat) : ml_hl (d + 1) k n = if k * 2 < n then ml_hl d (k * 2) n else k := rfl
def ml_hf (n : Nat) : Nat := ml_hl 6 1 n
theorem ml_hf_a : ∀ n, n < 65 → 2 ≤ n → 1 ≤ ml_hf n ∧ ml_hf n < n := by decide +kernel
theorem ml_hf_b : ∀ n, n < 65 → 2 ≤ n → n ≤ 2 * ml_hf n ∧ ml_hf n ≤ 32 := by decide +kernel
theorem ml_hf_c : ∀ n, n < 65 → 3 ≤ n → ml_hf n = 2 * ml_hf ((n + 1) / 2) := by decide +kernel
theorem ml_hf_d : ∀ d, d < 6 → ∀ n, n < 65 → 2 ≤ n → n ≤ 2 ^ (d + 1) → ml_hf n ≤ 2 ^ d ∧ n - ml_hf n ≤ 2 ^ d := by decide +kernel
theorem ml_hf_2 : ml_hf 2 = 1 := by decide +kernel
theorem ml_p2 : ∀ d, d < 7 → 2 ^ d < 65 := by decide +kernel
end MLB
section MLC
/-! pressing -/
def ml_mx (x k : Int32) : Int32 :=
  ((((x ^^^ (x.toUInt32 >>> ((15 : Int32).toUInt32 &&& Int32.toUInt32 31)).toInt32) * 739982445 + k) ^^^ (((x ^^^ (x.toUInt32 >>> ((15 : Int32).toUInt32 &&& Int32.toUInt32 31)).toInt32) * 739982445 + k).toUInt32 >>> ((12 : Int32).toUInt32 &&& Int32.toUInt32 31)).toInt32) * 695872825 + k) ^^^ (((((x ^^^ (x.toUInt32 >>> ((15 : Int32).toUInt32 &&& Int32.toUInt32 31)).toInt32) * 739982445 + k) ^^^ (((x ^^^ (x.toUInt32 >>> ((15 : Int32).toUInt32 &&& Int32.toUInt32 31)).toInt32) * 739982445 + k).toUInt32 >>> ((12 : Int32).toUInt32 &&& Int32.toUInt32 31)).toInt32) * 695872825 + k).toUInt32 >>> ((15 : Int32).toUInt32 &&& Int32.toUInt32 31)).toInt32
def ml_lf (x : Int32) : Int32 := ml_mx x 1
def ml_nd (a b : Int32) : Int32 := ml_mx (ml_mx a 2 ^^^ b) 3
/-- the root of n numbers from place f on -/
def ml_rn (l : Nat → Int32) : Nat → Nat → Nat → Int32
  | 0, f, _ => l f
  | d + 1, f, n => if n ≤ 1 then l f else ml_nd (ml_rn l d f (ml_hf n)) (ml_rn l d (f + ml_hf n) (n - ml_hf n))
theorem ml_rn_1 {l : Nat → Int32} {d f n : Nat} (h : n ≤ 1) : ml_rn l d f n = l f := by
  cases d with
  | zero => rfl
  | succ d => exact if_pos h
theorem ml_rn_s {l : Nat → Int32} {d f n : Nat} (h : 2 ≤ n) : ml_rn l (d + 1) f n = ml_nd (ml_rn l d f (ml_hf n)) (ml_rn l d (f + ml_hf n) (n - ml_hf n)) := if_neg (by omega)
theorem ml_rn_cg {l l' : Nat → Int32} : ∀ (d f f' n : Nat), 1 ≤ n → n < 65 → (∀ i, i < n → l (f + i) = l' (f' + i)) → ml_rn l d f n = ml_rn l' d f' n := by
  intro d
  induction d with
  | zero => intro f f' n h1 h2 h; exact h 0 h1
  | succ d ih =>
    intro f f' n h1 h2 h
    by_cases h3 : n ≤ 1
    · rw [ml_rn_1 h3, ml_rn_1 h3]; exact h 0 h1
    · have ha := ml_hf_a n h2 (by omega)
      rw [ml_rn_s (by omega), ml_rn_s (by omega), ih f f' (ml_hf n) ha.1 (by omega) (fun i hi => h i (by omega)), ih (f + ml_hf n) (f' + ml_hf n) (n - ml_hf n) (by omega) (by omega) (fun i hi => by rw [Nat.add_assoc, Nat.add_assoc]; exact h (ml_hf n + i) (by omega))]
/-- one level of pairing leaves the root as it was -/
theorem ml_rn_pair {l l' : Nat → Int32} : ∀ (d : Nat), d < 6 → ∀ (f n : Nat), 1 ≤ n → n ≤ 2 ^ (d + 1) →
    (∀ i, i < n / 2 → l' (f + i) = ml_nd (l (2 * f + 2 * i)) (l (2 * f + 2 * i + 1))) →
    (n % 2 = 1 → l' (f + n / 2) = l (2 * f + (n - 1))) →
    ml_rn l (d + 1) (2 * f) n = ml_rn l' d f ((n + 1) / 2) := by
  intro d
  induction d with
  | zero =>
    intro _ f n h1 h2 hp ho
    have h2' : n ≤ 2 := h2
    by_cases h3 : n = 1
    · subst h3
      rw [ml_rn_1 (by omega), ml_rn_1 (by omega)]
      exact (ho rfl).symm
    · have h4 : n = 2 := by omega
      subst h4
      rw [ml_rn_s (by omega), ml_hf_2, ml_rn_1 (by omega), ml_rn_1 (by omega), ml_rn_1 (by omega)]
      exact (hp 0 (by omega)).symm
  | succ d ih =>
    intro hd f n h1 h2 hp ho
    by_cases h3 : n = 1
    · subst h3
      rw [ml_rn_1 (by omega), ml_rn_1 (by omega)]
      exact (ho rfl).symm
    · by_cases h4 : n = 2
      · subst h4
        rw [ml_rn_s (by omega), ml_hf_2, ml_rn_1 (by omega), ml_rn_1 (by omega), ml_rn_1 (by omega)]
        exact (hp 0 (by omega)).symm
      · have hn : n < 65 := Nat.lt_of_le_of_lt h2 (ml_p2 (d + 1 + 1) (by omega))
        have ha := ml_hf_a n hn (by omega)
        have hc := ml_hf_c n hn (by omega)
        have hD := ml_hf_d (d + 1) hd n hn (by omega) h2
        have hb := ml_hf_a ((n + 1) / 2) (by omega) (by omega)
        rw [ml_rn_s (d := d + 1) (n := n) (by omega), ml_rn_s (d := d) (n := (n + 1) / 2) (by omega)]
        have e1 : ml_rn l (d + 1) (2 * f) (ml_hf n) = ml_rn l' d f (ml_hf ((n + 1) / 2)) := by
          rw [ih (by omega) f (ml_hf n) ha.1 hD.1 (fun i hi => hp i (by omega)) (fun z => absurd z (by omega))]
          exact congrArg (ml_rn l' d f) (by omega)
        have e2 : ml_rn l (d + 1) (2 * f + ml_hf n) (n - ml_hf n) = ml_rn l' d (f + ml_hf ((n + 1) / 2)) ((n + 1) / 2 - ml_hf ((n + 1) / 2)) := by
          have e3 : 2 * f + ml_hf n = 2 * (f + ml_hf ((n + 1) / 2)) := by omega
          have q1 : ∀ i, i < (n - ml_hf n) / 2 → l' (f + ml_hf ((n + 1) / 2) + i) = ml_nd (l (2 * (f + ml_hf ((n + 1) / 2)) + 2 * i)) (l (2 * (f + ml_hf ((n + 1) / 2)) + 2 * i + 1)) := by
            intro i hi
            have := hp (ml_hf ((n + 1) / 2) + i) (by omega)
            rw [← Nat.add_assoc] at this
            rw [this, show 2 * f + 2 * (ml_hf ((n + 1) / 2) + i) = 2 * (f + ml_hf ((n + 1) / 2)) + 2 * i from by omega]
          have q2 : (n - ml_hf n) % 2 = 1 → l' (f + ml_hf ((n + 1) / 2) + (n - ml_hf n) / 2) = l (2 * (f + ml_hf ((n + 1) / 2)) + (n - ml_hf n - 1)) := by
            intro z
            have := ho (by omega)
            rw [show f + ml_hf ((n + 1) / 2) + (n - ml_hf n) / 2 = f + n / 2 from by omega, this]
            exact congrArg l (by omega)
          rw [e3, ih (by omega) (f + ml_hf ((n + 1) / 2)) (n - ml_hf n) (by omega) hD.2 q1 q2]
          exact congrArg (ml_rn l' d (f + ml_hf ((n + 1) / 2))) (by omega)
        rw [e1, e2]
end MLC
section MLD
/-! the way from the whole row down to an entry -/
def ml_wy : Nat → Nat → Nat → Nat → Nat
  | 0, _, _, w => w
  | d + 1, n, m, w => if n ≤ 1 then w else if m < ml_hf n then ml_wy d (ml_hf n) m (w * 2) else ml_wy d (n - ml_hf n) (m - ml_hf n) (w * 2 + 1)
def ml_dp : Nat → Nat → Nat → Nat → Nat
  | 0, _, _, c => c
  | d + 1, n, m, c => if n ≤ 1 then c else if m < ml_hf n then ml_dp d (ml_hf n) m (c + 1) else ml_dp d (n - ml_hf n) (m - ml_hf n) (c + 1)
def ml_fs : Nat → Nat → Nat → Bool
  | 0, n, m => decide (1 < n) && decide (m < ml_hf n)
  | j + 1, n, m => if n ≤ 1 then false else if m < ml_hf n then ml_fs j (ml_hf n) m else ml_fs j (n - ml_hf n) (m - ml_hf n)
theorem ml_wd_1 : ∀ n, n < 41 → ∀ m, m < n → ml_dp 6 n m 0 ≤ 6 ∧ ml_wy 6 n m 1 < 128 := by decide +kernel
theorem ml_wd_2 : ∀ n, n < 41 → ∀ m, m < n → ∀ h, h < 17 → (ml_wy 6 n m 1 / 2 ^ h = 1 ↔ h = ml_dp 6 n m 0) := by decide +kernel
theorem ml_wd_3 : ∀ n, n < 41 → ∀ m, m < n → ∀ p, p < ml_dp 6 n m 0 → (ml_wy 6 n m 1 / 2 ^ p % 2 = 1 ↔ ml_fs (ml_dp 6 n m 0 - 1 - p) n m = false) := by decide +kernel
/-- the walk from the leaf up: b i says that r stands first -/
def ml_rf (h : Nat → Int32) (b : Nat → Bool) : Nat → Nat → Int32 → Int32
  | 0, _, r => r
  | d + 1, i, r => ml_rf h b d (i + 1) (if b i = true then ml_nd r (h i) else ml_nd (h i) r)
/-- the hand turned round: d swaps from i on -/
def ml_tr (c : Nat) : Nat → Nat → (Nat → Int32) → (Nat → Int32)
  | 0, _, h => h
  | d + 1, i, h => ml_tr c d (i + 1) (upd (upd h i (h (c - 1 - i))) (c - 1 - i) (h i))
/-- the path, from the whole row down -/
def ml_ph (l : Nat → Int32) : Nat → Nat → Nat → Nat → (Nat → Int32) → Nat → (Nat → Int32) × Nat
  | 0, _, _, _, h, c => (h, c)
  | d + 1, f, n, m, h, c => if n ≤ 1 then (h, c) else if m < ml_hf n then ml_ph l d f (ml_hf n) m (upd h c (ml_rn l 6 (f + ml_hf n) (n - ml_hf n))) (c + 1) else ml_ph l d (f + ml_hf n) (n - ml_hf n) (m - ml_hf n) (upd h c (ml_rn l 6 f (ml_hf n))) (c + 1)
end MLD
end
section
section MLF
/-! numbers as the walks print them -/
theorem ml_n2 (k : Nat) : nI k * 2 = nI (k * 2) := pk_mul k 2
theorem ml_2n (k : Nat) : 2 * nI k = nI (2 * k) := pk_mul 2 k
theorem ml_2n' (k : Nat) : 2 * nI k = nI (k * 2) := by rw [ml_2n, Nat.mul_comm]
theorem ml_sb (s n : Nat) : nI (s + n) - nI s = nI n := by
  rw [pk_sub (by omega)]; exact congrArg nI (by omega)
theorem ml_s1 {w : Nat} (h : 1 ≤ w) : nI w - 1 = nI (w - 1) := pk_sub (b := 1) h
theorem ml_d2 {w : Nat} (h : w < 2 ^ 31) : nI w / 2 = nI (w / 2) := pk_div (d := 2) h (by omega) (by omega)
theorem ml_r2 {w : Nat} (h : w < 2 ^ 31) : nI w - nI w / 2 * 2 = nI (w % 2) := pk_rem (d := 2) h (by omega) (by omega)
theorem ml_mi {c i : Nat} (h : i + 1 ≤ c) : nI c - 1 - nI i = nI (c - 1 - i) := by
  rw [ml_s1 (by omega), pk_sub (by omega)]
theorem ml_20 : ¬ (2 : Int32) = 0 := by decide
theorem ml_10 : ¬ (1 : Int32) = 0 := by decide
/-! X: pressing, the middle -/
theorem ml_xmix {post : Int32 → Prop} {x k : Int32} (h : post (ml_mx x k)) : wpX_mix post x k := by
  unfold wpX_mix
  intro a ea
  subst ea
  intro b eb
  subst eb
  exact h
theorem ml_xleaf {post : Int32 → Prop} {x : Int32} (h : post (ml_lf x)) : wpX_leaf post x := by
  unfold wpX_leaf
  exact ml_xmix (post := fun r => post r) h
theorem ml_xnode {post : Int32 → Prop} {a b : Int32} (h : post (ml_nd a b)) : wpX_node post a b := by
  unfold wpX_node
  refine ml_xmix ?_
  exact ml_xmix (post := fun r => post r) h
theorem ml_ymix {post : Int32 → Prop} {x k : Int32} (h : post (ml_mx x k)) : wpY_mix post x k := by
  unfold wpY_mix
  intro a ea
  subst ea
  intro b eb
  subst eb
  exact h
theorem ml_yleaf {post : Int32 → Prop} {x : Int32} (h : post (ml_lf x)) : wpY_leaf post x := by
  unfold wpY_leaf
  exact ml_ymix (post := fun r => post r) h
theorem ml_ynode {post : Int32 → Prop} {a b : Int32} (h : post (ml_nd a b)) : wpY_node post a b := by
  unfold wpY_node
  refine ml_ymix ?_
  exact ml_ymix (post := fun r => post r) h
theorem ml_k2 {k d : Nat} : k * 2 ^ (d + 1) = k * 2 * 2 ^ d := by
  rw [Nat.pow_succ, Nat.mul_comm (2 ^ d) 2, Nat.mul_assoc]
theorem ml_kp (k d : Nat) : k ≤ k * 2 ^ d := Nat.le_mul_of_pos_right _ (Nat.two_pow_pos d)
theorem ml_xmid_l {post : Int32 → Prop} {s n : Nat} (hn : n < 1000) : ∀ (d k r : Nat), r + d = 6 → k * 2 ^ d ≤ 64 → post (nI (s + ml_hl d k n)) → wX_middleOf_4 post (nI s) (nI (s + n)) (d + 1) (nI k) (nI r) := by
  intro d
  induction d with
  | zero =>
    intro k r hr hp h
    refine br_t (nI_le (a := 6) (b := r) (by omega) (by omega)) ?_
    rw [nI_add]
    exact h
  | succ d ih =>
    intro k r hr hp h
    rw [ml_k2] at hp
    have hk := ml_kp (k * 2) d
    rw [ml_hl_s] at h
    refine br_f (nI_ge (a := r) (b := 6) (by omega) (by omega)) ?_
    refine pk_le n (k * 2) (fun hc => ?_) (fun hc => ?_) (ml_sb s n) (ml_n2 k)
    · rw [if_neg (by omega)] at h
      rw [nI_add]
      exact h
    · rw [if_pos hc] at h
      exact nm_r (ml_n2 k) (nm_r (nI_1 r) (ih (k * 2) (r + 1) (by omega) hp h))
theorem ml_xmid {post : Int32 → Prop} {s n : Nat} (hn : n < 1000) (h : post (nI (s + ml_hf n))) : wpX_middleOf post (nI s) (nI (s + n)) :=
  ⟨7, ml_xmid_l hn 6 1 0 rfl (by decide) h⟩
theorem ml_yhalf_l {post : Int32 → Prop} {n : Nat} (hn : n < 1000) : ∀ (d k : Nat), k * 2 ^ d = 64 → post (nI (ml_hl d k n)) → wY_half_2 post (nI n) (d + 1) (nI k) := by
  intro d
  induction d with
  | zero =>
    intro k hp h
    have hk : k = 64 := by omega
    subst hk
    exact br_t (nI_le (a := 64) (b := 64) (by omega) (by omega)) h
  | succ d ih =>
    intro k hp h
    rw [ml_k2] at hp
    have hk := ml_kp (k * 2) d
    rw [ml_hl_s] at h
    refine br_f (nI_ge (a := k) (b := 64) (by omega) (by omega)) ?_
    refine pk_le n (k * 2) (fun hc => ?_) (fun hc => ?_) rfl (ml_2n' k)
    · rw [if_neg (by omega)] at h
      exact h
    · rw [if_pos hc] at h
      exact nm_r (ml_2n' k) (ih (k * 2) hp h)
theorem ml_yhalf {post : Int32 → Prop} {n : Nat} (hn : n < 1000) (h : post (nI (ml_hf n))) : wpY_half post (nI n) :=
  ⟨7, ml_yhalf_l hn 6 1 (by decide) h⟩
end MLF
section MLG
/-! X: the root of a row, level by level -/
variable {post : Int32 → SX → Prop} {E c : Int32} {e h : Nat → Int32}
theorem ml_x61 {J : Int32 → Int32 → (Nat → Int32) → (Nat → Int32) → (Nat → Int32) → Prop} {w r : Nat} {l : Nat → Int32} (hw : 2 ≤ w) (hw4 : w ≤ 40)
    (K : ∀ lev : Nat → Int32, (∀ j, j < w / 2 → lev j = ml_nd (l (2 * j)) (l (2 * j + 1))) → (w % 2 = 1 → lev (w / 2) = l (w - 1)) → J (nI (w - w / 2)) (nI (r + 1)) e h lev) :
    ∀ (d i : Nat) (lev : Nat → Int32), i + d = w / 2 → (∀ j, j < i → lev j = ml_nd (l (2 * j)) (l (2 * j + 1))) → (∀ j, i ≤ j → lev j = l j) →
    wX_rowRoot_61 post J (nI w) (nI r) (nI (w / 2)) E c (d + 1) (nI i) e h lev := by
  intro d
  induction d with
  | zero =>
    intro i lev hi hlo hhi
    have hi' : i = w / 2 := by omega
    subst hi'
    refine br_t (nI_le (by omega) (by omega)) ⟨ml_20, ?_⟩
    refine pk_eq (w % 2) 1 (fun hc => ?_) (fun hc => ?_) (ml_r2 (by omega)) rfl
    · refine ⟨pk_in (w - 1) 40 (by omega) (ml_s1 (by omega)), pk_in (w / 2) 40 (by omega), ?_⟩
      refine nm_r (e' := upd lev (w / 2) (lev (w - 1))) ?_ (nm_r (pk_sub (by omega)) (nm_r (nI_1 r) (K _ ?_ ?_)))
      · rw [ml_s1 (by omega), nI_clamp (by omega), nI_clamp (by omega)]
      · intro j hj
        rw [pk_un (by omega)]
        exact hlo j hj
      · intro _
        rw [pk_us]
        exact hhi _ (by omega)
    · exact nm_r (pk_sub (by omega)) (nm_r (nI_1 r) (K lev hlo (fun z => absurd z hc)))
  | succ d ih =>
    intro i lev hi hlo hhi
    refine br_f (nI_ge (by omega) (by omega)) ⟨pk_in (2 * i) 40 (by omega) (ml_2n i), pk_in (2 * i + 1) 40 (by omega) (by rw [ml_2n, nI_1]), ?_⟩
    refine ml_xnode ?_
    refine ⟨pk_in i 40 (by omega), ?_⟩
    refine nm_r (e' := upd lev i (ml_nd (lev (2 * i)) (lev (2 * i + 1)))) ?_ (nm_r (nI_1 i) (ih (i + 1) _ (by omega) ?_ ?_))
    · rw [ml_2n, nI_1, nI_clamp (by omega), nI_clamp (by omega), nI_clamp (by omega)]
    · intro j hj
      by_cases hji : j = i
      · subst hji
        rw [pk_us, hhi _ (by omega), hhi _ (by omega)]
      · rw [pk_un hji]
        exact hlo j (by omega)
    · intro j hj
      rw [pk_un (by omega)]
      exact hhi j (by omega)
theorem ml_x41 : ∀ (d r w : Nat) (lev : Nat → Int32), r + d = 6 → 1 ≤ w → w ≤ 40 → w ≤ 2 ^ d → (∀ lev' : Nat → Int32, post (ml_rn lev d 0 w) (E, c, e, h, lev')) →
    wX_rowRoot_41 post E c (d + 1) (nI w) (nI r) e h lev := by
  intro d
  induction d with
  | zero =>
    intro r w lev hr h1 h4 hp K
    exact br_t (nI_le (a := 6) (b := r) (by omega) (by omega)) (K lev)
  | succ d ih =>
    intro r w lev hr h1 h4 hp K
    refine br_f (nI_ge (a := r) (b := 6) (by omega) (by omega)) ?_
    refine pk_le w 1 (fun hc => ?_) (fun hc => ?_)
    · have := K lev
      rw [ml_rn_1 hc] at this
      exact this
    · refine ⟨ml_20, nm_r (ml_d2 (by omega)) ⟨w / 2 + 1, ?_⟩⟩
      refine ml_x61 (l := lev) hc h4 ?_ (w / 2) 0 lev (by omega) (fun j hj => absurd hj (by omega)) (fun j hj => rfl)
      intro lev' k1 k2
      have q := ml_rn_pair (l := lev) (l' := lev') d (by omega) 0 w h1 hp (fun i hi => by simp only [Nat.mul_zero, Nat.zero_add]; exact k1 i hi) (fun z => by simp only [Nat.mul_zero, Nat.zero_add]; exact k2 z)
      rw [Nat.mul_zero, show (w + 1) / 2 = w - w / 2 from by omega] at q
      rw [q] at K
      rw [Nat.pow_succ] at hp
      exact ih (r + 1) (w - w / 2) lev' (by omega) (by omega) (by omega) (by omega) K
theorem ml_x7 {s w : Nat} (hw : 1 ≤ w) (hs : s + w ≤ 40) (K : ∀ lev : Nat → Int32, post (ml_rn (fun i => ml_lf (e i)) 6 s w) (E, c, e, h, lev)) :
    ∀ (d i : Nat) (lev : Nat → Int32), i + d = w → (∀ j, j < i → lev j = ml_lf (e (s + j))) → wX_rowRoot_7 post (nI s) (nI w) E c (d + 1) (nI i) e h lev := by
  intro d
  induction d with
  | zero =>
    intro i lev hi hlo
    refine br_t (nI_le (by omega) (by omega)) ⟨7, ?_⟩
    refine ml_x41 6 0 w lev rfl hw (by omega) (by omega) ?_
    intro lev'
    rw [ml_rn_cg (l := lev) (l' := fun i => ml_lf (e i)) 6 0 s w hw (by omega) (fun i hi' => by rw [Nat.zero_add]; exact hlo i (by omega))]
    exact K lev'
  | succ d ih =>
    intro i lev hi hlo
    refine br_f (nI_ge (by omega) (by omega)) ⟨pk_in (s + i) 40 (by omega) (nI_add s i), ?_⟩
    refine ml_xleaf ?_
    refine ⟨pk_in i 40 (by omega), ?_⟩
    refine nm_r (e' := upd lev i (ml_lf (e (s + i)))) ?_ (nm_r (nI_1 i) (ih (i + 1) _ (by omega) ?_))
    · rw [nI_add, nI_clamp (by omega), nI_clamp (by omega)]
    · intro j hj
      by_cases hji : j = i
      · subst hji
        rw [pk_us]
      · rw [pk_un hji]
        exact hlo j (by omega)
theorem ml_xrow {lev : Nat → Int32} {s w : Nat} {x y : Int32} (hw : 1 ≤ w) (hs : s + w ≤ 40) (hx : x = nI s) (hy : y = nI (s + w))
    (K : ∀ lev' : Nat → Int32, post (ml_rn (fun i => ml_lf (e i)) 6 s w) (E, c, e, h, lev')) : wpX_rowRoot post (E, c, e, h, lev) x y := by
  subst hx hy
  exact nm_r (ml_sb s w) ⟨w + 1, ml_x7 hw hs K w 0 lev (by omega) (fun j hj => absurd hj (by omega))⟩
end MLG
end
section
section MLH
/-! Y: the root of a row, by its own stack -/
variable {post : Int32 → SY → Prop} {E c : Int32} {e h : Nat → Int32}
theorem ml_yopen {P : SY → Prop} {F C S V : Nat → Int32} {t : Nat} {x a b : Int32} (ht : t < 100) (hx : x = nI t) (k : P (E, c, e, h, upd F t a, upd C t b, upd S t 0, V)) : wpY_open P (E, c, e, h, F, C, S, V) x a b := by
  subst hx
  have hi : vp_in (nI t) 100 := vp_in_nI ht (by omega)
  have hc : (nI t).toNatClampNeg = t := nI_clamp (by omega)
  refine ⟨hi, nm_r (e' := upd F t a) (by rw [hc]) ⟨hi, nm_r (e' := upd C t b) (by rw [hc]) ⟨hi, nm_r (e' := upd S t 0) (by rw [hc]) k⟩⟩⟩
/-- a leaf on top: one turn -/
theorem ml_y15a {F C S V : Nat → Int32} {N t st f : Nat} {dn : Int32} (ht : t < 100) (hst : st < 300) (hf : f < 40) (hF : F t = nI f) (hC : C t = nI 1)
    (k : wY_rootOf_15 post N (nI t + (-1)) (ml_lf (e f)) (nI (st + 1)) E c e h F C S V) : wY_rootOf_15 post (N + 1) (nI t) dn (nI st) E c e h F C S V := by
  have hi : vp_in (nI t) 100 := vp_in_nI ht (by omega)
  have hc : (nI t).toNatClampNeg = t := nI_clamp (by omega)
  have hfc : (nI f).toNatClampNeg = f := nI_clamp (by omega)
  have e1 : C (nI t).toNatClampNeg = 1 := by rw [hc, hC]; rfl
  have e2 : F (nI t).toNatClampNeg = nI f := by rw [hc, hF]
  have e3 : ¬ (40 : Int32) ≤ F (nI t).toNatClampNeg := by rw [e2]; exact nI_ge (a := f) (b := 40) hf (by omega)
  have e4 : vp_in (F (nI t).toNatClampNeg) 40 := by rw [e2]; exact vp_in_nI hf (by omega)
  have e5 : e (F (nI t).toNatClampNeg).toNatClampNeg = e f := by rw [e2, hfc]
  refine br_f (nI_ge (a := st) (b := 300) hst (by omega)) (br_f (nI_pos (by omega)) ⟨hi, br_t e1 ⟨hi, br_f e3 ⟨hi, e4, ?_⟩⟩⟩)
  rw [e5]
  refine ml_yleaf ?_
  exact nm_e (nm_r (nI_1 st) k)
/-- a row on top, not yet begun -/
theorem ml_y15b {F C S V : Nat → Int32} {N t st f n : Nat} {dn : Int32} (ht : t < 99) (hst : st < 300) (hn : 2 ≤ n) (hn4 : n ≤ 64) (hF : F t = nI f) (hC : C t = nI n) (hS : S t = 0)
    (k : wY_rootOf_15 post N (nI (t + 1)) dn (nI (st + 1)) E c e h (upd F (t + 1) (nI f)) (upd C (t + 1) (nI (ml_hf n))) (upd (upd S t 1) (t + 1) 0) V) : wY_rootOf_15 post (N + 1) (nI t) dn (nI st) E c e h F C S V := by
  have hi : vp_in (nI t) 100 := vp_in_nI (by omega) (by omega)
  have hc : (nI t).toNatClampNeg = t := nI_clamp (by omega)
  have e1 : ¬ C (nI t).toNatClampNeg = 1 := by rw [hc, hC]; exact fun z => absurd ((nI_eq (a := n) (b := 1) (by omega) (by omega)).mp z) (by omega)
  have e2 : F (nI t).toNatClampNeg = nI f := by rw [hc, hF]
  have e3 : C (nI t).toNatClampNeg = nI n := by rw [hc, hC]
  have e4 : S (nI t).toNatClampNeg = 0 := by rw [hc, hS]
  refine br_f (nI_ge (a := st) (b := 300) hst (by omega)) (br_f (nI_pos (by omega)) ⟨hi, br_f e1 ⟨hi, br_t e4 ⟨hi, nm_r (e' := upd S t 1) (by rw [hc]) ⟨hi, ?_⟩⟩⟩⟩)
  rw [e3]
  refine ml_yhalf (by omega) ?_
  refine ⟨hi, ?_⟩
  rw [e2]
  refine ml_yopen (t := t + 1) (by omega) (nI_1 t) ?_
  exact nm_r (nI_1 t) (nm_r (nI_1 st) k)
/-- its first part is done -/
theorem ml_y15c {F C S V : Nat → Int32} {N t st f n : Nat} {dn : Int32} (ht : t < 99) (hst : st < 300) (hn : 2 ≤ n) (hn4 : n ≤ 64) (hF : F t = nI f) (hC : C t = nI n) (hS : S t = 1)
    (k : wY_rootOf_15 post N (nI (t + 1)) dn (nI (st + 1)) E c e h (upd F (t + 1) (nI (f + ml_hf n))) (upd C (t + 1) (nI (n - ml_hf n))) (upd (upd S t 2) (t + 1) 0) (upd V t dn)) : wY_rootOf_15 post (N + 1) (nI t) dn (nI st) E c e h F C S V := by
  have hi : vp_in (nI t) 100 := vp_in_nI (by omega) (by omega)
  have hc : (nI t).toNatClampNeg = t := nI_clamp (by omega)
  have e1 : ¬ C (nI t).toNatClampNeg = 1 := by rw [hc, hC]; exact fun z => absurd ((nI_eq (a := n) (b := 1) (by omega) (by omega)).mp z) (by omega)
  have e2 : F (nI t).toNatClampNeg = nI f := by rw [hc, hF]
  have e3 : C (nI t).toNatClampNeg = nI n := by rw [hc, hC]
  have e4 : S (nI t).toNatClampNeg = 1 := by rw [hc, hS]
  have e5 : ¬ S (nI t).toNatClampNeg = 0 := by rw [e4]; exact ml_10
  have ha := ml_hf_a n (by omega) hn
  refine br_f (nI_ge (a := st) (b := 300) hst (by omega)) (br_f (nI_pos (by omega)) ⟨hi, br_f e1 ⟨hi, br_f e5 ⟨hi, br_t e4 ⟨hi, nm_r (e' := upd V t dn) (by rw [hc]) ⟨hi, nm_r (e' := upd S t 2) (by rw [hc]) ⟨hi, ?_⟩⟩⟩⟩⟩⟩)
  rw [e3]
  refine ml_yhalf (by omega) ?_
  refine ⟨hi, hi, ?_⟩
  rw [e2, nI_add, pk_sub (by omega)]
  refine ml_yopen (t := t + 1) (by omega) (nI_1 t) ?_
  exact nm_r (nI_1 t) (nm_r (nI_1 st) k)
/-- both are done -/
theorem ml_y15d {F C S V : Nat → Int32} {N t st n : Nat} {dn x : Int32} (ht : t < 100) (hst : st < 300) (hn : 2 ≤ n) (hn4 : n ≤ 64) (hC : C t = nI n) (hS : S t = 2) (hV : V t = x)
    (k : wY_rootOf_15 post N (nI t + (-1)) (ml_nd x dn) (nI (st + 1)) E c e h F C S V) : wY_rootOf_15 post (N + 1) (nI t) dn (nI st) E c e h F C S V := by
  have hi : vp_in (nI t) 100 := vp_in_nI (by omega) (by omega)
  have hc : (nI t).toNatClampNeg = t := nI_clamp (by omega)
  have e1 : ¬ C (nI t).toNatClampNeg = 1 := by rw [hc, hC]; exact fun z => absurd ((nI_eq (a := n) (b := 1) (by omega) (by omega)).mp z) (by omega)
  have e5 : ¬ S (nI t).toNatClampNeg = 0 := by rw [hc, hS]; decide
  have e6 : ¬ S (nI t).toNatClampNeg = 1 := by rw [hc, hS]; decide
  have e7 : V (nI t).toNatClampNeg = x := by rw [hc, hV]
  refine br_f (nI_ge (a := st) (b := 300) hst (by omega)) (br_f (nI_pos (by omega)) ⟨hi, br_f e1 ⟨hi, br_f e5 ⟨hi, br_f e6 ⟨hi, ?_⟩⟩⟩⟩)
  rw [e7]
  refine ml_ynode ?_
  exact nm_e (nm_r (nI_1 st) k)
theorem ml_y15 : ∀ (d n f t st N : Nat) (dn : Int32) (F C S V : Nat → Int32), d ≤ 6 → 1 ≤ n → n ≤ 2 ^ d → f + n ≤ 40 → t + d < 99 → st + (4 * n - 3) ≤ 300 → F t = nI f → C t = nI n → S t = 0 →
    (∀ F' C' S' V' : Nat → Int32, (∀ j, j < t → F' j = F j) → (∀ j, j < t → C' j = C j) → (∀ j, j < t → S' j = S j) → (∀ j, j < t → V' j = V j) → wY_rootOf_15 post N (nI t + (-1)) (ml_rn (fun i => ml_lf (e i)) d f n) (nI (st + (4 * n - 3))) E c e h F' C' S' V') →
    wY_rootOf_15 post (N + (4 * n - 3)) (nI t) dn (nI st) E c e h F C S V := by
  intro d
  induction d with
  | zero =>
    intro n f t st N dn F C S V hd h1 hp hf ht hst hF hC hS K
    have hn : n = 1 := by omega
    subst hn
    exact ml_y15a (by omega) (by omega) (by omega) hF hC (K F C S V (fun _ _ => rfl) (fun _ _ => rfl) (fun _ _ => rfl) (fun _ _ => rfl))
  | succ d ih =>
    intro n f t st N dn F C S V hd h1 hp hf ht hst hF hC hS K
    by_cases hn1 : n = 1
    · subst hn1
      exact ml_y15a (by omega) (by omega) (by omega) hF hC (K F C S V (fun _ _ => rfl) (fun _ _ => rfl) (fun _ _ => rfl) (fun _ _ => rfl))
    · have ha := ml_hf_a n (by omega) (by omega)
      have hD := ml_hf_d d (by omega) n (by omega) (by omega) hp
      rw [show N + (4 * n - 3) = (N + 1 + (4 * (n - ml_hf n) - 3) + 1 + (4 * ml_hf n - 3)) + 1 from by omega]
      refine ml_y15b (by omega) (by omega) (by omega) (by omega) hF hC hS ?_
      refine ih (ml_hf n) f (t + 1) (st + 1) _ dn _ _ _ _ (by omega) ha.1 hD.1 (by omega) (by omega) (by omega) pk_us pk_us pk_us ?_
      intro F2 C2 S2 V2 hF2 hC2 hS2 hV2
      rw [pk_m1]
      refine ml_y15c (f := f) (n := n) (by omega) (by omega) (by omega) (by omega) ?_ ?_ ?_ ?_
      · rw [hF2 t (by omega), pk_un (by omega), hF]
      · rw [hC2 t (by omega), pk_un (by omega), hC]
      · rw [hS2 t (by omega), pk_un (by omega), pk_us]
      refine ih (n - ml_hf n) (f + ml_hf n) (t + 1) _ _ _ _ _ _ _ (by omega) (by omega) hD.2 (by omega) (by omega) (by omega) pk_us pk_us pk_us ?_
      intro F4 C4 S4 V4 hF4 hC4 hS4 hV4
      rw [pk_m1]
      refine ml_y15d (n := n) (by omega) (by omega) (by omega) (by omega) (x := ml_rn (fun i => ml_lf (e i)) d f (ml_hf n)) ?_ ?_ ?_ ?_
      · rw [hC4 t (by omega), pk_un (by omega), hC2 t (by omega), pk_un (by omega), hC]
      · rw [hS4 t (by omega), pk_un (by omega), pk_us]
      · rw [hV4 t (by omega), pk_us]
      have q := K F4 C4 S4 V4 (fun j hj => by rw [hF4 j (by omega), pk_un (by omega), hF2 j (by omega), pk_un (by omega)]) (fun j hj => by rw [hC4 j (by omega), pk_un (by omega), hC2 j (by omega), pk_un (by omega)]) (fun j hj => by rw [hS4 j (by omega), pk_un (by omega), pk_un (by omega), hS2 j (by omega), pk_un (by omega), pk_un (by omega)]) (fun j hj => by rw [hV4 j (by omega), pk_un (by omega), hV2 j (by omega)])
      rw [ml_rn_s (by omega)] at q
      rw [show st + 1 + (4 * ml_hf n - 3) + 1 + (4 * (n - ml_hf n) - 3) + 1 = st + (4 * n - 3) from by omega]
      exact q
theorem ml_yroot {F C S V : Nat → Int32} {f n : Nat} {x y : Int32} (h1 : 1 ≤ n) (hf : f + n ≤ 40) (hx : x = nI f) (hy : y = nI n)
    (K : ∀ F' C' S' V' : Nat → Int32, post (ml_rn (fun i => ml_lf (e i)) 6 f n) (E, c, e, h, F', C', S', V')) : wpY_rootOf post (E, c, e, h, F, C, S, V) x y := by
  subst hx hy
  unfold wpY_rootOf
  refine ml_yopen (t := 0) (by omega) rfl ?_
  refine ⟨1 + (4 * n - 3), ?_⟩
  refine ml_y15 6 n f 0 0 1 0 _ _ _ _ (by omega) h1 (by omega) hf (by omega) (by omega) pk_us pk_us pk_us ?_
  intro F' C' S' V' _ _ _ _
  exact br_f (nI_ge (a := 0 + (4 * n - 3)) (b := 300) (by omega) (by omega)) (br_t (by decide) (K F' C' S' V'))
end MLH
end
section
section MLI
/-! the hand: put at its end, turned round -/
variable {E : Int32} {e : Nat → Int32}
theorem ml_xtake {post : Int32 → SX → Prop} {h lev : Nat → Int32} {c : Nat} {x : Int32} (hc : c < 16) (K : post (nI (c + 1)) (E, nI (c + 1), e, upd h c x, lev)) : wpX_take post (E, nI c, e, h, lev) x := by
  refine br_t (nI_lt (a := c) (b := 16) hc (by omega)) ⟨pk_in c 16 hc, ?_⟩
  exact nm_r (e' := upd h c x) (by rw [nI_clamp (by omega)]) (nm_r (nI_1 c) K)
theorem ml_xhold {post : SX → Prop} {h lev : Nat → Int32} {c s w : Nat} {x y : Int32} (hc : c < 16) (hw : 1 ≤ w) (hs : s + w ≤ 40) (hx : x = nI s) (hy : y = nI (s + w))
    (K : ∀ lev' : Nat → Int32, post (E, nI (c + 1), e, upd h c (ml_rn (fun i => ml_lf (e i)) 6 s w), lev')) : wpX_holdRoot post (E, nI c, e, h, lev) x y := by
  unfold wpX_holdRoot
  refine ml_xrow hw hs hx hy (fun lev' => ?_)
  refine ml_xtake hc ?_
  exact K lev'
theorem ml_xturn_l {post : SX → Prop} {lev : Nat → Int32} {c : Nat} (hc : c ≤ 16) : ∀ (d i : Nat) (h : Nat → Int32), i + d = c / 2 → post (E, nI c, e, ml_tr c d i h, lev) → wX_turnHand_2 post E (nI c) (d + 1) (nI i) e h lev := by
  intro d
  induction d with
  | zero =>
    intro i h hi K
    refine ⟨ml_20, pk_le (c / 2) i (fun _ => K) (fun z => absurd z (by omega)) (ml_d2 (by omega)) rfl⟩
  | succ d ih =>
    intro i h hi K
    have hm : nI c - 1 - nI i = nI (c - 1 - i) := ml_mi (by omega)
    have c1 : (nI i).toNatClampNeg = i := nI_clamp (by omega)
    have c2 : (nI (c - 1 - i)).toNatClampNeg = c - 1 - i := nI_clamp (by omega)
    have i1 : vp_in (nI i) 16 := vp_in_nI (by omega) (by omega)
    have i2 : vp_in (nI (c - 1 - i)) 16 := vp_in_nI (by omega) (by omega)
    refine ⟨ml_20, pk_le (c / 2) i (fun z => absurd z (by omega)) (fun _ => ?_) (ml_d2 (by omega)) rfl⟩
    refine nm_r hm ⟨i1, nm_r (e' := h i) (by rw [c1]) ⟨i2, i1, nm_r (e' := upd h i (h (c - 1 - i))) (by rw [c1, c2]) ⟨i2, nm_r (e' := upd (upd h i (h (c - 1 - i))) (c - 1 - i) (h i)) (by rw [c2]) (nm_r (nI_1 i) ?_)⟩⟩⟩
    exact ih (i + 1) _ (by omega) K
theorem ml_xturn {post : SX → Prop} {h lev : Nat → Int32} {c : Nat} (hc : c ≤ 16) (K : post (E, nI c, e, ml_tr c (c / 2) 0 h, lev)) : wpX_turnHand post (E, nI c, e, h, lev) :=
  ⟨c / 2 + 1, ml_xturn_l hc (c / 2) 0 h (by omega) K⟩
theorem ml_yhold {post : SY → Prop} {h F C S V : Nat → Int32} {c : Nat} {x : Int32} (hc : c < 16) (K : post (E, nI (c + 1), e, upd h c x, F, C, S, V)) : wpY_hold post (E, nI c, e, h, F, C, S, V) x := by
  refine br_f (nI_ge (a := c) (b := 16) hc (by omega)) ⟨pk_in c 16 hc, ?_⟩
  exact nm_r (e' := upd h c x) (by rw [nI_clamp (by omega)]) (nm_r (nI_1 c) K)
theorem ml_yturn_l {post : SY → Prop} {F C S V : Nat → Int32} {c : Nat} (hc : c ≤ 16) : ∀ (d i : Nat) (h : Nat → Int32), i + d = c / 2 → post (E, nI c, e, ml_tr c d i h, F, C, S, V) → wY_turnHand_2 post E (nI c) (d + 1) (nI i) e h F C S V := by
  intro d
  induction d with
  | zero =>
    intro i h hi K
    by_cases h0 : c = 0
    · subst h0
      have hi0 : i = 0 := by omega
      subst hi0
      exact br_t (by decide) K
    · exact pk_le (c - 1 - i) i (fun _ => K) (fun z => absurd z (by omega)) (ml_mi (by omega)) rfl
  | succ d ih =>
    intro i h hi K
    have hm : nI c - 1 - nI i = nI (c - 1 - i) := ml_mi (by omega)
    have c1 : (nI i).toNatClampNeg = i := nI_clamp (by omega)
    have c2 : (nI c - 1 - nI i).toNatClampNeg = c - 1 - i := by rw [hm]; exact nI_clamp (by omega)
    have i1 : vp_in (nI i) 16 := vp_in_nI (by omega) (by omega)
    have i2 : vp_in (nI c - 1 - nI i) 16 := by rw [hm]; exact vp_in_nI (by omega) (by omega)
    refine pk_le (c - 1 - i) i (fun z => absurd z (by omega)) (fun _ => ?_) hm rfl
    refine ⟨i1, nm_r (e' := h i) (by rw [c1]) ⟨i2, i1, nm_r (e' := upd h i (h (c - 1 - i))) (by rw [c1, c2]) ⟨i2, nm_r (e' := upd (upd h i (h (c - 1 - i))) (c - 1 - i) (h i)) (by rw [c2]) (nm_r (nI_1 i) ?_)⟩⟩⟩
    exact ih (i + 1) _ (by omega) K
theorem ml_yturn {post : SY → Prop} {h F C S V : Nat → Int32} {c : Nat} (hc : c ≤ 16) (K : post (E, nI c, e, ml_tr c (c / 2) 0 h, F, C, S, V)) : wpY_turnHand post (E, nI c, e, h, F, C, S, V) :=
  ⟨c / 2 + 1, ml_yturn_l hc (c / 2) 0 h (by omega) K⟩
end MLI
section MLJ
/-! paths -/
variable {E : Int32} {e : Nat → Int32}
theorem ml_ph_1 {l h : Nat → Int32} {d f n m c : Nat} (h1 : n ≤ 1) : ml_ph l (d + 1) f n m h c = (h, c) := if_pos h1
theorem ml_ph_a {l h : Nat → Int32} {d f n m c : Nat} (h1 : 2 ≤ n) (h2 : m < ml_hf n) : ml_ph l (d + 1) f n m h c = ml_ph l d f (ml_hf n) m (upd h c (ml_rn l 6 (f + ml_hf n) (n - ml_hf n))) (c + 1) :=
  (if_neg (by omega)).trans (if_pos h2)
theorem ml_ph_b {l h : Nat → Int32} {d f n m c : Nat} (h1 : 2 ≤ n) (h2 : ml_hf n ≤ m) : ml_ph l (d + 1) f n m h c = ml_ph l d (f + ml_hf n) (n - ml_hf n) (m - ml_hf n) (upd h c (ml_rn l 6 f (ml_hf n))) (c + 1) :=
  (if_neg (by omega)).trans (if_neg (by omega))
theorem ml_ph_c {l : Nat → Int32} : ∀ (d f n m : Nat) (h : Nat → Int32) (c : Nat), (ml_ph l d f n m h c).2 ≤ c + d := by
  intro d
  induction d with
  | zero => intro f n m h c; exact Nat.le_refl c
  | succ d ih =>
    intro f n m h c
    by_cases h1 : n ≤ 1
    · rw [ml_ph_1 h1]; exact Nat.le_add_right _ _
    · by_cases h2 : m < ml_hf n
      · rw [ml_ph_a (by omega) h2]
        have := ih f (ml_hf n) m (upd h c (ml_rn l 6 (f + ml_hf n) (n - ml_hf n))) (c + 1)
        omega
      · rw [ml_ph_b (by omega) (by omega)]
        have := ih (f + ml_hf n) (n - ml_hf n) (m - ml_hf n) (upd h c (ml_rn l 6 f (ml_hf n))) (c + 1)
        omega
theorem ml_xpath {post : Int32 → SX → Prop} {m0 : Nat} (hm0 : m0 < 40) : ∀ (d r s n m : Nat) (h : Nat → Int32) (c : Nat) (lev : Nat → Int32) (y : Int32), r + d = 6 → 1 ≤ n → s + n ≤ 40 → m < n → m0 = s + m → c + d ≤ 16 → y = nI (s + n) →
    (∀ lev' : Nat → Int32, wX_path_97 post E (nI (ml_ph (fun i => ml_lf (e i)) d s n m h c).2) e (ml_ph (fun i => ml_lf (e i)) d s n m h c).1 lev') →
    wX_path_37 post (nI m0) (d + 1) (nI s) y (nI r) E (nI c) e h lev := by
  intro d
  induction d with
  | zero =>
    intro r s n m h c lev y hr h1 hs hm em hc hy K
    exact br_t (nI_le (a := 6) (b := r) (by omega) (by omega)) (K lev)
  | succ d ih =>
    intro r s n m h c lev y hr h1 hs hm em hc hy K
    subst hy
    refine br_f (nI_ge (a := r) (b := 6) (by omega) (by omega)) ?_
    refine pk_le n 1 (fun hn => ?_) (fun hn => ?_) (ml_sb s n) rfl
    · have q := K lev
      rw [ml_ph_1 hn] at q
      exact q
    · have ha := ml_hf_a n (by omega) (by omega)
      refine ml_xmid (by omega) ?_
      refine pk_le (s + ml_hf n) m0 (fun hk => ?_) (fun hk => ?_)
      · rw [ml_ph_b (by omega) (by omega)] at K
        refine ml_xhold (by omega) (w := ml_hf n) ha.1 (by omega) rfl rfl (fun lev' => ?_)
        exact nm_r (nI_1 r) (ih (r + 1) (s + ml_hf n) (n - ml_hf n) (m - ml_hf n) _ (c + 1) lev' _ (by omega) (by omega) (by omega) (by omega) (by omega) (by omega) (congrArg nI (by omega)) K)
      · rw [ml_ph_a (by omega) (by omega)] at K
        refine ml_xhold (by omega) (s := s + ml_hf n) (w := n - ml_hf n) (by omega) (by omega) rfl (congrArg nI (by omega)) (fun lev' => ?_)
        exact nm_r (nI_1 r) (ih (r + 1) s (ml_hf n) m _ (c + 1) lev' _ (by omega) (by omega) (by omega) (by omega) (by omega) (by omega) rfl K)
theorem ml_ypath {post : Int32 → SY → Prop} : ∀ (d r f n m : Nat) (h : Nat → Int32) (c : Nat) (F C S V : Nat → Int32) (x y z : Int32), r + d = 6 → 1 ≤ n → f + n ≤ 40 → m < n → c + d ≤ 16 → x = nI f → y = nI n → z = nI m →
    (∀ F' C' S' V' : Nat → Int32, wY_path_158 post E (nI (ml_ph (fun i => ml_lf (e i)) d f n m h c).2) e (ml_ph (fun i => ml_lf (e i)) d f n m h c).1 F' C' S' V') →
    wY_path_40 post (d + 1) x y z (nI r) E (nI c) e h F C S V := by
  intro d
  induction d with
  | zero =>
    intro r f n m h c F C S V x y z hr h1 hs hm hc hx hy hz K
    exact br_t (nI_le (a := 6) (b := r) (by omega) (by omega)) (K F C S V)
  | succ d ih =>
    intro r f n m h c F C S V x y z hr h1 hs hm hc hx hy hz K
    subst hx hy hz
    refine br_f (nI_ge (a := r) (b := 6) (by omega) (by omega)) ?_
    refine pk_le n 1 (fun hn => ?_) (fun hn => ?_)
    · have q := K F C S V
      rw [ml_ph_1 hn] at q
      exact q
    · have ha := ml_hf_a n (by omega) (by omega)
      refine ml_yhalf (by omega) ?_
      refine pk_le (ml_hf n) m (fun hk => ?_) (fun hk => ?_)
      · have hq : nI (ml_hf n) ≤ nI m := nI_le hk (by omega)
        rw [ml_ph_b (by omega) hk] at K
        refine ml_yroot ha.1 (by omega) rfl rfl (fun F' C' S' V' => ?_)
        refine ml_yhold (by omega) ?_
        refine br_t hq (br_t hq (br_t hq (nm_e (nm_r (nI_1 r) ?_))))
        exact ih (r + 1) (f + ml_hf n) (n - ml_hf n) (m - ml_hf n) _ (c + 1) F' C' S' V' _ _ _ (by omega) (by omega) (by omega) (by omega) (by omega) (nI_add _ _) (pk_sub (by omega)) (pk_sub (by omega)) K
      · have hq : ¬ nI (ml_hf n) ≤ nI m := nI_ge hk (by omega)
        rw [ml_ph_a (by omega) hk] at K
        refine ml_yroot (f := f + ml_hf n) (n := n - ml_hf n) (by omega) (by omega) (nI_add _ _) (pk_sub (by omega)) (fun F' C' S' V' => ?_)
        refine ml_yhold (by omega) ?_
        refine br_f hq (br_f hq (br_f hq (nm_r (nI_1 r) ?_)))
        exact ih (r + 1) f (ml_hf n) m _ (c + 1) F' C' S' V' _ _ _ (by omega) (by omega) (by omega) (by omega) (by omega) rfl rfl rfl K
end MLJ
end
section
section MLK
/-! steps -/
variable {E : Int32} {e : Nat → Int32}
def ml_sh (l : Nat → Int32) : Nat → Nat → Nat → Nat → (Nat → Int32) → Nat → (Nat → Int32) × Nat × Nat × Nat
  | 0, f, n, _, h, c => (h, c, f, n)
  | d + 1, f, n, m, h, c => if n ≤ m then (h, c, f, n) else if m ≤ ml_hf n then ml_sh l d f (ml_hf n) m (upd h c (ml_rn l 6 (f + ml_hf n) (n - ml_hf n))) (c + 1) else ml_sh l d (f + ml_hf n) (n - ml_hf n) (m - ml_hf n) (upd h c (ml_rn l 6 f (ml_hf n))) (c + 1)
theorem ml_sh_1 {l h : Nat → Int32} {d f n m c : Nat} (h1 : n ≤ m) : ml_sh l (d + 1) f n m h c = (h, c, f, n) := if_pos h1
theorem ml_sh_a {l h : Nat → Int32} {d f n m c : Nat} (h1 : m < n) (h2 : m ≤ ml_hf n) : ml_sh l (d + 1) f n m h c = ml_sh l d f (ml_hf n) m (upd h c (ml_rn l 6 (f + ml_hf n) (n - ml_hf n))) (c + 1) :=
  (if_neg (by omega)).trans (if_pos h2)
theorem ml_sh_b {l h : Nat → Int32} {d f n m c : Nat} (h1 : m < n) (h2 : ml_hf n < m) : ml_sh l (d + 1) f n m h c = ml_sh l d (f + ml_hf n) (n - ml_hf n) (m - ml_hf n) (upd h c (ml_rn l 6 f (ml_hf n))) (c + 1) :=
  (if_neg (by omega)).trans (if_neg (by omega))
theorem ml_sh_c {l : Nat → Int32} : ∀ (d f n m : Nat) (h : Nat → Int32) (c : Nat), 1 ≤ m → m ≤ n → f + n ≤ 40 → (ml_sh l d f n m h c).2.1 ≤ c + d ∧ 1 ≤ (ml_sh l d f n m h c).2.2.2 ∧ (ml_sh l d f n m h c).2.2.1 + (ml_sh l d f n m h c).2.2.2 ≤ 40 := by
  intro d
  induction d with
  | zero => intro f n m h c h1 h2 h3; exact ⟨Nat.le_refl c, Nat.le_trans h1 h2, h3⟩
  | succ d ih =>
    intro f n m h c h1 h2 h3
    by_cases h4 : n ≤ m
    · rw [ml_sh_1 h4]; exact ⟨Nat.le_add_right _ _, Nat.le_trans h1 h2, h3⟩
    · have ha := ml_hf_a n (by omega) (by omega)
      by_cases h5 : m ≤ ml_hf n
      · rw [ml_sh_a (by omega) h5]
        have := ih f (ml_hf n) m (upd h c (ml_rn l 6 (f + ml_hf n) (n - ml_hf n))) (c + 1) h1 h5 (by omega)
        omega
      · rw [ml_sh_b (by omega) (by omega)]
        have := ih (f + ml_hf n) (n - ml_hf n) (m - ml_hf n) (upd h c (ml_rn l 6 f (ml_hf n))) (c + 1) (by omega) (by omega) (by omega)
        omega
def ml_sf (l h : Nat → Int32) (c f n : Nat) : (Nat → Int32) × Nat := if f = 0 then (h, c) else (upd h c (ml_rn l 6 f n), c + 1)
theorem ml_sf_0 {l h : Nat → Int32} {c f n : Nat} (h0 : f = 0) : ml_sf l h c f n = (h, c) := if_pos h0
theorem ml_sf_1 {l h : Nat → Int32} {c f n : Nat} (h0 : ¬ f = 0) : ml_sf l h c f n = (upd h c (ml_rn l 6 f n), c + 1) := if_neg h0
theorem ml_sf_c {l h : Nat → Int32} {c f n : Nat} : (ml_sf l h c f n).2 ≤ c + 1 := by
  by_cases h0 : f = 0
  · rw [ml_sf_0 h0]; exact Nat.le_add_right _ _
  · rw [ml_sf_1 h0]; exact Nat.le_refl _
theorem ml_xs91 {post : Int32 → SX → Prop} {h lev : Nat → Int32} {c f n : Nat} (hc : c < 16) (h1 : 1 ≤ n) (hf : f + n ≤ 40)
    (K : ∀ lev' : Nat → Int32, wX_steps_102 post E (nI (ml_sf (fun i => ml_lf (e i)) h c f n).2) e (ml_sf (fun i => ml_lf (e i)) h c f n).1 lev') :
    wX_steps_91 post (nI f) (nI (f + n)) E (nI c) e h lev := by
  refine pk_le f 0 (fun h0 => ?_) (fun h0 => ?_)
  · rw [ml_sf_0 (by omega)] at K
    exact K lev
  · rw [ml_sf_1 (by omega)] at K
    refine ml_xhold hc h1 hf rfl rfl (fun lev' => ?_)
    exact K lev'
theorem ml_ys177 {post : Int32 → SY → Prop} {h F C S V : Nat → Int32} {c f n : Nat} {x y g : Int32} (hc : c < 16) (h1 : 1 ≤ n) (hf : f + n ≤ 40) (hx : x = nI f) (hy : y = nI n) (hg : g = if f = 0 then 1 else 0)
    (K : ∀ F' C' S' V' : Nat → Int32, wY_steps_197 post E (nI (ml_sf (fun i => ml_lf (e i)) h c f n).2) e (ml_sf (fun i => ml_lf (e i)) h c f n).1 F' C' S' V') :
    wY_steps_177 post x y g E (nI c) e h F C S V := by
  subst hx hy
  by_cases h0 : f = 0
  · rw [if_pos h0] at hg
    rw [ml_sf_0 h0] at K
    subst hg
    exact br_f ml_10 (K F C S V)
  · rw [if_neg h0] at hg
    rw [ml_sf_1 h0] at K
    subst hg
    refine br_t rfl ?_
    refine ml_yroot h1 hf rfl rfl (fun F' C' S' V' => ?_)
    refine ml_yhold hc ?_
    exact K F' C' S' V'
theorem ml_xsteps {post : Int32 → SX → Prop} {m0 : Nat} (hm0 : m0 ≤ 40) : ∀ (d r s n m : Nat) (h : Nat → Int32) (c : Nat) (lev : Nat → Int32) (y : Int32), r + d = 6 → 1 ≤ m → s + n ≤ 40 → m ≤ n → m0 = s + m → c + d ≤ 16 → y = nI (s + n) →
    (∀ lev' : Nat → Int32, wX_steps_91 post (nI (ml_sh (fun i => ml_lf (e i)) d s n m h c).2.2.1) (nI ((ml_sh (fun i => ml_lf (e i)) d s n m h c).2.2.1 + (ml_sh (fun i => ml_lf (e i)) d s n m h c).2.2.2)) E (nI (ml_sh (fun i => ml_lf (e i)) d s n m h c).2.1) e (ml_sh (fun i => ml_lf (e i)) d s n m h c).1 lev') →
    wX_steps_33 post (nI m0) (d + 1) (nI s) y (nI r) E (nI c) e h lev := by
  intro d
  induction d with
  | zero =>
    intro r s n m h c lev y hr h1 hs hm em hc hy K
    subst hy
    exact br_t (nI_le (a := 6) (b := r) (by omega) (by omega)) (K lev)
  | succ d ih =>
    intro r s n m h c lev y hr h1 hs hm em hc hy K
    subst hy
    refine br_f (nI_ge (a := r) (b := 6) (by omega) (by omega)) ?_
    refine pk_le (s + n) m0 (fun hn => ?_) (fun hn => ?_)
    · have q := K lev
      rw [ml_sh_1 (by omega)] at q
      exact q
    · have ha := ml_hf_a n (by omega) (by omega)
      refine ml_xmid (by omega) ?_
      refine pk_lt (s + ml_hf n) m0 (fun hk => ?_) (fun hk => ?_)
      · rw [ml_sh_b (by omega) (by omega)] at K
        refine ml_xhold (by omega) (w := ml_hf n) ha.1 (by omega) rfl rfl (fun lev' => ?_)
        exact nm_r (nI_1 r) (ih (r + 1) (s + ml_hf n) (n - ml_hf n) (m - ml_hf n) _ (c + 1) lev' _ (by omega) (by omega) (by omega) (by omega) (by omega) (by omega) (congrArg nI (by omega)) K)
      · rw [ml_sh_a (by omega) (by omega)] at K
        refine ml_xhold (by omega) (s := s + ml_hf n) (w := n - ml_hf n) (by omega) (by omega) rfl (congrArg nI (by omega)) (fun lev' => ?_)
        exact nm_r (nI_1 r) (ih (r + 1) s (ml_hf n) m _ (c + 1) lev' _ (by omega) (by omega) (by omega) (by omega) (by omega) (by omega) rfl K)
theorem ml_ysteps {post : Int32 → SY → Prop} : ∀ (d r f n m : Nat) (h : Nat → Int32) (c : Nat) (F C S V : Nat → Int32) (x y z g : Int32), r + d = 6 → 1 ≤ m → f + n ≤ 40 → m ≤ n → c + d ≤ 16 → x = nI f → y = nI n → z = nI m → g = (if f = 0 then 1 else 0) →
    (∀ (F' C' S' V' : Nat → Int32) (x y g : Int32), x = nI (ml_sh (fun i => ml_lf (e i)) d f n m h c).2.2.1 → y = nI (ml_sh (fun i => ml_lf (e i)) d f n m h c).2.2.2 → g = (if (ml_sh (fun i => ml_lf (e i)) d f n m h c).2.2.1 = 0 then 1 else 0) → wY_steps_177 post x y g E (nI (ml_sh (fun i => ml_lf (e i)) d f n m h c).2.1) e (ml_sh (fun i => ml_lf (e i)) d f n m h c).1 F' C' S' V') →
    wY_steps_39 post (d + 1) x y z g (nI r) E (nI c) e h F C S V := by
  intro d
  induction d with
  | zero =>
    intro r f n m h c F C S V x y z g hr h1 hs hm hc hx hy hz hg K
    exact br_t (nI_le (a := 6) (b := r) (by omega) (by omega)) (K F C S V x y g hx hy hg)
  | succ d ih =>
    intro r f n m h c F C S V x y z g hr h1 hs hm hc hx hy hz hg K
    subst hx hy hz
    refine br_f (nI_ge (a := r) (b := 6) (by omega) (by omega)) ?_
    refine pk_le n m (fun hn => ?_) (fun hn => ?_)
    · have q := K F C S V (nI f) (nI n) g
      rw [ml_sh_1 hn] at q
      exact q rfl rfl hg
    · have ha := ml_hf_a n (by omega) (by omega)
      refine ml_yhalf (by omega) ?_
      refine pk_lt (ml_hf n) m (fun hk => ?_) (fun hk => ?_)
      · have hq : nI (ml_hf n) < nI m := nI_lt hk (by omega)
        rw [ml_sh_b hn hk] at K
        refine ml_yroot ha.1 (by omega) rfl rfl (fun F' C' S' V' => ?_)
        refine ml_yhold (by omega) ?_
        have A : wY_steps_114 post (wY_steps_39 post (d + 1)) (nI f) (nI n) (nI m) (nI r) (nI (ml_hf n)) E (nI (c + 1)) e (upd h c (ml_rn (fun i => ml_lf (e i)) 6 f (ml_hf n))) F' C' S' V' := by
          refine br_t hq (br_t hq (br_t hq (nm_e (nm_r (nI_1 r) ?_))))
          exact ih (r + 1) (f + ml_hf n) (n - ml_hf n) (m - ml_hf n) _ (c + 1) F' C' S' V' _ _ _ _ (by omega) (by omega) (by omega) (by omega) (by omega) (nI_add _ _) (pk_sub (by omega)) (pk_sub (by omega)) (if_neg (by omega)).symm K
        exact br_c (fun _ => A) (fun _ => br_t hq A)
      · have hq : ¬ nI (ml_hf n) < nI m := nI_nlt hk (by omega)
        rw [ml_sh_a hn hk] at K
        refine ml_yroot (f := f + ml_hf n) (n := n - ml_hf n) (by omega) (by omega) (nI_add _ _) (pk_sub (by omega)) (fun F' C' S' V' => ?_)
        refine ml_yhold (by omega) ?_
        have A : wY_steps_115 post (wY_steps_39 post (d + 1)) (nI f) (nI n) (nI m) (nI r) (nI (ml_hf n)) g E (nI (c + 1)) e (upd h c (ml_rn (fun i => ml_lf (e i)) 6 (f + ml_hf n) (n - ml_hf n))) F' C' S' V' := by
          refine br_f hq (br_f hq (br_f hq (nm_r (nI_1 r) ?_)))
          exact ih (r + 1) f (ml_hf n) m _ (c + 1) F' C' S' V' _ _ _ _ (by omega) (by omega) (by omega) (by omega) (by omega) rfl rfl rfl hg K
        by_cases h0 : f = 0
        · rw [if_pos h0] at hg
          subst hg
          exact br_f ml_10 (br_f hq A)
        · rw [if_neg h0] at hg
          subst hg
          exact br_t rfl A
end MLK
end
section
section MLL
/-! the way up, the depth, the turns -/
theorem ml_wy_1 {d n m w : Nat} (h : n ≤ 1) : ml_wy (d + 1) n m w = w := if_pos h
theorem ml_wy_a {d n m w : Nat} (h : 2 ≤ n) (h2 : m < ml_hf n) : ml_wy (d + 1) n m w = ml_wy d (ml_hf n) m (w * 2) := (if_neg (by omega)).trans (if_pos h2)
theorem ml_wy_b {d n m w : Nat} (h : 2 ≤ n) (h2 : ml_hf n ≤ m) : ml_wy (d + 1) n m w = ml_wy d (n - ml_hf n) (m - ml_hf n) (w * 2 + 1) := (if_neg (by omega)).trans (if_neg (by omega))
theorem ml_dp_1 {d n m w : Nat} (h : n ≤ 1) : ml_dp (d + 1) n m w = w := if_pos h
theorem ml_dp_a {d n m w : Nat} (h : 2 ≤ n) (h2 : m < ml_hf n) : ml_dp (d + 1) n m w = ml_dp d (ml_hf n) m (w + 1) := (if_neg (by omega)).trans (if_pos h2)
theorem ml_dp_b {d n m w : Nat} (h : 2 ≤ n) (h2 : ml_hf n ≤ m) : ml_dp (d + 1) n m w = ml_dp d (n - ml_hf n) (m - ml_hf n) (w + 1) := (if_neg (by omega)).trans (if_neg (by omega))
theorem ml_fs_1 {d n m : Nat} (h : n ≤ 1) : ml_fs (d + 1) n m = false := if_pos h
theorem ml_fs_a {d n m : Nat} (h : 2 ≤ n) (h2 : m < ml_hf n) : ml_fs (d + 1) n m = ml_fs d (ml_hf n) m := (if_neg (by omega)).trans (if_pos h2)
theorem ml_fs_b {d n m : Nat} (h : 2 ≤ n) (h2 : ml_hf n ≤ m) : ml_fs (d + 1) n m = ml_fs d (n - ml_hf n) (m - ml_hf n) := (if_neg (by omega)).trans (if_neg (by omega))
theorem ml_fs_0 {n m : Nat} : ml_fs 0 n m = (decide (1 < n) && decide (m < ml_hf n)) := rfl
theorem ml_xway_l {post : Int32 → Prop} {m0 : Nat} (hm0 : m0 < 40) : ∀ (d r s n m w : Nat) (y : Int32), r + d = 6 → 1 ≤ n → s + n ≤ 40 → m < n → m0 = s + m → y = nI (s + n) → post (nI (ml_wy d n m w)) → wX_wayUp_10 post (nI m0) (d + 1) (nI w) (nI s) y (nI r) := by
  intro d
  induction d with
  | zero =>
    intro r s n m w y hr h1 hs hm em hy K
    exact br_t (nI_le (a := 6) (b := r) (by omega) (by omega)) K
  | succ d ih =>
    intro r s n m w y hr h1 hs hm em hy K
    subst hy
    refine br_f (nI_ge (a := r) (b := 6) (by omega) (by omega)) ?_
    refine pk_le n 1 (fun hn => ?_) (fun hn => ?_) (ml_sb s n) rfl
    · rw [ml_wy_1 hn] at K
      exact K
    · have ha := ml_hf_a n (by omega) (by omega)
      refine ml_xmid (by omega) ?_
      refine pk_le (s + ml_hf n) m0 (fun hk => ?_) (fun hk => ?_)
      · rw [ml_wy_b (by omega) (by omega)] at K
        exact nm_r (e' := nI (w * 2 + 1)) (by rw [ml_n2, nI_1]) (nm_r (nI_1 r) (ih (r + 1) (s + ml_hf n) (n - ml_hf n) (m - ml_hf n) _ _ (by omega) (by omega) (by omega) (by omega) (by omega) (congrArg nI (by omega)) K))
      · rw [ml_wy_a (by omega) (by omega)] at K
        exact nm_r (ml_n2 w) (nm_r (nI_1 r) (ih (r + 1) s (ml_hf n) m _ _ (by omega) (by omega) (by omega) (by omega) (by omega) rfl K))
theorem ml_xway {post : Int32 → Prop} {n m : Nat} (h1 : n ≤ 40) (hm : m < n) (K : post (nI (ml_wy 6 n m 1))) : wpX_wayUp post (nI m) (nI n) :=
  ⟨7, ml_xway_l (by omega) 6 0 0 n m 1 (nI n) rfl (by omega) (by omega) hm (by omega) (congrArg nI (by omega)) K⟩
theorem ml_ydep_l {post : Int32 → Prop} : ∀ (d r n m w : Nat) (y z : Int32), r + d = 6 → 1 ≤ n → n ≤ 40 → m < n → y = nI n → z = nI m → post (nI (ml_dp d n m w)) → wY_depth_10 post (d + 1) (nI w) y z (nI r) := by
  intro d
  induction d with
  | zero =>
    intro r n m w y z hr h1 hs hm hy hz K
    exact br_t (nI_le (a := 6) (b := r) (by omega) (by omega)) K
  | succ d ih =>
    intro r n m w y z hr h1 hs hm hy hz K
    subst hy hz
    refine br_f (nI_ge (a := r) (b := 6) (by omega) (by omega)) ?_
    refine pk_le n 1 (fun hn => ?_) (fun hn => ?_)
    · rw [ml_dp_1 hn] at K
      exact K
    · have ha := ml_hf_a n (by omega) (by omega)
      refine ml_yhalf (by omega) ?_
      refine nm_r (nI_1 w) ?_
      refine pk_le (ml_hf n) m (fun hk => ?_) (fun hk => ?_)
      · have hq : nI (ml_hf n) ≤ nI m := nI_le hk (by omega)
        rw [ml_dp_b (by omega) hk] at K
        refine br_t hq (nm_e (nm_r (nI_1 r) ?_))
        exact ih (r + 1) (n - ml_hf n) (m - ml_hf n) (w + 1) _ _ (by omega) (by omega) (by omega) (by omega) (pk_sub (by omega)) (pk_sub (by omega)) K
      · have hq : ¬ nI (ml_hf n) ≤ nI m := nI_ge hk (by omega)
        rw [ml_dp_a (by omega) hk] at K
        refine br_f hq (nm_r (nI_1 r) ?_)
        exact ih (r + 1) (ml_hf n) m (w + 1) _ _ (by omega) (by omega) (by omega) (by omega) rfl rfl K
theorem ml_ydep {post : Int32 → Prop} {n m : Nat} (h1 : n ≤ 40) (hm : m < n) (K : post (nI (ml_dp 6 n m 0))) : wpY_depth post (nI m) (nI n) :=
  ⟨7, ml_ydep_l 6 0 n m 0 (nI n) (nI m) rfl (by omega) h1 hm rfl rfl K⟩
theorem ml_y67 {post : Int32 → Prop} {n m : Nat} (h1 : 1 ≤ n) (h4 : n ≤ 40) (hm : m < n) (K : post (if ml_fs 0 n m = true then 1 else 0)) : wY_first_67 post (nI n) (nI m) := by
  rw [ml_fs_0] at K
  refine pk_le n 1 (fun hn => ?_) (fun hn => ?_)
  · rw [decide_eq_false (by omega : ¬ 1 < n)] at K
    exact K
  · rw [decide_eq_true (by omega : 1 < n)] at K
    have ha := ml_hf_a n (by omega) (by omega)
    refine ml_yhalf (by omega) ?_
    refine pk_le (ml_hf n) m (fun hk => ?_) (fun hk => ?_)
    · rw [decide_eq_false (by omega : ¬ m < ml_hf n)] at K
      exact K
    · rw [decide_eq_true hk] at K
      exact K
theorem ml_yfst_l {post : Int32 → Prop} {D : Nat} (hD : D < 100) : ∀ (d i n m : Nat) (y z : Int32), i + d = D → 1 ≤ n → n ≤ 40 → m < n → y = nI n → z = nI m → post (if ml_fs d n m = true then 1 else 0) → wY_first_8 post (nI D) (d + 1) y z (nI i) := by
  intro d
  induction d with
  | zero =>
    intro i n m y z hi h1 hs hm hy hz K
    subst hy hz
    exact br_t (nI_le (by omega) (by omega)) (ml_y67 h1 hs hm K)
  | succ d ih =>
    intro i n m y z hi h1 hs hm hy hz K
    subst hy hz
    refine br_f (nI_ge (by omega) (by omega)) ?_
    refine pk_le n 1 (fun hn => ?_) (fun hn => ?_)
    · rw [ml_fs_1 hn] at K
      refine ml_y67 h1 hs hm ?_
      rw [ml_fs_0, decide_eq_false (by omega : ¬ 1 < n)]
      exact K
    · have ha := ml_hf_a n (by omega) (by omega)
      refine ml_yhalf (by omega) ?_
      refine pk_le (ml_hf n) m (fun hk => ?_) (fun hk => ?_)
      · have hq : nI (ml_hf n) ≤ nI m := nI_le hk (by omega)
        rw [ml_fs_b (by omega) hk] at K
        refine br_t hq (nm_e (nm_r (nI_1 i) ?_))
        exact ih (i + 1) (n - ml_hf n) (m - ml_hf n) _ _ (by omega) (by omega) (by omega) (by omega) (pk_sub (by omega)) (pk_sub (by omega)) K
      · have hq : ¬ nI (ml_hf n) ≤ nI m := nI_ge hk (by omega)
        rw [ml_fs_a (by omega) hk] at K
        refine br_f hq (nm_r (nI_1 i) ?_)
        exact ih (i + 1) (ml_hf n) m _ _ (by omega) (by omega) (by omega) (by omega) rfl rfl K
theorem ml_yfst {post : Int32 → Prop} {n m D : Nat} {x : Int32} (hD : D < 100) (h1 : n ≤ 40) (hm : m < n) (hx : x = nI D) (K : post (if ml_fs D n m = true then 1 else 0)) : wpY_first post (nI m) (nI n) x := by
  subst hx
  exact ⟨D + 1, ml_yfst_l hD D 0 n m (nI n) (nI m) (by omega) (by omega) h1 hm rfl rfl K⟩
theorem ml_bit {w i : Nat} (hw : w < 65536) (hi : i < 32) : ((nI w).toUInt32 >>> ((nI i).toUInt32 &&& Int32.toUInt32 31)).toInt32 &&& 1 = nI (w / 2 ^ i % 2) := by
  rw [nx_ush hw hi]
  show nI (w >>> i) &&& nI 1 = _
  rw [nx_and, Nat.and_one_is_mod, Nat.shiftRight_eq_div_pow]
theorem ml_ush {w i : Nat} (hw : w < 65536) (hi : i < 32) : ((nI w).toUInt32 >>> ((nI i).toUInt32 &&& Int32.toUInt32 31)).toInt32 = nI (w / 2 ^ i) := by
  rw [nx_ush hw hi, Nat.shiftRight_eq_div_pow]
theorem ml_rf_s {h : Nat → Int32} {b : Nat → Bool} {d i : Nat} {r : Int32} : ml_rf h b (d + 1) i r = ml_rf h b d (i + 1) (if b i = true then ml_nd r (h i) else ml_nd (h i) r) := rfl
theorem ml_xfrom {post : Int32 → Prop} {E : Int32} {e h lev : Nat → Int32} {b : Nat → Bool} {w c : Nat} (hw : w < 65536) (hc : c ≤ 16) (hb : ∀ i, i < c → (w / 2 ^ i % 2 = 1 ↔ b i = false)) :
    ∀ (d i : Nat) (r : Int32), i + d = c → post (ml_rf h b d i r) → wX_rootFrom_51 post (nI w) E (nI c) e h lev (d + 1) r (nI i) := by
  intro d
  induction d with
  | zero =>
    intro i r hi K
    exact br_t (nI_le (by omega) (by omega)) K
  | succ d ih =>
    intro i r hi K
    rw [ml_rf_s] at K
    have c1 : (nI i).toNatClampNeg = i := nI_clamp (by omega)
    refine br_f (nI_ge (by omega) (by omega)) ⟨pk_in i 16 (by omega), nm_r (e' := h i) (by rw [c1]) ?_⟩
    refine pk_eq (w / 2 ^ i % 2) 1 (fun hk => ?_) (fun hk => ?_) (ml_bit hw (by omega)) rfl
    · have hbi := (hb i (by omega)).mp hk
      rw [if_neg (by rw [hbi]; decide)] at K
      refine br_f ml_10 ?_
      refine ml_xnode ?_
      exact nm_r (nI_1 i) (ih (i + 1) _ (by omega) K)
    · have hbi : b i = true := by
        cases hq : b i with
        | true => rfl
        | false => exact absurd ((hb i (by omega)).mpr hq) hk
      rw [if_pos hbi] at K
      refine br_t rfl ?_
      refine ml_xnode ?_
      exact nm_r (nI_1 i) (ih (i + 1) _ (by omega) K)
theorem ml_yfrom {post : Int32 → Prop} {E : Int32} {e h F C S V : Nat → Int32} {n m c : Nat} (h1 : n ≤ 40) (hm : m < n) (hc : c ≤ 16) :
    ∀ (d i : Nat) (r : Int32), i + d = c → post (ml_rf h (fun i => ml_fs (c - 1 - i) n m) d i r) → wY_rootFrom_43 post (nI m) (nI n) E (nI c) e h F C S V (d + 1) r (nI i) := by
  intro d
  induction d with
  | zero =>
    intro i r hi K
    exact br_t (nI_le (by omega) (by omega)) K
  | succ d ih =>
    intro i r hi K
    rw [ml_rf_s] at K
    have c1 : (nI i).toNatClampNeg = i := nI_clamp (by omega)
    have i1 : vp_in (nI i) 16 := vp_in_nI (by omega) (by omega)
    refine br_f (nI_ge (by omega) (by omega)) ?_
    refine ml_yfst (D := c - 1 - i) (by omega) h1 hm (ml_mi (by omega)) ?_
    by_cases hb : ml_fs (c - 1 - i) n m = true
    · rw [if_pos hb]
      rw [if_pos hb] at K
      refine br_f ml_10 ⟨i1, ?_⟩
      rw [c1]
      refine ml_ynode ?_
      exact nm_r (nI_1 i) (ih (i + 1) _ (by omega) K)
    · rw [if_neg hb]
      rw [if_neg hb] at K
      refine br_t rfl ⟨i1, ?_⟩
      rw [c1]
      refine ml_ynode ?_
      exact nm_r (nI_1 i) (ih (i + 1) _ (by omega) K)
end MLL
end
section
section MLM
/-- the same log and the same hand; what the two sides work with inside is free -/
def i_Rel (k : Nat) (u : SX) (v : SY) : Prop := ∃ (n c : Nat) (e h lev F C S V : Nat → Int32), n ≤ 40 ∧ c ≤ 16 ∧ u = (nI n, nI c, e, h, lev) ∧ v = (nI n, nI c, e, h, F, C, S, V)
theorem ml_rel {k n c : Nat} {e h lev F C S V : Nat → Int32} (hn : n ≤ 40) (hc : c ≤ 16) : i_Rel k (nI n, nI c, e, h, lev) (nI n, nI c, e, h, F, C, S, V) :=
  ⟨n, c, e, h, lev, F, C, S, V, hn, hc, rfl, rfl⟩
theorem ml_ge1 {x : Int32} (h : ¬ x < 1) : ∃ n : Nat, 1 ≤ n ∧ n < 2 ^ 31 ∧ x = nI n := by
  have h0 : ¬ x < 0 := by
    rw [Int32.lt_iff_toInt_lt] at h ⊢
    have e1 : (1 : Int32).toInt = 1 := by decide
    have e0 : (0 : Int32).toInt = 0 := by decide
    omega
  obtain ⟨j, hj, rfl⟩ := nI_of h0
  refine ⟨j, ?_, hj, rfl⟩
  by_cases hz : j = 0
  · subst hz
    exact absurd (by decide) h
  · omega
theorem ml_ge1' {x y : Int32} (hx : ¬ x < 1) (hy : ¬ y < x) : ¬ y < 1 := by
  rw [Int32.lt_iff_toInt_lt] at hx hy ⊢
  omega
theorem ml_ne {a b : Nat} (h : a ≠ b) (ha : a < 2 ^ 31) (hb : b < 2 ^ 31) : ¬ nI a = nI b := fun z => h ((nI_eq ha hb).mp z)
theorem i_up {k : Nat} {u : SX} {v : SY} (h : i_Rel k u v) : i_Rel (k + 4) u v := h
theorem i_vc0 : wpX_init (fun u => wpY_init (fun v => i_Rel 0 u v)) := ml_rel (k := 0) (n := 0) (c := 0) (by omega) (by omega)
theorem i_vc_append {k : Nat} {u : SX} {v : SY} (I : i_Rel k u v) (hk : k + 4 ≤ 2048) (v1 : Int32) : wpX_append (fun r u' => wpY_append (fun r' v' => r' = r ∧ i_Rel (k + 4) u' v') v v1) u v1 := by
  obtain ⟨n, c, e, h, lev, F, C, S, V, hn, hc, rfl, rfl⟩ := I
  by_cases h4 : n < 40
  · have hu : upd e (nI n).toNatClampNeg v1 = upd e n v1 := by rw [nI_clamp (by omega)]
    refine br_t (nI_lt (a := n) (b := 40) h4 (by omega)) ⟨pk_in n 40 h4, nm_r hu (nm_r (nI_1 n) ?_)⟩
    refine br_f (ml_ne (a := n) (b := 40) (by omega) (by omega) (by omega)) ⟨pk_in n 40 h4, nm_r hu (nm_r (nI_1 n) ?_)⟩
    exact ⟨rfl, ml_rel (by omega) hc⟩
  · have h5 : n = 40 := by omega
    subst h5
    exact br_f (nI_nlt (a := 40) (b := 40) (by omega) (by omega)) (br_t rfl ⟨rfl, ml_rel (by omega) hc⟩)
theorem i_vc_root {k : Nat} {u : SX} {v : SY} (I : i_Rel k u v) (hk : k + 4 ≤ 2048) (v1 : Int32) : wpX_root (fun r u' => wpY_root (fun r' v' => r' = r ∧ i_Rel (k + 4) u' v') v v1) u v1 := by
  obtain ⟨n, c, e, h, lev, F, C, S, V, hn, hc, rfl, rfl⟩ := I
  by_cases ha : v1 < 1
  · exact br_t ha (br_t ha ⟨rfl, ml_rel hn hc⟩)
  · obtain ⟨s, h1, h3, rfl⟩ := ml_ge1 ha
    by_cases hs : s ≤ n
    · have hb : nI s ≤ nI n := nI_le hs (by omega)
      refine br_f ha (br_t hb ?_)
      refine ml_xrow (s := 0) (w := s) h1 (by omega) rfl (congrArg nI (by omega)) (fun lev' => ?_)
      refine br_f ha (br_t hb ?_)
      refine ml_yroot (f := 0) (n := s) h1 (by omega) rfl rfl (fun F' C' S' V' => ?_)
      exact ⟨rfl, ml_rel hn hc⟩
    · have hb : ¬ nI s ≤ nI n := nI_ge (by omega) h3
      exact br_f ha (br_f hb (br_f ha (br_f hb ⟨rfl, ml_rel hn hc⟩)))
theorem i_vc_path {k : Nat} {u : SX} {v : SY} (I : i_Rel k u v) (hk : k + 4 ≤ 2048) (v1 : Int32) (v2 : Int32) : wpX_path (fun r u' => wpY_path (fun r' v' => r' = r ∧ i_Rel (k + 4) u' v') v v1 v2) u v1 v2 := by
  obtain ⟨n, c, e, h, lev, F, C, S, V, hn, hc, rfl, rfl⟩ := I
  by_cases ha : v2 < 1
  · exact br_t ha (br_t ha ⟨rfl, ml_rel hn hc⟩)
  · by_cases hb : nI n < v2
    · exact br_f ha (br_t hb (br_f ha (br_t hb ⟨rfl, ml_rel hn hc⟩)))
    · by_cases hd : v1 < 0
      · exact br_f ha (br_f hb (br_t hd (br_f ha (br_f hb (br_t hd ⟨rfl, ml_rel hn hc⟩)))))
      · by_cases hg : v1 < v2
        · obtain ⟨s, h1, h3, rfl⟩ := ml_ge1 ha
          obtain ⟨m, hm3, rfl⟩ := nI_of hd
          have hm : m < s := (nI_ltI hm3 h3).mp hg
          have hs : s ≤ n := Nat.le_of_not_lt (fun z => hb (nI_lt z h3))
          have hq := ml_ph_c (l := fun i => ml_lf (e i)) 6 0 s m h 0
          refine br_f ha (br_f hb (br_f hd (br_t hg ⟨7, ?_⟩)))
          refine ml_xpath (m0 := m) (by omega) 6 0 0 s m h 0 lev (nI s) rfl h1 (by omega) hm (by omega) (by omega) (congrArg nI (by omega)) (fun lev' => ?_)
          refine ml_xturn (by omega) ?_
          refine br_f ha (br_f hb (br_f hd (br_t hg ⟨7, ?_⟩)))
          refine ml_ypath 6 0 0 s m h 0 F C S V _ _ _ rfl h1 (by omega) hm (by omega) rfl rfl rfl (fun F' C' S' V' => ?_)
          refine ml_yturn (by omega) ?_
          exact ⟨rfl, ml_rel hn (by omega)⟩
        · exact br_f ha (br_f hb (br_f hd (br_f hg (br_f ha (br_f hb (br_f hd (br_f hg ⟨rfl, ml_rel hn hc⟩)))))))
theorem i_vc_steps {k : Nat} {u : SX} {v : SY} (I : i_Rel k u v) (hk : k + 4 ≤ 2048) (v1 : Int32) (v2 : Int32) : wpX_steps (fun r u' => wpY_steps (fun r' v' => r' = r ∧ i_Rel (k + 4) u' v') v v1 v2) u v1 v2 := by
  obtain ⟨n, c, e, h, lev, F, C, S, V, hn, hc, rfl, rfl⟩ := I
  by_cases ha : v1 < 1
  · exact br_t ha (br_t ha ⟨rfl, ml_rel hn hc⟩)
  · by_cases hb : v2 < v1
    · exact br_f ha (br_t hb (br_f ha (br_t hb ⟨rfl, ml_rel hn hc⟩)))
    · by_cases hg : v2 ≤ nI n
      · obtain ⟨s, h1, h3, rfl⟩ := ml_ge1 (ml_ge1' ha hb)
        obtain ⟨m, hm1, hm3, rfl⟩ := ml_ge1 ha
        have hs : s ≤ n := (nI_leI h3 (by omega)).mp hg
        have hm : m ≤ s := Nat.le_of_not_lt (fun z => hb (nI_lt z hm3))
        have hq := ml_sh_c (l := fun i => ml_lf (e i)) 6 0 s m h 0 hm1 hm (by omega)
        refine br_f ha (br_f hb (br_t hg ⟨7, ?_⟩))
        refine ml_xsteps (m0 := m) (by omega) 6 0 0 s m h 0 lev (nI s) rfl hm1 (by omega) hm (by omega) (by omega) (congrArg nI (by omega)) (fun lev' => ?_)
        refine ml_xs91 (by omega) hq.2.1 hq.2.2 (fun lev'' => ?_)
        refine ml_xturn (Nat.le_trans ml_sf_c (by omega)) ?_
        refine br_f ha (br_f hb (br_t hg ⟨7, ?_⟩))
        refine ml_ysteps 6 0 0 s m h 0 F C S V _ _ _ _ rfl hm1 (by omega) hm (by omega) rfl rfl rfl rfl (fun F' C' S' V' x y g hx hy hg' => ?_)
        refine ml_ys177 (by omega) hq.2.1 hq.2.2 hx hy hg' (fun F2 C2 S2 V2 => ?_)
        refine ml_yturn (Nat.le_trans ml_sf_c (by omega)) ?_
        exact ⟨rfl, ml_rel hn (Nat.le_trans ml_sf_c (by omega))⟩
      · exact br_f ha (br_f hb (br_f hg (br_f ha (br_f hb (br_f hg ⟨rfl, ml_rel hn hc⟩)))))
theorem i_vc_hand {k : Nat} {u : SX} {v : SY} (I : i_Rel k u v) (hk : k + 4 ≤ 2048) (v1 : Int32) : wpX_hand (fun r => wpY_hand (fun r' => r' = r ∧ i_Rel (k + 4) u v) v v1) u v1 := by
  obtain ⟨n, c, e, h, lev, F, C, S, V, hn, hc, rfl, rfl⟩ := I
  by_cases ha : v1 < 0
  · exact br_t ha (br_t ha ⟨rfl, ml_rel hn hc⟩)
  · by_cases hb : v1 < nI c
    · obtain ⟨j, hj, rfl⟩ := nI_of ha
      have hi : vp_in (nI j) 16 := vp_in_nI (Nat.lt_of_lt_of_le ((nI_ltI hj (by omega)).mp hb) hc) (by omega)
      exact br_f ha (br_t hb ⟨hi, br_f ha (br_t hb ⟨hi, rfl, ml_rel hn hc⟩)⟩)
    · exact br_f ha (br_f hb (br_f ha (br_f hb ⟨rfl, ml_rel hn hc⟩)))
theorem i_vc_held {k : Nat} {u : SX} {v : SY} (I : i_Rel k u v) (hk : k + 4 ≤ 2048) : wpX_held (fun r => wpY_held (fun r' => r' = r ∧ i_Rel (k + 4) u v) v) u := by
  obtain ⟨n, c, e, h, lev, F, C, S, V, hn, hc, rfl, rfl⟩ := I
  exact ⟨rfl, ml_rel hn hc⟩
theorem i_vc_alter {k : Nat} {u : SX} {v : SY} (I : i_Rel k u v) (hk : k + 4 ≤ 2048) (v1 : Int32) (v2 : Int32) : wpX_alter (fun r u' => wpY_alter (fun r' v' => r' = r ∧ i_Rel (k + 4) u' v') v v1 v2) u v1 v2 := by
  obtain ⟨n, c, e, h, lev, F, C, S, V, hn, hc, rfl, rfl⟩ := I
  by_cases ha : v1 < 0
  · exact br_t ha (br_t ha ⟨rfl, ml_rel hn hc⟩)
  · by_cases hb : v1 < nI c
    · obtain ⟨j, hj, rfl⟩ := nI_of ha
      have hi : vp_in (nI j) 16 := vp_in_nI (Nat.lt_of_lt_of_le ((nI_ltI hj (by omega)).mp hb) hc) (by omega)
      refine br_f ha (br_t hb ⟨hi, nm_e ?_⟩)
      exact br_f ha (br_t hb ⟨hi, nm_e ⟨rfl, ml_rel hn hc⟩⟩)
    · exact br_f ha (br_f hb (br_f ha (br_f hb ⟨rfl, ml_rel hn hc⟩)))
theorem i_vc_drop {k : Nat} {u : SX} {v : SY} (I : i_Rel k u v) (hk : k + 4 ≤ 2048) : wpX_drop (fun u' => wpY_drop (fun v' => i_Rel (k + 4) u' v') v) u := by
  obtain ⟨n, c, e, h, lev, F, C, S, V, hn, hc, rfl, rfl⟩ := I
  exact ml_rel (k := k + 4) (c := 0) hn (by omega)
theorem i_vc_take {k : Nat} {u : SX} {v : SY} (I : i_Rel k u v) (hk : k + 4 ≤ 2048) (v1 : Int32) : wpX_take (fun r u' => wpY_take (fun r' v' => r' = r ∧ i_Rel (k + 4) u' v') v v1) u v1 := by
  obtain ⟨n, c, e, h, lev, F, C, S, V, hn, hc, rfl, rfl⟩ := I
  by_cases h4 : c < 16
  · have hu : upd h (nI c).toNatClampNeg v1 = upd h c v1 := by rw [nI_clamp (by omega)]
    refine ml_xtake h4 ?_
    refine br_f (ml_ne (a := c) (b := 16) (by omega) (by omega) (by omega)) ⟨pk_in c 16 h4, nm_r hu (nm_r (nI_1 c) ?_)⟩
    exact ⟨rfl, ml_rel hn (by omega)⟩
  · have h5 : c = 16 := by omega
    subst h5
    exact br_f (nI_nlt (a := 16) (b := 16) (by omega) (by omega)) (br_t rfl ⟨rfl, ml_rel hn hc⟩)
theorem i_vc_rootFrom {k : Nat} {u : SX} {v : SY} (I : i_Rel k u v) (hk : k + 4 ≤ 2048) (v1 : Int32) (v2 : Int32) (v3 : Int32) : wpX_rootFrom (fun r => wpY_rootFrom (fun r' => r' = r ∧ i_Rel (k + 4) u v) v v1 v2 v3) u v1 v2 v3 := by
  obtain ⟨n, c, e, h, lev, F, C, S, V, hn, hc, rfl, rfl⟩ := I
  by_cases ha : v2 < 1
  · exact br_t ha (br_t ha ⟨rfl, ml_rel hn hc⟩)
  · by_cases hb : 40 < v2
    · exact br_f ha (br_t hb (br_f ha (br_t hb ⟨rfl, ml_rel hn hc⟩)))
    · by_cases hd : v1 < 0
      · exact br_f ha (br_f hb (br_t hd (br_f ha (br_f hb (br_t hd ⟨rfl, ml_rel hn hc⟩)))))
      · obtain ⟨s, h1, h3, rfl⟩ := ml_ge1 ha
        obtain ⟨m, hm3, rfl⟩ := nI_of hd
        have hs : s ≤ 40 := Nat.le_of_not_lt (fun z => hb (nI_lt (a := 40) (b := s) z h3))
        by_cases hm : m < s
        · have hg : nI m < nI s := nI_lt hm h3
          have hg' : ¬ nI s ≤ nI m := nI_ge hm h3
          have hw := ml_wd_1 s (by omega) m hm
          refine br_f ha (br_f hb (br_f hd (br_t hg ?_)))
          refine ml_xway hs hm ?_
          refine pk_eq (ml_wy 6 s m 1 / 2 ^ c) 1 (fun hk => ?_) (fun hk => ?_) (ml_ush (by omega) (by omega)) rfl (Nat.lt_of_le_of_lt (Nat.div_le_self _ _) (by omega)) (by omega)
          · have hD := (ml_wd_2 s (by omega) m hm c (by omega)).mp hk
            refine ml_xleaf ?_
            refine ⟨c + 1, ?_⟩
            refine ml_xfrom (b := fun i => ml_fs (c - 1 - i) s m) (by omega) hc (fun i hi => ?_) c 0 _ (by omega) ?_
            · have := ml_wd_3 s (by omega) m hm i (by omega)
              rw [← hD] at this
              exact this
            · refine br_f ha (br_f hb (br_f hd (br_f hg' ?_)))
              refine ml_ydep hs hm ?_
              refine pk_eq c (ml_dp 6 s m 0) (fun _ => ?_) (fun z => absurd hD z)
              refine ml_yleaf ?_
              refine ⟨c + 1, ?_⟩
              refine ml_yfrom hs hm hc c 0 _ (by omega) ?_
              exact ⟨rfl, ml_rel hn hc⟩
          · have hD : ¬ c = ml_dp 6 s m 0 := fun z => hk ((ml_wd_2 s (by omega) m hm c (by omega)).mpr z)
            refine br_f ha (br_f hb (br_f hd (br_f hg' ?_)))
            refine ml_ydep hs hm ?_
            exact pk_eq c (ml_dp 6 s m 0) (fun z => absurd z hD) (fun _ => ⟨rfl, ml_rel hn hc⟩)
        · have hg : ¬ nI m < nI s := nI_nlt (by omega) hm3
          have hg' : nI s ≤ nI m := nI_le (by omega) hm3
          exact br_f ha (br_f hb (br_f hd (br_f hg (br_f ha (br_f hb (br_f hd (br_t hg' ⟨rfl, ml_rel hn hc⟩)))))))
end MLM
end
