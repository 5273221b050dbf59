section MLM
/-- the same log and the same hand; what the two sides work with inside is free -/
def i_Rel (k : Nat) (u : SX) (v : SY) : Prop := ∃ (n c : Nat) (e h lev F C S V : Nat → Int32), n ≤ 40 ∧ c ≤ 16 ∧ u = (nI n, nI c, e, h, lev) ∧ v = (nI n, nI c, e, h, F, C, S, V)
theorem ml_rel {k n c : Nat} {e h lev F C S V : Nat → Int32} (hn : n ≤ 40) (hc : c ≤ 16) : i_Rel k (nI n, nI c, e, h, lev) (nI n, nI c, e, h, F, C, S, V) :=
  ⟨n, c, e, h, lev, F, C, S, V, hn, hc, rfl, rfl⟩
theorem ml_ge1 {x : Int32} (h : ¬ x < 1) : ∃ n : Nat, 1 ≤ n ∧ n < 2 ^ 31 ∧ x = nI n := by
  have h0 : ¬ x < 0 := by
    rw [Int32.lt_iff_toInt_lt] at h ⊢
    have e1 : (1 : Int32).toInt = 1 := by decide
    have e0 : (0 : Int32).toInt = 0 := by decide
    omega
  obtain ⟨j, hj, rfl⟩ := nI_of h0
  refine ⟨j, ?_, hj, rfl⟩
  by_cases hz : j = 0
  · subst hz
    exact absurd (by decide) h
  · omega
theorem ml_ge1' {x y : Int32} (hx : ¬ x < 1) (hy : ¬ y < x) : ¬ y < 1 := by
  rw [Int32.lt_iff_toInt_lt] at hx hy ⊢
  omega
theorem ml_ne {a b : Nat} (h : a ≠ b) (ha : a < 2 ^ 31) (hb : b < 2 ^ 31) : ¬ nI a = nI b := fun z => h ((nI_eq ha hb).mp z)
theorem i_up {k : Nat} {u : SX} {v : SY} (h : i_Rel k u v) : i_Rel (k + 4) u v := h
theorem i_vc0 : wpX_init (fun u => wpY_init (fun v => i_Rel 0 u v)) := ml_rel (k := 0) (n := 0) (c := 0) (by omega) (by omega)
theorem i_vc_append {k : Nat} {u : SX} {v : SY} (I : i_Rel k u v) (hk : k + 4 ≤ 2048) (v1 : Int32) : wpX_append (fun r u' => wpY_append (fun r' v' => r' = r ∧ i_Rel (k + 4) u' v') v v1) u v1 := by
  obtain ⟨n, c, e, h, lev, F, C, S, V, hn, hc, rfl, rfl⟩ := I
  by_cases h4 : n < 40
  · have hu : upd e (nI n).toNatClampNeg v1 = upd e n v1 := by rw [nI_clamp (by omega)]
    refine br_t (nI_lt (a := n) (b := 40) h4 (by omega)) ⟨pk_in n 40 h4, nm_r hu (nm_r (nI_1 n) ?_)⟩
    refine br_f (ml_ne (a := n) (b := 40) (by omega) (by omega) (by omega)) ⟨pk_in n 40 h4, nm_r hu (nm_r (nI_1 n) ?_)⟩
    exact ⟨rfl, ml_rel (by omega) hc⟩
  · have h5 : n = 40 := by omega
    subst h5
    exact br_f (nI_nlt (a := 40) (b := 40) (by omega) (by omega)) (br_t rfl ⟨rfl, ml_rel (by omega) hc⟩)
theorem i_vc_root {k : Nat} {u : SX} {v : SY} (I : i_Rel k u v) (hk : k + 4 ≤ 2048) (v1 : Int32) : wpX_root (fun r u' => wpY_root (fun r' v' => r' = r ∧ i_Rel (k + 4) u' v') v v1) u v1 := by
  obtain ⟨n, c, e, h, lev, F, C, S, V, hn, hc, rfl, rfl⟩ := I
  by_cases ha : v1 < 1
  · exact br_t ha (br_t ha ⟨rfl, ml_rel hn hc⟩)
  · obtain ⟨s, h1, h3, rfl⟩ := ml_ge1 ha
    by_cases hs : s ≤ n
    · have hb : nI s ≤ nI n := nI_le hs (by omega)
      refine br_f ha (br_t hb ?_)
      refine ml_xrow (s := 0) (w := s) h1 (by omega) rfl (congrArg nI (by omega)) (fun lev' => ?_)
      refine br_f ha (br_t hb ?_)
      refine ml_yroot (f := 0) (n := s) h1 (by omega) rfl rfl (fun F' C' S' V' => ?_)
      exact ⟨rfl, ml_rel hn hc⟩
    · have hb : ¬ nI s ≤ nI n := nI_ge (by omega) h3
      exact br_f ha (br_f hb (br_f ha (br_f hb ⟨rfl, ml_rel hn hc⟩)))
theorem i_vc_path {k : Nat} {u : SX} {v : SY} (I : i_Rel k u v) (hk : k + 4 ≤ 2048) (v1 : Int32) (v2 : Int32) : wpX_path (fun r u' => wpY_path (fun r' v' => r' = r ∧ i_Rel (k + 4) u' v') v v1 v2) u v1 v2 := by
  obtain ⟨n, c, e, h, lev, F, C, S, V, hn, hc, rfl, rfl⟩ := I
  by_cases ha : v2 < 1
  · exact br_t ha (br_t ha ⟨rfl, ml_rel hn hc⟩)
  · by_cases hb : nI n < v2
    · exact br_f ha (br_t hb (br_f ha (br_t hb ⟨rfl, ml_rel hn hc⟩)))
    · by_cases hd : v1 < 0
      · exact br_f ha (br_f hb (br_t hd (br_f ha (br_f hb (br_t hd ⟨rfl, ml_rel hn hc⟩)))))
      · by_cases hg : v1 < v2
        · obtain ⟨s, h1, h3, rfl⟩ := ml_ge1 ha
          obtain ⟨m, hm3, rfl⟩ := nI_of hd
          have hm : m < s := (nI_ltI hm3 h3).mp hg
          have hs : s ≤ n := Nat.le_of_not_lt (fun z => hb (nI_lt z h3))
          have hq := ml_ph_c (l := fun i => ml_lf (e i)) 6 0 s m h 0
          refine br_f ha (br_f hb (br_f hd (br_t hg ⟨7, ?_⟩)))
          refine ml_xpath (m0 := m) (by omega) 6 0 0 s m h 0 lev (nI s) rfl h1 (by omega) hm (by omega) (by omega) (congrArg nI (by omega)) (fun lev' => ?_)
          refine ml_xturn (by omega) ?_
          refine br_f ha (br_f hb (br_f hd (br_t hg ⟨7, ?_⟩)))
          refine ml_ypath 6 0 0 s m h 0 F C S V _ _ _ rfl h1 (by omega) hm (by omega) rfl rfl rfl (fun F' C' S' V' => ?_)
          refine ml_yturn (by omega) ?_
          exact ⟨rfl, ml_rel hn (by omega)⟩
        · exact br_f ha (br_f hb (br_f hd (br_f hg (br_f ha (br_f hb (br_f hd (br_f hg ⟨rfl, ml_rel hn hc⟩)))))))
theorem i_vc_steps {k : Nat} {u : SX} {v : SY} (I : i_Rel k u v) (hk : k + 4 ≤ 2048) (v1 : Int32) (v2 : Int32) : wpX_steps (fun r u' => wpY_steps (fun r' v' => r' = r ∧ i_Rel (k + 4) u' v') v v1 v2) u v1 v2 := by
  obtain ⟨n, c, e, h, lev, F, C, S, V, hn, hc, rfl, rfl⟩ := I
  by_cases ha : v1 < 1
  · exact br_t ha (br_t ha ⟨rfl, ml_rel hn hc⟩)
  · by_cases hb : v2 < v1
    · exact br_f ha (br_t hb (br_f ha (br_t hb ⟨rfl, ml_rel hn hc⟩)))
    · by_cases hg : v2 ≤ nI n
      · obtain ⟨s, h1, h3, rfl⟩ := ml_ge1 (ml_ge1' ha hb)
        obtain ⟨m, hm1, hm3, rfl⟩ := ml_ge1 ha
        have hs : s ≤ n := (nI_leI h3 (by omega)).mp hg
        have hm : m ≤ s := Nat.le_of_not_lt (fun z => hb (nI_lt z hm3))
        have hq := ml_sh_c (l := fun i => ml_lf (e i)) 6 0 s m h 0 hm1 hm (by omega)
        refine br_f ha (br_f hb (br_t hg ⟨7, ?_⟩))
        refine ml_xsteps (m0 := m) (by omega) 6 0 0 s m h 0 lev (nI s) rfl hm1 (by omega) hm (by omega) (by omega) (congrArg nI (by omega)) (fun lev' => ?_)
        refine ml_xs91 (by omega) hq.2.1 hq.2.2 (fun lev'' => ?_)
        refine ml_xturn (Nat.le_trans ml_sf_c (by omega)) ?_
        refine br_f ha (br_f hb (br_t hg ⟨7, ?_⟩))
        refine ml_ysteps 6 0 0 s m h 0 F C S V _ _ _ _ rfl hm1 (by omega) hm (by omega) rfl rfl rfl rfl (fun F' C' S' V' x y g hx hy hg' => ?_)
        refine ml_ys177 (by omega) hq.2.1 hq.2.2 hx hy hg' (fun F2 C2 S2 V2 => ?_)
        refine ml_yturn (Nat.le_trans ml_sf_c (by omega)) ?_
        exact ⟨rfl, ml_rel hn (Nat.le_trans ml_sf_c (by omega))⟩
      · exact br_f ha (br_f hb (br_f hg (br_f ha (br_f hb (br_f hg ⟨rfl, ml_rel hn hc⟩)))))
theorem i_vc_hand {k : Nat} {u : SX} {v : SY} (I : i_Rel k u v) (hk : k + 4 ≤ 2048) (v1 : Int32) : wpX_hand (fun r => wpY_hand (fun r' => r' = r ∧ i_Rel (k + 4) u v) v v1) u v1 := by
  obtain ⟨n, c, e, h, lev, F, C, S, V, hn, hc, rfl, rfl⟩ := I
  by_cases ha : v1 < 0
  · exact br_t ha (br_t ha ⟨rfl, ml_rel hn hc⟩)
  · by_cases hb : v1 < nI c
    · obtain ⟨j, hj, rfl⟩ := nI_of ha
      have hi : vp_in (nI j) 16 := vp_in_nI (Nat.lt_of_lt_of_le ((nI_ltI hj (by omega)).mp hb) hc) (by omega)
      exact br_f ha (br_t hb ⟨hi, br_f ha (br_t hb ⟨hi, rfl, ml_rel hn hc⟩)⟩)
    · exact br_f ha (br_f hb (br_f ha (br_f hb ⟨rfl, ml_rel hn hc⟩)))
theorem i_vc_held {k : Nat} {u : SX} {v : SY} (I : i_Rel k u v) (hk : k + 4 ≤ 2048) : wpX_held (fun r => wpY_held (fun r' => r' = r ∧ i_Rel (k + 4) u v) v) u := by
  obtain ⟨n, c, e, h, lev, F, C, S, V, hn, hc, rfl, rfl⟩ := I
  exact ⟨rfl, ml_rel hn hc⟩
theorem i_vc_alter {k : Nat} {u : SX} {v : SY} (I : i_Rel k u v) (hk : k + 4 ≤ 2048) (v1 : Int32) (v2 : Int32) : wpX_alter (fun r u' => wpY_alter (fun r' v' => r' = r ∧ i_Rel (k + 4) u' v') v v1 v2) u v1 v2 := by
  obtain ⟨n, c, e, h, lev, F, C, S, V, hn, hc, rfl, rfl⟩ := I
  by_cases ha : v1 < 0
  · exact br_t ha (br_t ha ⟨rfl, ml_rel hn hc⟩)
  · by_cases hb : v1 < nI c
    · obtain ⟨j, hj, rfl⟩ := nI_of ha
      have hi : vp_in (nI j) 16 := vp_in_nI (Nat.lt_of_lt_of_le ((nI_ltI hj (by omega)).mp hb) hc) (by omega)
      refine br_f ha (br_t hb ⟨hi, nm_e ?_⟩)
      exact br_f ha (br_t hb ⟨hi, nm_e ⟨rfl, ml_rel hn hc⟩⟩)
    · exact br_f ha (br_f hb (br_f ha (br_f hb ⟨rfl, ml_rel hn hc⟩)))
theorem i_vc_drop {k : Nat} {u : SX} {v : SY} (I : i_Rel k u v) (hk : k + 4 ≤ 2048) : wpX_drop (fun u' => wpY_drop (fun v' => i_Rel (k + 4) u' v') v) u := by
  obtain ⟨n, c, e, h, lev, F, C, S, V, hn, hc, rfl, rfl⟩ := I
  exact ml_rel (k := k + 4) (c := 0) hn (by omega)
theorem i_vc_take {k : Nat} {u : SX} {v : SY} (I : i_Rel k u v) (hk : k + 4 ≤ 2048) (v1 : Int32) : wpX_take (fun r u' => wpY_take (fun r' v' => r' = r ∧ i_Rel (k + 4) u' v') v v1) u v1 := by
  obtain ⟨n, c, e, h, lev, F, C, S, V, hn, hc, rfl, rfl⟩ := I
  by_cases h4 : c < 16
  · have hu : upd h (nI c).toNatClampNeg v1 = upd h c v1 := by rw [nI_clamp (by omega)]
    refine ml_xtake h4 ?_
    refine br_f (ml_ne (a := c) (b := 16) (by omega) (by omega) (by omega)) ⟨pk_in c 16 h4, nm_r hu (nm_r (nI_1 c) ?_)⟩
    exact ⟨rfl, ml_rel hn (by omega)⟩
  · have h5 : c = 16 := by omega
    subst h5
    exact br_f (nI_nlt (a := 16) (b := 16) (by omega) (by omega)) (br_t rfl ⟨rfl, ml_rel hn hc⟩)
theorem i_vc_rootFrom {k : Nat} {u : SX} {v : SY} (I : i_Rel k u v) (hk : k + 4 ≤ 2048) (v1 : Int32) (v2 : Int32) (v3 : Int32) : wpX_rootFrom (fun r => wpY_rootFrom (fun r' => r' = r ∧ i_Rel (k + 4) u v) v v1 v2 v3) u v1 v2 v3 := by
  obtain ⟨n, c, e, h, lev, F, C, S, V, hn, hc, rfl, rfl⟩ := I
  by_cases ha : v2 < 1
  · exact br_t ha (br_t ha ⟨rfl, ml_rel hn hc⟩)
  · by_cases hb : 40 < v2
    · exact br_f ha (br_t hb (br_f ha (br_t hb ⟨rfl, ml_rel hn hc⟩)))
    · by_cases hd : v1 < 0
      · exact br_f ha (br_f hb (br_t hd (br_f ha (br_f hb (br_t hd ⟨rfl, ml_rel hn hc⟩)))))
      · obtain ⟨s, h1, h3, rfl⟩ := ml_ge1 ha
        obtain ⟨m, hm3, rfl⟩ := nI_of hd
        have hs : s ≤ 40 := Nat.le_of_not_lt (fun z => hb (nI_lt (a := 40) (b := s) z h3))
        by_cases hm : m < s
        · have hg : nI m < nI s := nI_lt hm h3
          have hg' : ¬ nI s ≤ nI m := nI_ge hm h3
          have hw := ml_wd_1 s (by omega) m hm
          refine br_f ha (br_f hb (br_f hd (br_t hg ?_)))
          refine ml_xway hs hm ?_
          refine pk_eq (ml_wy 6 s m 1 / 2 ^ c) 1 (fun hk => ?_) (fun hk => ?_) (ml_ush (by omega) (by omega)) rfl (Nat.lt_of_le_of_lt (Nat.div_le_self _ _) (by omega)) (by omega)
          · have hD := (ml_wd_2 s (by omega) m hm c (by omega)).mp hk
            refine ml_xleaf ?_
            refine ⟨c + 1, ?_⟩
            refine ml_xfrom (b := fun i => ml_fs (c - 1 - i) s m) (by omega) hc (fun i hi => ?_) c 0 _ (by omega) ?_
            · have := ml_wd_3 s (by omega) m hm i (by omega)
              rw [← hD] at this
              exact this
            · refine br_f ha (br_f hb (br_f hd (br_f hg' ?_)))
              refine ml_ydep hs hm ?_
              refine pk_eq c (ml_dp 6 s m 0) (fun _ => ?_) (fun z => absurd hD z)
              refine ml_yleaf ?_
              refine ⟨c + 1, ?_⟩
              refine ml_yfrom hs hm hc c 0 _ (by omega) ?_
              exact ⟨rfl, ml_rel hn hc⟩
          · have hD : ¬ c = ml_dp 6 s m 0 := fun z => hk ((ml_wd_2 s (by omega) m hm c (by omega)).mpr z)
            refine br_f ha (br_f hb (br_f hd (br_f hg' ?_)))
            refine ml_ydep hs hm ?_
            exact pk_eq c (ml_dp 6 s m 0) (fun z => absurd z hD) (fun _ => ⟨rfl, ml_rel hn hc⟩)
        · have hg : ¬ nI m < nI s := nI_nlt (by omega) hm3
          have hg' : nI s ≤ nI m := nI_le (by omega) hm3
          exact br_f ha (br_f hb (br_f hd (br_f hg (br_f ha (br_f hb (br_f hd (br_t hg' ⟨rfl, ml_rel hn hc⟩)))))))
end MLM
