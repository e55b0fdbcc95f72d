/-- both states are the same: 1 to 10 points, weights from 0 to 9 -/
def i_Rel (_ : Nat) (u : SX) (v : SY) : Prop := ∃ (c : Nat) (w a b : Nat → Int32), u = (nI c, w, a, b) ∧ v = (nI c, w, a, b) ∧ 1 ≤ c ∧ c ≤ 10 ∧ mp_W w
theorem i_up {k : Nat} {u : SX} {v : SY} (h : i_Rel k u v) : i_Rel (k + 5) u v := h
theorem i_vc0 : wpX_init (fun u => wpY_init (fun v => i_Rel 0 u v)) := ⟨1, (fun _ => 0), (fun _ => 0), (fun _ => 0), rfl, rfl, by omega, by omega, mp_W0⟩
theorem rl_i {k c : Nat} {w a b : Nat → Int32} (h1 : 1 ≤ c) (h2 : c ≤ 10) (hw : mp_W w) : i_Rel k (nI c, w, a, b) (nI c, w, a, b) := ⟨c, w, a, b, rfl, rfl, h1, h2, hw⟩
theorem iw_t {post : Int32 → Prop} {u : SY} {x : Int32} (h0 : ¬ x < 0) (h9 : x ≤ 9) (q : post 1) : wpY_isWeight post u x := by
  obtain ⟨f, w, us, vs⟩ := u
  unfold wpY_isWeight
  exact br_f h0 (br_f (Int32.not_lt.mpr h9) q)
theorem iw_f {post : Int32 → Prop} {u : SY} {x : Int32} (h : x < 0 ∨ ¬ x ≤ 9) (q : post 0) : wpY_isWeight post u x := by
  obtain ⟨f, w, us, vs⟩ := u
  unfold wpY_isWeight
  refine br_c (fun _ => q) (fun g => br_t ?_ q)
  rcases h with h | h
  · exact absurd h g
  · exact Int32.not_le.mp h
def mp_Q (u v : Int32) : Prop := ¬ u < -7 ∧ ¬ 7 < u ∧ ¬ v < -7 ∧ ¬ 7 < v
theorem pt_Xt {post : Int32 → Prop} {x y : Int32} (h : mp_Q x y) (q : post 1) : wpX_isPoint post x y := by
  obtain ⟨h1, h2, h3, h4⟩ := h
  exact br_f h1 (br_f h2 (br_f h3 (br_f h4 q)))
theorem pt_Xf {post : Int32 → Prop} {x y : Int32} (h : ¬ mp_Q x y) (q : post 0) : wpX_isPoint post x y :=
  br_c (fun _ => q) (fun h1 => br_c (fun _ => q) (fun h2 => br_c (fun _ => q) (fun h3 => br_c (fun _ => q) (fun h4 => absurd ⟨h1, h2, h3, h4⟩ h))))
theorem pt_Yt {post : Int32 → Prop} {u : SY} {x y : Int32} (h : mp_Q x y) (q : post 1) : wpY_isPoint post u x y := by
  obtain ⟨h1, h2, h3, h4⟩ := h
  obtain ⟨f, w, us, vs⟩ := u
  exact br_f h1 (br_f h2 (br_f h3 (br_f h4 q)))
theorem pt_Yf {post : Int32 → Prop} {u : SY} {x y : Int32} (h : ¬ mp_Q x y) (q : post 0) : wpY_isPoint post u x y := by
  obtain ⟨f, w, us, vs⟩ := u
  exact br_c (fun _ => q) (fun h1 => br_c (fun _ => q) (fun h2 => br_c (fun _ => q) (fun h3 => br_c (fun _ => q) (fun h4 => absurd ⟨h1, h2, h3, h4⟩ h))))
theorem i_vc_set {k : Nat} {u : SX} {v : SY} (I : i_Rel k u v) (hk : k + 5 ≤ 2560) (v1 : Int32) (v2 : Int32) (v3 : Int32) : wpX_set (fun r u' => wpY_set (fun r' v' => r' = r ∧ i_Rel (k + 5) u' v') v v1 v2 v3) u v1 v2 v3 := by
  obtain ⟨c, w, a, b, rfl, rfl, h1, h2, hw⟩ := I
  unfold wpX_set wpY_set
  dsimp only
  by_cases hc : mp_C v1 v2
  · by_cases h0 : v3 < 0
    · exact ic_Xt hc (br_f mp_10 (br_t h0 (ic_Yt hc (br_f mp_10 (iw_f (Or.inl h0) (br_t rfl ⟨rfl, rl_i h1 h2 hw⟩))))))
    · by_cases h9 : v3 ≤ 9
      · exact ic_Xt hc (br_f mp_10 (br_f h0 (br_t h9 (nm_e ⟨mp_Cin hc, nm_e ⟨mp_Cin hc, nm_e (ic_Yt hc (br_f mp_10 (iw_t h0 h9 (br_f mp_10 ⟨mp_Cin hc, nm_e ⟨mp_Cin hc, nm_e ⟨rfl, rl_i h1 h2 (mp_Wu hw _ (nI_of2 mp_t9 h0 h9))⟩⟩⟩))))⟩⟩))))
      · exact ic_Xt hc (br_f mp_10 (br_f h0 (br_f h9 (ic_Yt hc (br_f mp_10 (iw_f (Or.inr h9) (br_t rfl ⟨rfl, rl_i h1 h2 hw⟩)))))))
  · exact ic_Xf hc (br_t rfl (ic_Yf hc (br_t rfl ⟨rfl, rl_i h1 h2 hw⟩)))
theorem i_vc_wall {k : Nat} {u : SX} {v : SY} (I : i_Rel k u v) (hk : k + 5 ≤ 2560) (v1 : Int32) (v2 : Int32) (v3 : Int32) (v4 : Int32) : wpX_wall (fun r u' => wpY_wall (fun r' v' => r' = r ∧ i_Rel (k + 5) u' v') v v1 v2 v3 v4) u v1 v2 v3 v4 := by
  obtain ⟨c, w, a, b, rfl, rfl, h1, h2, hw⟩ := I
  unfold wpX_wall wpY_wall
  dsimp only
  by_cases hc : mp_C v1 v2
  · by_cases hn : v4 < 0
    · exact nm_e (nm_e (ic_Xt hc (br_f mp_10 (br_t (wl_neg hn) (ic_Yt hc (br_f mp_10 (br_t hn ⟨rfl, rl_i h1 h2 hw⟩)))))))
    · obtain ⟨q, hq, rfl⟩ := nI_of hn
      have e1 : nI q >>> ((4 : Int32) &&& 31) = nI (q / 16) := pk_shrN hq _ 4 (by decide)
      have e2 : nI q &&& 15 = nI (q % 16) := pk_andN (by omega) 4 (by decide)
      have e3 : nI q / 16 = nI (q / 16) := pk_div (d := 16) hq (by decide) (by decide)
      refine nm_r e1 (nm_r e2 (ic_Xt hc (br_f mp_10 (br_f (nI_pos (by omega)) ?_))))
      by_cases h16 : q / 16 ≤ 16
      · have g1 : ¬ (16 : Int32) < nI (q / 16) := nI_nlt (a := 16) h16 (by decide)
        have g1' : ¬ (16 : Int32) < nI q / 16 := by rw [e3]; exact g1
        by_cases h9 : q % 16 ≤ 9
        · have g2 : nI (q % 16) ≤ 9 := nI_le (b := 9) h9 (by decide)
          have g2' : nI q - nI q / 16 * 16 ≤ 9 := by rw [wl_rm hq]; exact g2
          obtain ⟨x, y, hx, hy, rfl, rfl⟩ := mp_Cn hc
          obtain ⟨r, w', hw', hX, hY⟩ := wl_b (c := nI c) (x3 := v3) (a := a) (b := b) hx hy hq h9 h16 hw
          exact br_f g1 (br_t g2 (hX _ (ic_Yt hc (br_f mp_10 (br_f hn ⟨by decide, br_f g1' ⟨by decide, br_t g2' (hY _ ⟨rfl, rl_i h1 h2 hw'⟩)⟩⟩)))))
        · have g2 : ¬ nI (q % 16) ≤ 9 := nI_ge (a := 9) (by omega) (by omega)
          have g2' : ¬ nI q - nI q / 16 * 16 ≤ 9 := by rw [wl_rm hq]; exact g2
          exact br_f g1 (br_f g2 (ic_Yt hc (br_f mp_10 (br_f hn ⟨by decide, br_f g1' ⟨by decide, br_f g2' ⟨rfl, rl_i h1 h2 hw⟩⟩⟩))))
      · have g1 : (16 : Int32) < nI (q / 16) := nI_lt (a := 16) (by omega) (by omega)
        have g1' : (16 : Int32) < nI q / 16 := by rw [e3]; exact g1
        exact br_t g1 (ic_Yt hc (br_f mp_10 (br_f hn ⟨by decide, br_t g1' ⟨rfl, rl_i h1 h2 hw⟩⟩)))
  · exact nm_e (nm_e (ic_Xf hc (br_t rfl (ic_Yf hc (br_t rfl ⟨rfl, rl_i h1 h2 hw⟩)))))
theorem i_vc_weight {k : Nat} {u : SX} {v : SY} (I : i_Rel k u v) (hk : k + 5 ≤ 2560) (v1 : Int32) (v2 : Int32) : wpX_weight (fun r => wpY_weight (fun r' => r' = r ∧ i_Rel (k + 5) u v) v v1 v2) u v1 v2 := by
  obtain ⟨c, w, a, b, rfl, rfl, h1, h2, hw⟩ := I
  obtain ⟨n, hn, hX, hY⟩ := wt_b v1 v2 (nI c) w a b hw
  exact hX _ (hY _ ⟨rfl, rl_i h1 h2 hw⟩)
theorem i_vc_fade {k : Nat} {u : SX} {v : SY} (I : i_Rel k u v) (hk : k + 5 ≤ 2560) : wpX_fade (fun r u' => wpY_fade (fun r' v' => r' = r ∧ i_Rel (k + 5) u' v') v) u := by
  obtain ⟨c, w, a, b, rfl, rfl, h1, h2, hw⟩ := I
  obtain ⟨r, w', hw', hX, hY⟩ := fd_l (c := nI c) (a := a) (b := b) 256 0 0 w (by omega) hw
  unfold wpX_fade wpY_fade
  exact ⟨_, hX _ ⟨_, hY _ ⟨rfl, rl_i h1 h2 hw'⟩⟩⟩
theorem i_vc_scan {k : Nat} {u : SX} {v : SY} (I : i_Rel k u v) (hk : k + 5 ≤ 2560) (v1 : Int32) (v2 : Int32) : wpX_scan (fun r u' => wpY_scan (fun r' v' => r' = r ∧ i_Rel (k + 5) u' v') v v1 v2) u v1 v2 := by
  obtain ⟨c, w, a, b, rfl, rfl, h1, h2, hw⟩ := I
  unfold wpX_scan wpY_scan
  dsimp only
  by_cases hq : mp_Q v1 v2
  · exact pt_Xt hq (br_f mp_10 (nm_e (nm_e (pt_Yt hq (br_f mp_10 (nm_e (nm_e ⟨rfl, rl_i (c := 1) (by omega) (by omega) hw⟩)))))))
  · exact pt_Xf hq (br_t rfl (pt_Yf hq (br_t rfl ⟨rfl, rl_i h1 h2 hw⟩)))
theorem i_vc_point {k : Nat} {u : SX} {v : SY} (I : i_Rel k u v) (hk : k + 5 ≤ 2560) (v1 : Int32) (v2 : Int32) : wpX_point (fun r u' => wpY_point (fun r' v' => r' = r ∧ i_Rel (k + 5) u' v') v v1 v2) u v1 v2 := by
  obtain ⟨c, w, a, b, rfl, rfl, h1, h2, hw⟩ := I
  unfold wpX_point wpY_point
  dsimp only
  by_cases hq : mp_Q v1 v2
  · by_cases hc : c < 10
    · have g : nI c < 10 := nI_lt (b := 10) hc (by decide)
      have g' : ¬ nI c = 10 := fun e => by
        have := (nI_eq (b := 10) (by omega) (by omega)).mp e
        omega
      have hv : vp_in (nI c) 10 := vp_in_nI hc (by omega)
      exact pt_Xt hq (br_f mp_10 (br_t g ⟨hv, nm_e ⟨hv, nm_e (nm_r (nI_1 c) (pt_Yt hq (br_f mp_10 (br_f g' ⟨hv, nm_e ⟨hv, nm_e (nm_r (nI_1 c) ⟨rfl, rl_i (by omega) (by omega) hw⟩)⟩⟩))))⟩⟩))
    · have g : ¬ nI c < 10 := nI_nlt (b := 10) (by omega) (by omega)
      have g' : nI c = 10 := (nI_eq (b := 10) (by omega) (by omega)).mpr (by omega)
      exact pt_Xt hq (br_f mp_10 (br_f g (pt_Yt hq (br_f mp_10 (br_t g' ⟨rfl, rl_i h1 h2 hw⟩)))))
  · exact pt_Xf hq (br_t rfl (pt_Yf hq (br_t rfl ⟨rfl, rl_i h1 h2 hw⟩)))
theorem i_vc_look {k : Nat} {u : SX} {v : SY} (I : i_Rel k u v) (hk : k + 5 ≤ 2560) (v1 : Int32) (v2 : Int32) (v3 : Int32) : wpX_look (fun r u' => wpY_look (fun r' v' => r' = r ∧ i_Rel (k + 5) u' v') v v1 v2 v3) u v1 v2 v3 := by
  obtain ⟨c, w, a, b, rfl, rfl, h1, h2, hw⟩ := I
  unfold wpX_look wpY_look
  dsimp only
  by_cases hc : mp_C v1 v2
  · by_cases h0 : v3 < 1
    · exact ic_Xt hc (br_f mp_10 (br_t h0 (ic_Yt hc (br_f mp_10 (br_t h0 ⟨rfl, rl_i h1 h2 hw⟩)))))
    · by_cases h9 : v3 ≤ 9
      · obtain ⟨x, y, hx, hy, rfl, rfl⟩ := mp_Cn hc
        obtain ⟨r, c', a', b', g1, g2, hX, hY⟩ := lk_b (t := v3) (a := a) (b := b) hx hy h1 h2 hw
        exact ic_Xt hc (br_f mp_10 (br_f h0 (br_t h9 (hX _ (ic_Yt hc (br_f mp_10 (br_f h0 (br_t h9 (hY _ ⟨rfl, rl_i g1 g2 hw⟩)))))))))
      · exact ic_Xt hc (br_f mp_10 (br_f h0 (br_f h9 (ic_Yt hc (br_f mp_10 (br_f h0 (br_f h9 ⟨rfl, rl_i h1 h2 hw⟩)))))))
  · exact ic_Xf hc (br_t rfl (ic_Yf hc (br_t rfl ⟨rfl, rl_i h1 h2 hw⟩)))
theorem i_vc_stamp {k : Nat} {u : SX} {v : SY} (I : i_Rel k u v) (hk : k + 5 ≤ 2560) (v1 : Int32) (v2 : Int32) : wpX_stamp (fun r u' => wpY_stamp (fun r' v' => r' = r ∧ i_Rel (k + 5) u' v') v v1 v2) u v1 v2 := by
  obtain ⟨c, w, a, b, rfl, rfl, h1, h2, hw⟩ := I
  unfold wpX_stamp wpY_stamp
  dsimp only
  by_cases hP : mp_P v1
  · obtain ⟨p, hp, rfl⟩ := mp_of (m := 1024) hP.1 hP.2
    by_cases h0 : v2 < 1
    · exact ip_Xt hp (br_f mp_10 (br_t h0 (ip_Yt hp (br_f mp_10 (br_t h0 ⟨rfl, rl_i h1 h2 hw⟩)))))
    · by_cases h9 : v2 ≤ 9
      · have hz : ¬ v2 < 0 := fun z => h0 (by
          rw [Int32.lt_iff_toInt_lt, mp_t0] at z
          rw [Int32.lt_iff_toInt_lt, show (1 : Int32).toInt = 1 from by decide]
          omega)
        obtain ⟨s, hs, rfl⟩ := nI_of2 mp_t9 hz h9
        obtain ⟨r, w', hw', hX, hY⟩ := st_l (a := a) (b := b) h2 hp hs c 0 0 w (by omega) hw
        exact ip_Xt hp (br_f mp_10 (br_f h0 (br_t h9 ⟨_, hX _ (ip_Yt hp (br_f mp_10 (br_f h0 (br_t h9 ⟨_, hY _ ⟨rfl, rl_i h1 h2 hw'⟩⟩))))⟩)))
      · exact ip_Xt hp (br_f mp_10 (br_f h0 (br_f h9 (ip_Yt hp (br_f mp_10 (br_f h0 (br_f h9 ⟨rfl, rl_i h1 h2 hw⟩)))))))
  · exact ip_Xf hP (br_t rfl (ip_Yf hP (br_t rfl ⟨rfl, rl_i h1 h2 hw⟩)))
theorem i_vc_points {k : Nat} {u : SX} {v : SY} (I : i_Rel k u v) (hk : k + 5 ≤ 2560) : wpX_points (fun r => wpY_points (fun r' => r' = r ∧ i_Rel (k + 5) u v) v) u := by
  obtain ⟨c, w, a, b, rfl, rfl, h1, h2, hw⟩ := I
  exact ⟨rfl, rl_i h1 h2 hw⟩
theorem i_vc_score {k : Nat} {u : SX} {v : SY} (I : i_Rel k u v) (hk : k + 5 ≤ 2560) (v1 : Int32) : wpX_score (fun r => wpY_score (fun r' => r' = r ∧ i_Rel (k + 5) u v) v v1) u v1 := by
  obtain ⟨c, w, a, b, rfl, rfl, h1, h2, hw⟩ := I
  by_cases hP : mp_P v1
  · obtain ⟨p, hp, rfl⟩ := mp_of (m := 1024) hP.1 hP.2
    obtain ⟨s, hs, sX, sY⟩ := sc_b (a := a) (b := b) hw h2 hp
    refine sX _ ?_
    unfold wpY_score
    exact ip_Yt hp (br_f mp_10 (sY _ ⟨rfl, rl_i h1 h2 hw⟩))
  · unfold wpX_score wpY_score
    exact ip_Xf hP (br_t rfl (ip_Yf hP (br_t rfl ⟨rfl, rl_i h1 h2 hw⟩)))
theorem i_vc_best {k : Nat} {u : SX} {v : SY} (I : i_Rel k u v) (hk : k + 5 ≤ 2560) : wpX_best (fun r => wpY_best (fun r' => r' = r ∧ i_Rel (k + 5) u v) v) u := by
  obtain ⟨c, w, a, b, rfl, rfl, h1, h2, hw⟩ := I
  obtain ⟨m, hm, hX, hY⟩ := mt_b (a := a) (b := b) hw h2
  obtain ⟨s, hs, sX, sY⟩ := sc_b (a := a) (b := b) hw h2 hm
  unfold wpX_best wpY_best
  exact hX _ (sX _ (hY _ (sY _ ⟨rfl, rl_i h1 h2 hw⟩)))
theorem i_vc_match {k : Nat} {u : SX} {v : SY} (I : i_Rel k u v) (hk : k + 5 ≤ 2560) : wpX_match (fun r => wpY_match (fun r' => r' = r ∧ i_Rel (k + 5) u v) v) u := by
  obtain ⟨c, w, a, b, rfl, rfl, h1, h2, hw⟩ := I
  obtain ⟨m, hm, hX, hY⟩ := mt_b (a := a) (b := b) hw h2
  exact hX _ (hY _ ⟨rfl, rl_i h1 h2 hw⟩)
theorem i_vc_matchNear {k : Nat} {u : SX} {v : SY} (I : i_Rel k u v) (hk : k + 5 ≤ 2560) (v1 : Int32) (v2 : Int32) (v3 : Int32) : wpX_matchNear (fun r => wpY_matchNear (fun r' => r' = r ∧ i_Rel (k + 5) u v) v v1 v2 v3) u v1 v2 v3 := by
  obtain ⟨c, w, a, b, rfl, rfl, h1, h2, hw⟩ := I
  unfold wpX_matchNear wpY_matchNear
  dsimp only
  by_cases r0 : v1 < 0
  · exact br_t r0 (br_t r0 ⟨rfl, rl_i h1 h2 hw⟩)
  obtain ⟨r, hr, rfl⟩ := nI_of r0
  by_cases r4 : r < 4
  case neg => exact br_f r0 (br_t (nI_le (a := 4) (by omega) (by omega)) (br_f r0 (br_t (nI_lt (a := 3) (by omega) (by omega)) ⟨rfl, rl_i h1 h2 hw⟩)))
  have r4x : ¬ (4 : Int32) ≤ nI r := nI_ge (b := 4) r4 (by decide)
  have r4y : ¬ (3 : Int32) < nI r := nI_nlt (a := 3) (by omega) (by decide)
  by_cases q0 : v2 < 0
  · exact br_f r0 (br_f r4x (br_t q0 (br_f r0 (br_f r4y (br_t q0 ⟨rfl, rl_i h1 h2 hw⟩)))))
  obtain ⟨q, hq, rfl⟩ := nI_of q0
  by_cases q4 : q < 256
  case neg => exact br_f r0 (br_f r4x (br_f q0 (br_t (nI_le (a := 256) (by omega) (by omega)) (br_f r0 (br_f r4y (br_f q0 (br_t (nI_lt (a := 255) (by omega) (by omega)) ⟨rfl, rl_i h1 h2 hw⟩)))))))
  have q4x : ¬ (256 : Int32) ≤ nI q := nI_ge (b := 256) q4 (by decide)
  have q4y : ¬ (255 : Int32) < nI q := nI_nlt (a := 255) (by omega) (by decide)
  by_cases d0 : v3 < 0
  · exact br_f r0 (br_f r4x (br_f q0 (br_f q4x (br_t d0 (br_f r0 (br_f r4y (br_f q0 (br_f q4y (br_t d0 ⟨rfl, rl_i h1 h2 hw⟩)))))))))
  obtain ⟨d, hd, rfl⟩ := nI_of d0
  by_cases d4 : d < 16
  case neg => exact br_f r0 (br_f r4x (br_f q0 (br_f q4x (br_f d0 (br_f (nI_nlt (b := 16) (by omega) (by omega)) (br_f r0 (br_f r4y (br_f q0 (br_f q4y (br_f d0 (br_f (nI_ge (a := 15) (by omega) (by omega)) ⟨rfl, rl_i h1 h2 hw⟩)))))))))))
  have d4x : nI d < 16 := nI_lt (b := 16) d4 (by decide)
  have d4y : nI d ≤ 15 := nI_le (b := 15) (by omega) (by decide)
  have e : (256 : Int32) * nI r = nI (256 * r) := pk_mul 256 r
  obtain ⟨s, hX, hY⟩ := mn_i (a := a) (b := b) hw h2 r4 q4 d4 256 (256 * r) (by omega) (by omega)
  refine br_f r0 (br_f r4x (br_f q0 (br_f q4x (br_f d0 (br_t d4x (nm_r e ?_))))))
  rw [show nI (256 * r) + 256 = nI (256 * r + 256) from nI_add (256 * r) 256]
  unfold wpX_firstGreatest
  exact ⟨_, hX _ (br_f r0 (br_f r4y (br_f q0 (br_f q4y (br_f d0 (br_t d4y (nm_r e ⟨_, hY _ ⟨rfl, rl_i h1 h2 hw⟩⟩)))))))⟩
theorem i_vc_atLeast {k : Nat} {u : SX} {v : SY} (I : i_Rel k u v) (hk : k + 5 ≤ 2560) (v1 : Int32) : wpX_atLeast (fun r => wpY_atLeast (fun r' => r' = r ∧ i_Rel (k + 5) u v) v v1) u v1 := by
  obtain ⟨c, w, a, b, rfl, rfl, h1, h2, hw⟩ := I
  obtain ⟨s, hX, hY⟩ := al_l (a := a) (b := b) (t := v1) hw h2 1024 0 0 (by omega)
  unfold wpX_atLeast wpY_atLeast
  exact ⟨_, hX _ ⟨_, hY _ ⟨rfl, rl_i h1 h2 hw⟩⟩⟩
theorem i_vc_rival {k : Nat} {u : SX} {v : SY} (I : i_Rel k u v) (hk : k + 5 ≤ 2560) : wpX_rival (fun r => wpY_rival (fun r' => r' = r ∧ i_Rel (k + 5) u v) v) u := by
  obtain ⟨c, w, a, b, rfl, rfl, h1, h2, hw⟩ := I
  obtain ⟨m, hm, hX, hY⟩ := mt_b (a := a) (b := b) hw h2
  obtain ⟨s, rX, rY⟩ := rv_l (a := a) (b := b) hw h2 hm 1024 0 (-4) (by omega) (by decide)
  unfold wpX_rival wpY_rival
  exact hX _ ⟨_, rX _ (hY _ ⟨_, rY _ ⟨rfl, rl_i h1 h2 hw⟩⟩)⟩
