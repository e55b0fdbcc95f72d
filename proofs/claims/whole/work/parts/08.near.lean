theorem mn_118 {post : Int32 → Prop} {J : Int32 → Int32 → Int32 → Prop} {x1 x2 x3 x4 x5 x6 z c : Int32} {w a b : Nat → Int32} (h1 : z ≤ x5 → J x4 x5 (x6 + 1)) (h0 : ¬ z ≤ x5 → J x6 z (x6 + 1)) : wY_matchNear_118 post J x1 x2 x3 x4 x5 x6 z c w a b := by
  unfold wY_matchNear_118
  refine br_c (fun g => ?_) (fun g => ?_)
  · unfold wY_matchNear_134
    exact br_t g (nm_e (h1 g))
  · unfold wY_matchNear_134
    exact br_f g (nm_e (h0 g))
theorem mn_ge {r p : Nat} (hr : r < 4) (h : p < 256 * r + 256) : ¬ (256 * nI r) + 256 ≤ nI p := by
  rw [show (256 : Int32) = nI 256 from rfl, pk_mul, nI_add]
  exact nI_ge h (by omega)
theorem mn_le {r p : Nat} (hr : r < 4) (h : p = 256 * r + 256) : (256 * nI r) + 256 ≤ nI p := by
  rw [show (256 : Int32) = nI 256 from rfl, pk_mul, nI_add]
  exact nI_le (by omega) (by omega)
/-- the reference's step in matchNear -/
theorem mn_t {post : Int32 → Prop} {x4 x5 c : Int32} {w a b : Nat → Int32} {n p q d r : Nat} (hr : r < 4) (hp : p < 256 * r + 256) (hq : q < 256) (hd : d < 16) (h1 : mp_N p q d → wY_matchNear_101 post (wY_matchNear_45 post (nI r) (nI q) (nI d) c w a b n) (nI r) (nI q) (nI d) x4 x5 (nI p) 1 c w a b) (h0 : ¬ mp_N p q d → wY_matchNear_101 post (wY_matchNear_45 post (nI r) (nI q) (nI d) c w a b n) (nI r) (nI q) (nI d) x4 x5 (nI p) 0 c w a b) : wY_matchNear_45 post (nI r) (nI q) (nI d) c w a b (n + 1) x4 x5 (nI p) := by
  have hp1 : p < 1024 := by omega
  have hq1 : q < 1024 := by omega
  unfold mp_N at h1 h0
  refine br_f (mn_ge hr hp) ⟨by decide, by decide, ?_⟩
  rw [mp_dcol hp1, mp_dcol hq1]
  refine nr_Y (by omega) (by omega) hd (fun g => br_f mp_10 ⟨by decide, by decide, by decide, ?_⟩) (fun g => br_t rfl ?_)
  · rw [mp_drow hp1, mp_d16 hq1]
    refine nr_Y (by omega) (by omega) hd (fun g2 => br_f mp_10 (h1 (by omega))) (fun g2 => br_t rfl ?_)
    unfold wY_matchNear_100
    exact h0 (by omega)
  · unfold wY_matchNear_100
    exact h0 (by omega)
theorem mn_s {c : Nat} {w a b : Nat → Int32} {q dd r : Nat} (hw : mp_W w) (hc : c ≤ 10) (hr : r < 4) (hq : q < 256) (hd : dd < 16) : ∀ d p m g : Nat, p + d = 256 * r + 256 → g ≤ 90 → ∃ s : Int32, (∀ post : Int32 → Prop, post s → wX_firstGreatest_11 post (nI (256 * r + 256)) (nI q) (nI dd) (nI c) w a b (d + 1) (nI m) (nI g) (nI p)) ∧ (∀ post : Int32 → Prop, post s → wY_matchNear_45 post (nI r) (nI q) (nI dd) (nI c) w a b (d + 1) (nI m) (nI g) (nI p)) := by
  intro d
  induction d with
  | zero =>
    intro p m g hp hg
    exact ⟨nI m, fun post q0 => br_t (nI_le (by omega) (by omega)) q0, fun post q0 => br_t (mn_le hr (by omega)) q0⟩
  | succ d ih =>
    intro p m g hp hg
    have h : ¬ nI (256 * r + 256) ≤ nI p := nI_ge (by omega) (by omega)
    have hp1 : p < 1024 := by omega
    by_cases hN : mp_N p q dd
    · obtain ⟨s, hs, sX, sY⟩ := sc_b (a := a) (b := b) hw hc hp1
      by_cases hle : s ≤ g
      · have hl : nI s ≤ nI g := nI_le hle (by omega)
        obtain ⟨t, hX, hY⟩ := ih (p + 1) m g (by omega) hg
        refine ⟨t, fun post q0 => br_f h (nr_X hp1 (by omega) hd (fun _ => br_f mp_10 (sX _ (br_t hl (nm_r (nI_1 p) (hX post q0))))) (fun z => absurd hN z)), fun post q0 => mn_t hr (by omega) hq hd (fun _ => ?_) (fun z => absurd hN z)⟩
        unfold wY_matchNear_101
        refine br_f mp_10 (sY _ (mn_118 (fun _ => ?_) (fun z => absurd hl z)))
        rw [nI_1]
        exact hY post q0
      · have hl : ¬ nI s ≤ nI g := nI_ge (by omega) (by omega)
        obtain ⟨t, hX, hY⟩ := ih (p + 1) p s (by omega) hs
        refine ⟨t, fun post q0 => br_f h (nr_X hp1 (by omega) hd (fun _ => br_f mp_10 (sX _ (br_f hl (nm_r (nI_1 p) (hX post q0))))) (fun z => absurd hN z)), fun post q0 => mn_t hr (by omega) hq hd (fun _ => ?_) (fun z => absurd hN z)⟩
        unfold wY_matchNear_101
        refine br_f mp_10 (sY _ (mn_118 (fun z => absurd z hl) (fun _ => ?_)))
        rw [nI_1]
        exact hY post q0
    · obtain ⟨t, hX, hY⟩ := ih (p + 1) m g (by omega) hg
      refine ⟨t, fun post q0 => br_f h (nr_X hp1 (by omega) hd (fun z => absurd z hN) (fun _ => br_t rfl (nm_r (nI_1 p) (hX post q0)))), fun post q0 => mn_t hr (by omega) hq hd (fun z => absurd z hN) (fun _ => ?_)⟩
      unfold wY_matchNear_101
      refine br_t rfl (mn_118 (fun _ => ?_) (fun z => absurd (mt_1' hg) z))
      rw [nI_1]
      exact hY post q0
theorem mn_i {c : Nat} {w a b : Nat → Int32} {q dd r : Nat} (hw : mp_W w) (hc : c ≤ 10) (hr : r < 4) (hq : q < 256) (hd : dd < 16) : ∀ d p : Nat, p + d = 256 * r + 256 → p ≤ 256 * r + q → ∃ s : Int32, (∀ post : Int32 → Prop, post s → wX_firstGreatest_11 post (nI (256 * r + 256)) (nI q) (nI dd) (nI c) w a b (d + 1) (-4) (-4) (nI p)) ∧ (∀ post : Int32 → Prop, post s → wY_matchNear_45 post (nI r) (nI q) (nI dd) (nI c) w a b (d + 1) 0 (-1) (nI p)) := by
  intro d
  induction d with
  | zero =>
    intro p hp hle
    omega
  | succ d ih =>
    intro p hp hle
    have h : ¬ nI (256 * r + 256) ≤ nI p := nI_ge (by omega) (by omega)
    have hp1 : p < 1024 := by omega
    by_cases hN : mp_N p q dd
    · obtain ⟨s, hs, sX, sY⟩ := sc_b (a := a) (b := b) hw hc hp1
      obtain ⟨t, hX, hY⟩ := mn_s (a := a) (b := b) hw hc hr hq hd d (p + 1) p s (by omega) hs
      refine ⟨t, fun post q0 => br_f h (nr_X hp1 (by omega) hd (fun _ => br_f mp_10 (sX _ (br_f (mt_4 hs) (nm_r (nI_1 p) (hX post q0))))) (fun z => absurd hN z)), fun post q0 => mn_t hr (by omega) hq hd (fun _ => ?_) (fun z => absurd hN z)⟩
      unfold wY_matchNear_101
      refine br_f mp_10 (sY _ (mn_118 (fun z => absurd z (mt_1 hs)) (fun _ => ?_)))
      rw [nI_1]
      exact hY post q0
    · have hne : p ≠ 256 * r + q := by
        intro e
        apply hN
        unfold mp_N
        omega
      obtain ⟨t, hX, hY⟩ := ih (p + 1) (by omega) (by omega)
      refine ⟨t, fun post q0 => br_f h (nr_X hp1 (by omega) hd (fun z => absurd z hN) (fun _ => br_t rfl (nm_r (nI_1 p) (hX post q0)))), fun post q0 => mn_t hr (by omega) hq hd (fun z => absurd z hN) (fun _ => ?_)⟩
      unfold wY_matchNear_101
      refine br_t rfl (mn_118 (fun _ => ?_) (fun z => absurd (by decide) z))
      rw [nI_1]
      exact hY post q0
theorem al_l {c : Nat} {w a b : Nat → Int32} {t : Int32} (hw : mp_W w) (hc : c ≤ 10) : ∀ (d p : Nat) (k : Int32), p + d = 1024 → ∃ s : Int32, (∀ post : Int32 → Prop, post s → wX_atLeast_4 post t (nI c) w a b (d + 1) k (nI p)) ∧ (∀ post : Int32 → Prop, post s → wY_atLeast_4 post t (nI c) w a b (d + 1) k (nI p)) := by
  intro d
  induction d with
  | zero =>
    intro p k hp
    have h : (1024 : Int32) ≤ nI p := nI_le (a := 1024) (by omega) (by omega)
    exact ⟨k, fun post q => br_t h q, fun post q => br_t h q⟩
  | succ d ih =>
    intro p k hp
    have h : ¬ (1024 : Int32) ≤ nI p := nI_ge (b := 1024) (by omega) (by decide)
    obtain ⟨s, hs, sX, sY⟩ := sc_b (p := p) (a := a) (b := b) hw hc (by omega)
    by_cases hl : nI s < t
    · obtain ⟨r, hX, hY⟩ := ih (p + 1) k (by omega)
      exact ⟨r, fun post q => br_f h (sX _ (br_t hl (nm_r (nI_1 p) (hX post q)))), fun post q => br_f h (sY _ (br_t hl (nm_r (nI_1 p) (hY post q))))⟩
    · obtain ⟨r, hX, hY⟩ := ih (p + 1) (k + 1) (by omega)
      exact ⟨r, fun post q => br_f h (sX _ (br_f hl (nm_e (nm_r (nI_1 p) (hX post q))))), fun post q => br_f h (sY _ (br_f hl (nm_e (nm_r (nI_1 p) (hY post q)))))⟩
