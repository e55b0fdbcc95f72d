/-- column and row of point i in pose p -/
def mp_x (a b : Nat → Int32) (i p : Nat) : Int32 := if p / 256 = 0 then nI (p % 16) + a i else if p / 256 = 1 then nI (p % 16) - b i else if p / 256 = 2 then nI (p % 16) - a i else nI (p % 16) + b i
def mp_y (a b : Nat → Int32) (i p : Nat) : Int32 := if p / 256 = 0 then nI (p / 16 % 16) + b i else if p / 256 = 1 then nI (p / 16 % 16) + a i else if p / 256 = 2 then nI (p / 16 % 16) - b i else nI (p / 16 % 16) - a i
theorem mp_x0 {a b : Nat → Int32} {i p : Nat} (h : p / 256 = 0) : mp_x a b i p = nI (p % 16) + a i := if_pos h
theorem mp_x1 {a b : Nat → Int32} {i p : Nat} (h : p / 256 = 1) : mp_x a b i p = nI (p % 16) - b i := by
  unfold mp_x; rw [if_neg (by omega), if_pos h]
theorem mp_x2 {a b : Nat → Int32} {i p : Nat} (h : p / 256 = 2) : mp_x a b i p = nI (p % 16) - a i := by
  unfold mp_x; rw [if_neg (by omega), if_neg (by omega), if_pos h]
theorem mp_x3 {a b : Nat → Int32} {i p : Nat} (h : p / 256 = 3) : mp_x a b i p = nI (p % 16) + b i := by
  unfold mp_x; rw [if_neg (by omega), if_neg (by omega), if_neg (by omega)]
theorem mp_y0 {a b : Nat → Int32} {i p : Nat} (h : p / 256 = 0) : mp_y a b i p = nI (p / 16 % 16) + b i := if_pos h
theorem mp_y1 {a b : Nat → Int32} {i p : Nat} (h : p / 256 = 1) : mp_y a b i p = nI (p / 16 % 16) + a i := by
  unfold mp_y; rw [if_neg (by omega), if_pos h]
theorem mp_y2 {a b : Nat → Int32} {i p : Nat} (h : p / 256 = 2) : mp_y a b i p = nI (p / 16 % 16) - b i := by
  unfold mp_y; rw [if_neg (by omega), if_neg (by omega), if_pos h]
theorem mp_y3 {a b : Nat → Int32} {i p : Nat} (h : p / 256 = 3) : mp_y a b i p = nI (p / 16 % 16) - a i := by
  unfold mp_y; rw [if_neg (by omega), if_neg (by omega), if_neg (by omega)]
theorem mp_col {p : Nat} (h : p < 1024) : nI p &&& 15 = nI (p % 16) := pk_andN (by omega) 4 (by decide)
theorem mp_row {p : Nat} (h : p < 1024) : (nI p >>> ((4 : Int32) &&& 31)) &&& 15 = nI (p / 16 % 16) := by
  rw [pk_shrN (by omega) _ 4 (by decide)]
  exact pk_andN (by omega) 4 (by decide)
theorem mp_turn {p : Nat} (h : p < 1024) : nI p >>> ((8 : Int32) &&& 31) = nI (p / 256) := pk_shrN (by omega) _ 8 (by decide)
theorem mp_dcol {p : Nat} (h : p < 1024) : nI p - nI p / 16 * 16 = nI (p % 16) := pk_rem (d := 16) (by omega) (by decide) (by decide)
theorem mp_d16 {p : Nat} (h : p < 1024) : nI p / 16 = nI (p / 16) := pk_div (d := 16) (by omega) (by decide) (by decide)
theorem mp_drow {p : Nat} (h : p < 1024) : (nI p / 16) - (nI p / 16) / 16 * 16 = nI (p / 16 % 16) := by
  rw [mp_d16 h]
  exact mp_dcol (by omega)
theorem mp_dturn {p : Nat} (h : p < 1024) : nI p / 256 = nI (p / 256) := pk_div (d := 256) (by omega) (by decide) (by decide)
theorem cu_j {post : Int32 → Prop} {x y c : Int32} {w a b : Nat → Int32} (h1 : mp_C x y → post (16 * y + x)) (h0 : ¬ mp_C x y → post (-1)) : wX_cellUnder_117 post x y c w a b := by
  unfold wX_cellUnder_117
  by_cases h : mp_C x y
  · exact ic_Xt h (br_f mp_10 (h1 h))
  · exact ic_Xf h (br_t rfl (h0 h))
theorem cu_X {post : Int32 → Prop} {c : Int32} {w a b : Nat → Int32} {i p : Nat} (hi : i < 10) (hp : p < 1024) (h1 : mp_C (mp_x a b i p) (mp_y a b i p) → post (16 * mp_y a b i p + mp_x a b i p)) (h0 : ¬ mp_C (mp_x a b i p) (mp_y a b i p) → post (-1)) : wpX_cellUnder post (c, w, a, b) (nI i) (nI p) := by
  have hv : vp_in (nI i) 10 := vp_in_nI hi (by omega)
  unfold wpX_cellUnder wpX_columnOf wpX_rowOf wpX_turnOf
  dsimp only
  rw [nI_clamp (n := i) (by omega), mp_row hp, mp_col hp, mp_turn hp]
  refine ⟨hv, nm_e ⟨hv, nm_e ?_⟩⟩
  have hk : p / 256 = 0 ∨ p / 256 = 1 ∨ p / 256 = 2 ∨ p / 256 = 3 := by omega
  rcases hk with h | h | h | h
  · rw [mp_x0 h, mp_y0 h] at h1 h0
    rw [h]
    exact br_f (by decide +kernel) (br_f (by decide +kernel) (br_t (by decide +kernel) (nm_e (nm_e (cu_j h1 h0)))))
  · rw [mp_x1 h, mp_y1 h] at h1 h0
    rw [h]
    exact br_f (by decide +kernel) (br_f (by decide +kernel) (br_f (by decide +kernel) (br_t (by decide +kernel) (nm_e (nm_e (cu_j h1 h0))))))
  · rw [mp_x2 h, mp_y2 h] at h1 h0
    rw [h]
    exact br_f (by decide +kernel) (br_f (by decide +kernel) (br_f (by decide +kernel) (br_f (by decide +kernel) (br_t (by decide +kernel) (nm_e (nm_e (cu_j h1 h0)))))))
  · rw [mp_x3 h, mp_y3 h] at h1 h0
    rw [h]
    exact br_f (by decide +kernel) (br_t (by decide +kernel) (nm_e (nm_e (cu_j h1 h0))))
theorem xo_Y {post : Int32 → Prop} {c : Int32} {w a b : Nat → Int32} {i p : Nat} (hi : i < 10) (hp : p < 1024) (q : post (mp_x a b i p)) : wpY_xOf post (c, w, a, b) (nI i) (nI p) := by
  have hv : vp_in (nI i) 10 := vp_in_nI hi (by omega)
  unfold wpY_xOf
  dsimp only
  rw [nI_clamp (n := i) (by omega), mp_dcol hp, mp_dturn hp]
  refine ⟨by decide, nm_e ?_⟩
  have hk : p / 256 = 0 ∨ p / 256 = 1 ∨ p / 256 = 2 ∨ p / 256 = 3 := by omega
  rcases hk with h | h | h | h
  · rw [mp_x0 h] at q
    rw [h]
    exact br_t (by decide +kernel) ⟨hv, nm_e ⟨by decide, q⟩⟩
  · rw [mp_x1 h, Int32.sub_eq_add_neg] at q
    rw [h]
    exact br_f (by decide +kernel) (br_t (by decide +kernel) ⟨hv, nm_e ⟨by decide, q⟩⟩)
  · rw [mp_x2 h, Int32.sub_eq_add_neg] at q
    rw [h]
    exact br_f (by decide +kernel) (br_f (by decide +kernel) (br_t (by decide +kernel) ⟨hv, nm_e ⟨by decide, q⟩⟩))
  · rw [mp_x3 h] at q
    rw [h]
    exact br_f (by decide +kernel) (br_f (by decide +kernel) (br_f (by decide +kernel) ⟨hv, nm_e ⟨by decide, q⟩⟩))
theorem yo_j {post : Int32 → Prop} {z c : Int32} {w a b : Nat → Int32} {p : Nat} (hp : p < 1024) (q : post (nI (p / 16 % 16) + z)) : wY_yOf_55 post (nI p) z c w a b := by
  unfold wY_yOf_55
  rw [mp_drow hp]
  exact ⟨by decide, by decide, q⟩
theorem yo_Y {post : Int32 → Prop} {c : Int32} {w a b : Nat → Int32} {i p : Nat} (hi : i < 10) (hp : p < 1024) (q : post (mp_y a b i p)) : wpY_yOf post (c, w, a, b) (nI i) (nI p) := by
  have hv : vp_in (nI i) 10 := vp_in_nI hi (by omega)
  unfold wpY_yOf
  dsimp only
  rw [nI_clamp (n := i) (by omega), mp_dturn hp]
  refine ⟨by decide, nm_e ?_⟩
  have hk : p / 256 = 0 ∨ p / 256 = 1 ∨ p / 256 = 2 ∨ p / 256 = 3 := by omega
  rcases hk with h | h | h | h
  · rw [mp_y0 h] at q
    rw [h]
    exact br_t (by decide +kernel) ⟨hv, yo_j hp q⟩
  · rw [mp_y1 h] at q
    rw [h]
    exact br_f (by decide +kernel) (br_t (by decide +kernel) ⟨hv, yo_j hp q⟩)
  · rw [mp_y2 h, Int32.sub_eq_add_neg] at q
    rw [h]
    exact br_f (by decide +kernel) (br_f (by decide +kernel) (br_t (by decide +kernel) ⟨hv, yo_j hp q⟩))
  · rw [mp_y3 h, Int32.sub_eq_add_neg] at q
    rw [h]
    exact br_f (by decide +kernel) (br_f (by decide +kernel) (br_f (by decide +kernel) ⟨hv, yo_j hp q⟩))
theorem wy_t {post : Int32 → Prop} {x y c : Int32} {w a b : Nat → Int32} (h : mp_C x y) (q : post (w ((16 * y) + x).toNatClampNeg)) : wpY_weight post (c, w, a, b) x y := by
  unfold wpY_weight
  exact ic_Yt h (br_f mp_10 ⟨mp_Cin h, q⟩)
theorem wy_f {post : Int32 → Prop} {x y c : Int32} {w a b : Nat → Int32} (h : ¬ mp_C x y) (q : post 0) : wpY_weight post (c, w, a, b) x y := by
  unfold wpY_weight
  exact ic_Yf h (br_t rfl q)
theorem mp_nm {k : Nat} (h : k < 256) : ¬ nI k = -1 := by
  intro e
  have t : (nI k).toInt = (-1 : Int32).toInt := congrArg Int32.toInt e
  rw [nI_toInt (by omega), show (-1 : Int32).toInt = -1 from by decide] at t
  omega
theorem mp_Cne {x y : Int32} (h : mp_C x y) : ¬ (16 * y) + x = -1 := by
  obtain ⟨k, hk, e⟩ := mp_Ck h
  rw [e]
  exact mp_nm hk
theorem sc_l {c p : Nat} {w a b : Nat → Int32} (hw : mp_W w) (hc : c ≤ 10) (hp : p < 1024) : ∀ d i s : Nat, i + d = c → ∃ r : Nat, r ≤ s + 9 * d ∧ (∀ post : Int32 → Prop, post (nI r) → wX_score_13 post (nI p) (nI c) w a b (d + 1) (nI s) (nI i)) ∧ (∀ post : Int32 → Prop, post (nI r) → wY_scoreOf_4 post (nI p) (nI c) w a b (d + 1) (nI s) (nI i)) := by
  intro d
  induction d with
  | zero =>
    intro i s hi
    have h : nI c ≤ nI i := nI_le (by omega) (by omega)
    exact ⟨s, by omega, fun post q => br_t h q, fun post q => br_t h q⟩
  | succ d ih =>
    intro i s hi
    have hn : ¬ nI c ≤ nI i := nI_ge (by omega) (by omega)
    by_cases h : mp_C (mp_x a b i p) (mp_y a b i p)
    · obtain ⟨n, hn9, en⟩ := hw ((16 * mp_y a b i p) + mp_x a b i p).toNatClampNeg
      obtain ⟨r, hr, hX, hY⟩ := ih (i + 1) (s + n) (by omega)
      have e : nI s + w ((16 * mp_y a b i p) + mp_x a b i p).toNatClampNeg = nI (s + n) := by rw [en, nI_add]
      refine ⟨r, by omega, fun post q => br_f hn (cu_X (by omega) hp (fun _ => br_f (mp_Cne h) ⟨mp_Cin h, nm_r e (nm_r (nI_1 i) (hX post q))⟩) (fun h' => absurd h h')), fun post q => br_f hn (xo_Y (by omega) hp (yo_Y (by omega) hp (wy_t h (nm_r e (nm_r (nI_1 i) (hY post q))))))⟩
    · obtain ⟨r, hr, hX, hY⟩ := ih (i + 1) s (by omega)
      refine ⟨r, by omega, fun post q => br_f hn (cu_X (by omega) hp (fun h' => absurd h' h) (fun _ => br_t rfl (nm_r (nI_1 i) (hX post q)))), fun post q => br_f hn (xo_Y (by omega) hp (yo_Y (by omega) hp (wy_f h (nm_r (Int32.add_zero _) (nm_r (nI_1 i) (hY post q))))))⟩
/-- the score of a pose: one answer for both sides, from 0 to 90 -/
theorem sc_b {c p : Nat} {w a b : Nat → Int32} (hw : mp_W w) (hc : c ≤ 10) (hp : p < 1024) : ∃ r : Nat, r ≤ 90 ∧ (∀ post : Int32 → Prop, post (nI r) → wpX_score post (nI c, w, a, b) (nI p)) ∧ (∀ post : Int32 → Prop, post (nI r) → wpY_scoreOf post (nI c, w, a, b) (nI p)) := by
  obtain ⟨r, hr, hX, hY⟩ := sc_l (a := a) (b := b) hw hc hp c 0 0 (by omega)
  refine ⟨r, by omega, fun post q => ?_, fun post q => ?_⟩
  · unfold wpX_score
    exact ip_Xt hp (br_f mp_10 ⟨_, hX post q⟩)
  · unfold wpY_scoreOf
    exact ⟨_, hY post q⟩
