theorem wl_dn {q i : Nat} (hq : q < 2 ^ 31) (h : i < q / 16) : ¬ nI q / 16 ≤ nI i := by
  rw [show nI q / 16 = nI (q / 16) from pk_div (d := 16) hq (by decide) (by decide)]
  exact nI_ge h (by omega)
theorem wl_dl {q i : Nat} (hq : q < 2 ^ 31) (h : q / 16 = i) : nI q / 16 ≤ nI i := by
  rw [show nI q / 16 = nI (q / 16) from pk_div (d := 16) hq (by decide) (by decide)]
  exact nI_le (by omega) (by omega)
theorem wl_rm {q : Nat} (hq : q < 2 ^ 31) : nI q - nI q / 16 * 16 = nI (q % 16) := pk_rem (d := 16) hq (by decide) (by decide)
/-- the reference's step at a cell -/
theorem wl_Y1 {post : Int32 → SY → Prop} {c k x3 : Int32} {w a b : Nat → Int32} {x y q i n X Z : Nat} (hq : q < 2 ^ 31) (hi : i < q / 16) (hXZ : (x3 = 0 ∧ X = x + i ∧ Z = y) ∨ (¬ x3 = 0 ∧ X = x ∧ Z = y + i)) (hc : X < 16 ∧ Z < 16) (J : wY_wall_42 post (nI x) (nI y) x3 (nI q) c n (k + 1) (nI (i + 1)) (upd w (16 * Z + X) (nI (q % 16))) a b) : wY_wall_42 post (nI x) (nI y) x3 (nI q) c (n + 1) k (nI i) w a b := by
  have hC : mp_C (nI X) (nI Z) := (mp_CI (by omega) (by omega)).mpr hc
  have e : upd w ((16 * nI Z) + nI X).toNatClampNeg (nI q - nI q / 16 * 16) = upd w (16 * Z + X) (nI (q % 16)) := by
    rw [mp_ix, nI_clamp (by omega), wl_rm hq]
  have core : wY_wall_78 post (wY_wall_42 post (nI x) (nI y) x3 (nI q) c n) (nI x) (nI y) x3 (nI q) k (nI i) (nI X) (nI Z) c w a b := by
    unfold wY_wall_78
    exact ic_Yt hC (br_f mp_10 ⟨by decide, mp_Cin hC, nm_r e (nm_e (nm_r (nI_1 i) J))⟩)
  rcases hXZ with ⟨h3, rfl, rfl⟩ | ⟨h3, rfl, rfl⟩
  · refine ⟨by decide, br_f (wl_dn hq hi) (br_t h3 ?_)⟩
    unfold wY_wall_64
    rw [nI_add x i]
    exact br_t h3 core
  · refine ⟨by decide, br_f (wl_dn hq hi) (br_f h3 ?_)⟩
    unfold wY_wall_64
    rw [nI_add y i]
    exact br_f h3 core
/-- the reference's steps beyond the map -/
theorem wl_Y2 {post : Int32 → SY → Prop} {c k x3 : Int32} {w a b : Nat → Int32} {x y q : Nat} (hx : x < 16) (hy : y < 16) (hq : q < 2 ^ 31) (q0 : post k (c, w, a, b)) : ∀ e i : Nat, i + e = q / 16 → (e = 0 ∨ (x3 = 0 ∧ 16 ≤ x + i) ∨ (¬ x3 = 0 ∧ 16 ≤ y + i)) → wY_wall_42 post (nI x) (nI y) x3 (nI q) c (e + 1) k (nI i) w a b := by
  intro e
  induction e with
  | zero =>
    intro i hi _
    exact ⟨by decide, br_t (wl_dl hq (by omega)) q0⟩
  | succ e ih =>
    intro i hi h
    have hlt := wl_dn (i := i) hq (by omega)
    rcases h with h | ⟨h3, h⟩ | ⟨h3, h⟩
    · omega
    · have hC : ¬ mp_C (nI (x + i)) (nI y) := by
        rw [mp_CI (by omega) (by omega)]
        omega
      refine ⟨by decide, br_f hlt (br_t h3 ?_)⟩
      unfold wY_wall_64
      rw [nI_add x i]
      refine br_t h3 ?_
      unfold wY_wall_78
      exact ic_Yf hC (br_t rfl (nm_r (nI_1 i) (ih (i + 1) (by omega) (Or.inr (Or.inl ⟨h3, by omega⟩)))))
    · have hC : ¬ mp_C (nI x) (nI (y + i)) := by
        rw [mp_CI (by omega) (by omega)]
        omega
      refine ⟨by decide, br_f hlt (br_f h3 ?_)⟩
      unfold wY_wall_64
      rw [nI_add y i]
      refine br_f h3 ?_
      unfold wY_wall_78
      exact ic_Yf hC (br_t rfl (nm_r (nI_1 i) (ih (i + 1) (by omega) (Or.inr (Or.inr ⟨h3, by omega⟩)))))
theorem wl_l {c x3 : Int32} {a b : Nat → Int32} {x y q L s : Nat} (hx : x < 16) (hy : y < 16) (hq : q < 2 ^ 31) (h9 : q % 16 ≤ 9) (hL : L ≤ q / 16) (hg : (x3 = 0 ∧ s = 1 ∧ x + L ≤ 16) ∨ (¬ x3 = 0 ∧ s = 16 ∧ y + L ≤ 16)) : ∀ (d i : Nat) (w : Nat → Int32), i + d = L → mp_W w → ∃ w' : Nat → Int32, mp_W w' ∧ (∀ post : Int32 → SX → Prop, post (nI L) (c, w', a, b) → wX_wall_99 post (nI (q % 16)) (nI L) (nI s) (nI (16 * y + x)) c (d + 1) (nI i) w a b) ∧ (∀ (post : Int32 → SY → Prop) (m : Nat), wY_wall_42 post (nI x) (nI y) x3 (nI q) c m (nI L) (nI L) w' a b → wY_wall_42 post (nI x) (nI y) x3 (nI q) c (m + d) (nI i) (nI i) w a b) := by
  intro d
  induction d with
  | zero =>
    intro i w hi hw
    obtain rfl : i = L := by omega
    have hL16 : i ≤ 16 := by omega
    exact ⟨w, hw, fun post q => br_t (nI_le (by omega) (by omega)) q, fun post m h => h⟩
  | succ d ih =>
    intro i w hi hw
    have hL16 : L ≤ 16 := by omega
    obtain ⟨X, Z, hXZ, hc, eK⟩ : ∃ X Z : Nat, ((x3 = 0 ∧ X = x + i ∧ Z = y) ∨ (¬ x3 = 0 ∧ X = x ∧ Z = y + i)) ∧ (X < 16 ∧ Z < 16) ∧ 16 * Z + X = (16 * y + x) + i * s := by
      rcases hg with ⟨h3, rfl, hb⟩ | ⟨h3, rfl, hb⟩
      · exact ⟨x + i, y, Or.inl ⟨h3, rfl, rfl⟩, by omega, by omega⟩
      · exact ⟨x, y + i, Or.inr ⟨h3, rfl, rfl⟩, by omega, by omega⟩
    obtain ⟨w', hw', hX, hY⟩ := ih (i + 1) (upd w (16 * Z + X) (nI (q % 16))) (by omega) (mp_Wu hw _ ⟨_, h9, rfl⟩)
    have ei : nI (16 * y + x) + nI i * nI s = nI (16 * Z + X) := by rw [pk_mul, nI_add, eK]
    refine ⟨w', hw', fun post q0 => br_f (nI_ge (by omega) (by omega)) ?_, fun post m h => wl_Y1 hq (by omega) hXZ hc ?_⟩
    · rw [ei]
      refine ⟨vp_in_nI (by omega) (by omega), ?_⟩
      rw [nI_clamp (by omega)]
      exact nm_e (nm_r (nI_1 i) (hX post q0))
    · rw [nI_1]
      exact hY post m h
theorem wl_86 {post : Int32 → SX → Prop} {x y : Nat} {t l s c : Int32} {w a b : Nat → Int32} (h : ∃ n : Nat, wX_wall_99 post t l s (nI (16 * y + x)) c n 0 w a b) : wX_wall_86 post (nI x) (nI y) t l s c w a b := by
  unfold wX_wall_86
  exact nm_r (mp_ix x y) h
theorem wl_b {c x3 : Int32} {w a b : Nat → Int32} {x y q : Nat} (hx : x < 16) (hy : y < 16) (hq : q < 2 ^ 31) (h9 : q % 16 ≤ 9) (h16 : q / 16 ≤ 16) (hw : mp_W w) : ∃ (r : Int32) (w' : Nat → Int32), mp_W w' ∧ (∀ post : Int32 → SX → Prop, post r (c, w', a, b) → (x3 = 0 → wX_wall_51 post (nI x) (nI y) x3 (nI (q / 16)) (nI (q % 16)) (nI x) c w a b) ∧ (¬ x3 = 0 → wX_wall_51 post (nI x) (nI y) x3 (nI (q / 16)) (nI (q % 16)) (nI y) c w a b)) ∧ (∀ post : Int32 → SY → Prop, post r (c, w', a, b) → ∃ n : Nat, wY_wall_42 post (nI x) (nI y) x3 (nI q) c n 0 0 w a b) := by
  by_cases h3 : x3 = 0
  · obtain ⟨L, hL1, hL2, ha, hb⟩ : ∃ L : Nat, L ≤ q / 16 ∧ x + L ≤ 16 ∧ (16 - x ≤ q / 16 → 16 - x = L) ∧ (q / 16 < 16 - x → q / 16 = L) := by
      by_cases z : 16 - x ≤ q / 16
      · exact ⟨16 - x, z, by omega, fun _ => rfl, fun y => by omega⟩
      · exact ⟨q / 16, by omega, by omega, fun y => by omega, fun _ => rfl⟩
    obtain ⟨w', hw', hX, hY⟩ := wl_l (c := c) (a := a) (b := b) hx hy hq h9 hL1 (Or.inl ⟨h3, rfl, hL2⟩) L 0 w (by omega) hw
    refine ⟨nI L, w', hw', fun post q0 => br_t h3 ?_, fun post q0 => ⟨_, hY post _ (wl_Y2 hx hy hq q0 (q / 16 - L) L (by omega) ?_)⟩⟩
    · unfold wX_wall_51
      refine nm_r (show 16 - nI x = nI (16 - x) from pk_sub (a := 16) (by omega)) ?_
      refine pk_le (16 - x) (q / 16) (fun g => ?_) (fun g => ?_)
      · unfold wX_wall_74
        rw [ha g]
        exact br_t h3 (wl_86 ⟨_, hX post q0⟩)
      · unfold wX_wall_74
        rw [hb g]
        exact br_t h3 (wl_86 ⟨_, hX post q0⟩)
    · by_cases z : 16 - x ≤ q / 16
      · exact Or.inr (Or.inl ⟨h3, by have := ha z; omega⟩)
      · exact Or.inl (by have := hb (by omega); omega)
  · obtain ⟨L, hL1, hL2, ha, hb⟩ : ∃ L : Nat, L ≤ q / 16 ∧ y + L ≤ 16 ∧ (16 - y ≤ q / 16 → 16 - y = L) ∧ (q / 16 < 16 - y → q / 16 = L) := by
      by_cases z : 16 - y ≤ q / 16
      · exact ⟨16 - y, z, by omega, fun _ => rfl, fun y => by omega⟩
      · exact ⟨q / 16, by omega, by omega, fun y => by omega, fun _ => rfl⟩
    obtain ⟨w', hw', hX, hY⟩ := wl_l (c := c) (a := a) (b := b) hx hy hq h9 hL1 (Or.inr ⟨h3, rfl, hL2⟩) L 0 w (by omega) hw
    refine ⟨nI L, w', hw', fun post q0 => br_f h3 ?_, fun post q0 => ⟨_, hY post _ (wl_Y2 hx hy hq q0 (q / 16 - L) L (by omega) ?_)⟩⟩
    · unfold wX_wall_51
      refine nm_r (show 16 - nI y = nI (16 - y) from pk_sub (a := 16) (by omega)) ?_
      refine pk_le (16 - y) (q / 16) (fun g => ?_) (fun g => ?_)
      · unfold wX_wall_74
        rw [ha g]
        exact br_f h3 (wl_86 ⟨_, hX post q0⟩)
      · unfold wX_wall_74
        rw [hb g]
        exact br_f h3 (wl_86 ⟨_, hX post q0⟩)
    · by_cases z : 16 - y ≤ q / 16
      · exact Or.inr (Or.inr ⟨h3, by have := ha z; omega⟩)
      · exact Or.inl (by have := hb (by omega); omega)
theorem wl_neg {x : Int32} (h : x < 0) : x >>> ((4 : Int32) &&& 31) < 0 := by
  rw [Int32.lt_iff_toInt_lt, mp_t0] at h
  rw [Int32.lt_iff_toInt_lt, mp_t0, pk_shr _ _ 4 (by decide), Int.shiftRight_eq_div_pow]
  omega
