section
theorem pk_us {f : Nat → Int32} {k : Nat} {x : Int32} : upd f k x k = x := if_pos rfl
theorem pk_un {f : Nat → Int32} {k j : Nat} {x : Int32} (h : j ≠ k) : upd f k x j = f j := if_neg h
theorem pk_sub {a b : Nat} (h : b ≤ a) : nI a - nI b = nI (a - b) := by
  obtain ⟨c, rfl⟩ : ∃ c, a = c + b := ⟨a - b, by omega⟩
  rw [← nI_add, Int32.add_sub_cancel, Nat.add_sub_cancel]
theorem pk_mul (a b : Nat) : nI a * nI b = nI (a * b) := (Int32.ofNat_mul a b).symm
theorem pk_div {a d : Nat} (ha : a < 2 ^ 31) (h0 : 0 < d) (hd : d < 2 ^ 31) : nI a / nI d = nI (a / d) := by
  apply Int32.toInt_inj.mp
  rw [lg_idiv_nonneg (by rw [nI_toInt ha]; omega) (by rw [nI_toInt hd]; omega), nI_toInt ha, nI_toInt hd, nI_toInt (Nat.lt_of_le_of_lt (Nat.div_le_self a d) ha)]
  first | rfl | exact (Int.natCast_ediv _ _).symm
theorem pk_rem {a d : Nat} (ha : a < 2 ^ 31) (h0 : 0 < d) (hd : d < 2 ^ 31) : nI a - nI a / nI d * nI d = nI (a % d) := by
  rw [pk_div ha h0 hd, pk_mul, pk_sub (Nat.div_mul_le_self a d)]
  exact congrArg nI (by have := Nat.div_add_mod' a d; omega)
theorem pk_sub_toInt {a b : Nat} (ha : a < 2 ^ 30) (hb : b < 2 ^ 30) : (nI a - nI b).toInt = (a : Int) - b := by
  rw [Int32.toInt_sub, nI_toInt (by omega), nI_toInt (by omega)]
  exact Int.bmod_eq_of_le (by omega) (by omega)
theorem pk_le {x y : Int32} {A B : Prop} (a b : Nat) (f : a ≤ b → A) (g : b < a → B) (hx : x = nI a := by rfl) (hy : y = nI b := by rfl) (ha : a < 2 ^ 31 := by omega) (hb : b < 2 ^ 31 := by omega) : (x ≤ y → A) ∧ (¬ x ≤ y → B) := by
  subst hx hy
  rw [nI_leI ha hb]
  exact ⟨f, fun z => g (by omega)⟩
theorem pk_lt {x y : Int32} {A B : Prop} (a b : Nat) (f : a < b → A) (g : b ≤ a → B) (hx : x = nI a := by rfl) (hy : y = nI b := by rfl) (ha : a < 2 ^ 31 := by omega) (hb : b < 2 ^ 31 := by omega) : (x < y → A) ∧ (¬ x < y → B) := by
  subst hx hy
  rw [nI_ltI ha hb]
  exact ⟨f, fun z => g (by omega)⟩
theorem pk_eq {x y : Int32} {A B : Prop} (a b : Nat) (f : a = b → A) (g : a ≠ b → B) (hx : x = nI a := by rfl) (hy : y = nI b := by rfl) (ha : a < 2 ^ 31 := by omega) (hb : b < 2 ^ 31 := by omega) : (x = y → A) ∧ (¬ x = y → B) := by
  subst hx hy
  rw [nI_eq ha hb]
  exact ⟨f, g⟩
theorem pk_in {x : Int32} (n N : Nat) (h : n < N) (hx : x = nI n := by rfl) (hN : N < 2 ^ 31 := by omega) : vp_in x N := by
  subst hx
  exact vp_in_nI h hN
theorem pk_cl {x : Int32} (n : Nat) (hx : x = nI n := by rfl) (h : n < 2 ^ 31 := by omega) : x.toNatClampNeg = n := by
  subst hx
  exact nI_clamp h
theorem pk_tn {n : Nat} (h : n < 2 ^ 32) : (nI n).toBitVec.toNat = n := Nat.mod_eq_of_lt h
theorem pk_and (x : Int32) {m : Int32} (k : Nat) (hm : m.toBitVec.toNat = 2 ^ k - 1) : x &&& m = nI (x.toBitVec.toNat % 2 ^ k) := by
  apply Int32.toBitVec_inj.mp
  apply BitVec.eq_of_toNat_eq
  rw [Int32.toBitVec_and, BitVec.toNat_and, hm, Nat.and_two_pow_sub_one_eq_mod]
  show _ = (BitVec.ofNat 32 _).toNat
  rw [BitVec.toNat_ofNat]
  exact (Nat.mod_eq_of_lt (Nat.lt_of_le_of_lt (Nat.mod_le _ _) x.toBitVec.isLt)).symm
theorem pk_andN {n : Nat} (h : n < 2 ^ 32) {m : Int32} (k : Nat) (hm : m.toBitVec.toNat = 2 ^ k - 1) : nI n &&& m = nI (n % 2 ^ k) := by
  rw [pk_and _ k hm, pk_tn h]
theorem pk_shr (a s : Int32) (k : Nat) (hs : (s.toBitVec.smod 32).toNat = k) : (a >>> s).toInt = a.toInt >>> k := by
  show (a.toBitVec.sshiftRight (s.toBitVec.smod 32).toNat).toInt = _
  rw [hs, BitVec.toInt_sshiftRight]
  rfl
theorem pk_shrN {n : Nat} (h : n < 2 ^ 31) (s : Int32) (k : Nat) (hs : (s.toBitVec.smod 32).toNat = k) : nI n >>> s = nI (n / 2 ^ k) := by
  apply Int32.toInt_inj.mp
  have h2 : n / 2 ^ k ≤ n := Nat.div_le_self _ _
  rw [pk_shr _ _ k hs, nI_toInt h, nI_toInt (by omega), Int.shiftRight_eq_div_pow]
  rfl
end
section
/-- every weight is a number from 0 to 9 -/
def mp_W (w : Nat → Int32) : Prop := ∀ j : Nat, ∃ n : Nat, n ≤ 9 ∧ w j = nI n
/-- (x, y) is a cell of the map -/
def mp_C (x y : Int32) : Prop := (0 ≤ x.toInt ∧ x.toInt < 16) ∧ (0 ≤ y.toInt ∧ y.toInt < 16)
theorem mp_W0 : mp_W (fun _ => 0) := fun _ => ⟨0, by omega, rfl⟩
theorem mp_Wu {w : Nat → Int32} (h : mp_W w) (k : Nat) {x : Int32} (hx : ∃ n : Nat, n ≤ 9 ∧ x = nI n) : mp_W (upd w k x) := by
  intro j
  by_cases e : j = k
  · subst e
    rw [pk_us]
    exact hx
  · rw [pk_un e]
    exact h j
theorem mp_10 : ¬ (1 : Int32) = 0 := by decide
theorem mp_t0 : (0 : Int32).toInt = 0 := by decide
theorem mp_t9 : (9 : Int32).toInt = 9 := by decide
theorem mp_t15 : (15 : Int32).toInt = 15 := by decide
theorem mp_t16 : (16 : Int32).toInt = 16 := by decide
theorem mp_t1024 : (1024 : Int32).toInt = 1024 := by decide
theorem mp_t1023 : (1023 : Int32).toInt = 1023 := by decide
theorem mp_of {x : Int32} {m : Nat} (h0 : 0 ≤ x.toInt) (h1 : x.toInt < m) : ∃ i : Nat, i < m ∧ x = nI i := by
  have hz : ¬ x < 0 := by rw [Int32.lt_iff_toInt_lt, mp_t0]; omega
  obtain ⟨j, hj, rfl⟩ := nI_of hz
  rw [nI_toInt hj] at h1
  exact ⟨j, by omega, rfl⟩
theorem mp_Cn {x y : Int32} (h : mp_C x y) : ∃ i j : Nat, i < 16 ∧ j < 16 ∧ x = nI i ∧ y = nI j := by
  obtain ⟨i, hi, ei⟩ := mp_of (m := 16) h.1.1 h.1.2
  obtain ⟨j, hj, ej⟩ := mp_of (m := 16) h.2.1 h.2.2
  exact ⟨i, j, hi, hj, ei, ej⟩
theorem mp_CI {i j : Nat} (hi : i < 2 ^ 31) (hj : j < 2 ^ 31) : mp_C (nI i) (nI j) ↔ i < 16 ∧ j < 16 := by
  unfold mp_C
  rw [nI_toInt hi, nI_toInt hj]
  omega
theorem mp_ix (i j : Nat) : 16 * nI j + nI i = nI (16 * j + i) := by
  rw [show (16 : Int32) = nI 16 from rfl, pk_mul, nI_add]
theorem mp_Ck {x y : Int32} (h : mp_C x y) : ∃ k : Nat, k < 256 ∧ (16 * y) + x = nI k := by
  obtain ⟨i, j, hi, hj, rfl, rfl⟩ := mp_Cn h
  exact ⟨16 * j + i, by omega, mp_ix i j⟩
theorem mp_Cin {x y : Int32} (h : mp_C x y) : vp_in ((16 * y) + x) 256 := by
  obtain ⟨k, hk, e⟩ := mp_Ck h
  rw [e]
  exact vp_in_nI hk (by omega)
theorem ic_Xt {post : Int32 → Prop} {x y : Int32} (h : mp_C x y) (p : post 1) : wpX_isCell post x y := by
  obtain ⟨⟨a, b⟩, ⟨c, d⟩⟩ := h
  unfold wpX_isCell
  refine br_f ?_ (br_f ?_ (br_f ?_ (br_f ?_ p)))
  · rw [Int32.lt_iff_toInt_lt, mp_t0]; omega
  · rw [Int32.le_iff_toInt_le, mp_t16]; omega
  · rw [Int32.lt_iff_toInt_lt, mp_t0]; omega
  · rw [Int32.le_iff_toInt_le, mp_t16]; omega
theorem ic_Xf {post : Int32 → Prop} {x y : Int32} (h : ¬ mp_C x y) (p : post 0) : wpX_isCell post x y := by
  unfold wpX_isCell
  refine br_c (fun _ => p) (fun a => br_c (fun _ => p) (fun b => br_c (fun _ => p) (fun c => br_c (fun _ => p) (fun d => ?_))))
  exfalso
  apply h
  rw [Int32.lt_iff_toInt_lt, mp_t0] at a c
  rw [Int32.le_iff_toInt_le, mp_t16] at b d
  exact ⟨⟨by omega, by omega⟩, ⟨by omega, by omega⟩⟩
theorem ic_Yt {post : Int32 → Prop} {x y : Int32} {u : SY} (h : mp_C x y) (p : post 1) : wpY_isCell post u x y := by
  obtain ⟨⟨a, b⟩, ⟨c, d⟩⟩ := h
  obtain ⟨f, w, us, vs⟩ := u
  unfold wpY_isCell
  refine br_f ?_ (br_f ?_ (br_f ?_ (br_f ?_ p)))
  · rw [Int32.lt_iff_toInt_lt, mp_t0]; omega
  · rw [Int32.lt_iff_toInt_lt, mp_t15]; omega
  · rw [Int32.lt_iff_toInt_lt, mp_t0]; omega
  · rw [Int32.lt_iff_toInt_lt, mp_t15]; omega
theorem ic_Yf {post : Int32 → Prop} {x y : Int32} {u : SY} (h : ¬ mp_C x y) (p : post 0) : wpY_isCell post u x y := by
  obtain ⟨f, w, us, vs⟩ := u
  unfold wpY_isCell
  refine br_c (fun _ => p) (fun a => br_c (fun _ => p) (fun b => br_c (fun _ => p) (fun c => br_c (fun _ => p) (fun d => ?_))))
  exfalso
  apply h
  rw [Int32.lt_iff_toInt_lt, mp_t0] at a c
  rw [Int32.lt_iff_toInt_lt, mp_t15] at b d
  exact ⟨⟨by omega, by omega⟩, ⟨by omega, by omega⟩⟩
/-- a pose, as both sides test it -/
theorem ip_Xt {post : Int32 → Prop} {p : Nat} (h : p < 1024) (q : post 1) : wpX_isPose post (nI p) := by
  unfold wpX_isPose
  exact br_f (nI_pos (by omega)) (br_f (nI_ge (b := 1024) h (by decide)) q)
theorem ip_Yt {post : Int32 → Prop} {u : SY} {p : Nat} (h : p < 1024) (q : post 1) : wpY_isPose post u (nI p) := by
  obtain ⟨f, w, us, vs⟩ := u
  unfold wpY_isPose
  exact br_f (nI_pos (by omega)) (br_f (nI_nlt (b := p) (a := 1023) (by omega) (by decide)) q)
def mp_P (x : Int32) : Prop := 0 ≤ x.toInt ∧ x.toInt < 1024
theorem ip_Xf {post : Int32 → Prop} {x : Int32} (h : ¬ mp_P x) (q : post 0) : wpX_isPose post x := by
  unfold wpX_isPose
  refine br_c (fun _ => q) (fun a => br_c (fun _ => q) (fun b => ?_))
  exfalso
  apply h
  rw [Int32.lt_iff_toInt_lt, mp_t0] at a
  rw [Int32.le_iff_toInt_le, mp_t1024] at b
  exact ⟨by omega, by omega⟩
theorem ip_Yf {post : Int32 → Prop} {u : SY} {x : Int32} (h : ¬ mp_P x) (q : post 0) : wpY_isPose post u x := by
  obtain ⟨f, w, us, vs⟩ := u
  unfold wpY_isPose
  refine br_c (fun _ => q) (fun a => br_c (fun _ => q) (fun b => ?_))
  exfalso
  apply h
  rw [Int32.lt_iff_toInt_lt, mp_t0] at a
  rw [Int32.lt_iff_toInt_lt, mp_t1023] at b
  exact ⟨by omega, by omega⟩
/-- the weight at (x, y): one answer for both sides -/
theorem wt_b (x y c : Int32) (w a b : Nat → Int32) (hw : mp_W w) : ∃ n : Nat, n ≤ 9 ∧ (∀ post : Int32 → Prop, post (nI n) → wpX_weight post (c, w, a, b) x y) ∧ (∀ post : Int32 → Prop, post (nI n) → wpY_weight post (c, w, a, b) x y) := by
  by_cases h : mp_C x y
  · obtain ⟨n, hn, e⟩ := hw ((16 * y) + x).toNatClampNeg
    refine ⟨n, hn, fun post p => ?_, fun post p => ?_⟩
    · unfold wpX_weight
      exact ic_Xt h (br_f mp_10 ⟨mp_Cin h, by rw [e]; exact p⟩)
    · unfold wpY_weight
      exact ic_Yt h (br_f mp_10 ⟨mp_Cin h, by rw [e]; exact p⟩)
  · refine ⟨0, by omega, fun post p => ?_, fun post p => ?_⟩
    · unfold wpX_weight
      exact ic_Xf h (br_t rfl p)
    · unfold wpY_weight
      exact ic_Yf h (br_t rfl p)
end
section
/-- column and row of point i in pose p -/
def mp_x (a b : Nat → Int32) (i p : Nat) : Int32 := if p / 256 = 0 then nI (p % 16) + a i else if p / 256 = 1 then nI (p % 16) - b i else if p / 256 = 2 then nI (p % 16) - a i else nI (p % 16) + b i
def mp_y (a b : Nat → Int32) (i p : Nat) : Int32 := if p / 256 = 0 then nI (p / 16 % 16) + b i else if p / 256 = 1 then nI (p / 16 % 16) + a i else if p / 256 = 2 then nI (p / 16 % 16) - b i else nI (p / 16 % 16) - a i
theorem mp_x0 {a b : Nat → Int32} {i p : Nat} (h : p / 256 = 0) : mp_x a b i p = nI (p % 16) + a i := if_pos h
theorem mp_x1 {a b : Nat → Int32} {i p : Nat} (h : p / 256 = 1) : mp_x a b i p = nI (p % 16) - b i := by
  unfold mp_x; rw [if_neg (by omega), if_pos h]
theorem mp_x2 {a b : Nat → Int32} {i p : Nat} (h : p / 256 = 2) : mp_x a b i p = nI (p % 16) - a i := by
  unfold mp_x; rw [if_neg (by omega), if_neg (by omega), if_pos h]
theorem mp_x3 {a b : Nat → Int32} {i p : Nat} (h : p / 256 = 3) : mp_x a b i p = nI (p % 16) + b i := by
  unfold mp_x; rw [if_neg (by omega), if_neg (by omega), if_neg (by omega)]
theorem mp_y0 {a b : Nat → Int32} {i p : Nat} (h : p / 256 = 0) : mp_y a b i p = nI (p / 16 % 16) + b i := if_pos h
theorem mp_y1 {a b : Nat → Int32} {i p : Nat} (h : p / 256 = 1) : mp_y a b i p = nI (p / 16 % 16) + a i := by
  unfold mp_y; rw [if_neg (by omega), if_pos h]
theorem mp_y2 {a b : Nat → Int32} {i p : Nat} (h : p / 256 = 2) : mp_y a b i p = nI (p / 16 % 16) - b i := by
  unfold mp_y; rw [if_neg (by omega), if_neg (by omega), if_pos h]
theorem mp_y3 {a b : Nat → Int32} {i p : Nat} (h : p / 256 = 3) : mp_y a b i p = nI (p / 16 % 16) - a i := by
  unfold mp_y; rw [if_neg (by omega), if_neg (by omega), if_neg (by omega)]
theorem mp_col {p : Nat} (h : p < 1024) : nI p &&& 15 = nI (p % 16) := pk_andN (by omega) 4 (by decide)
theorem mp_row {p : Nat} (h : p < 1024) : (nI p >>> ((4 : Int32) &&& 31)) &&& 15 = nI (p / 16 % 16) := by
  rw [pk_shrN (by omega) _ 4 (by decide)]
  exact pk_andN (by omega) 4 (by decide)
theorem mp_turn {p : Nat} (h : p < 1024) : nI p >>> ((8 : Int32) &&& 31) = nI (p / 256) := pk_shrN (by omega) _ 8 (by decide)
theorem mp_dcol {p : Nat} (h : p < 1024) : nI p - nI p / 16 * 16 = nI (p % 16) := pk_rem (d := 16) (by omega) (by decide) (by decide)
theorem mp_d16 {p : Nat} (h : p < 1024) : nI p / 16 = nI (p / 16) := pk_div (d := 16) (by omega) (by decide) (by decide)
theorem mp_drow {p : Nat} (h : p < 1024) : (nI p / 16) - (nI p / 16) / 16 * 16 = nI (p / 16 % 16) := by
  rw [mp_d16 h]
  exact mp_dcol (by omega)
theorem mp_dturn {p : Nat} (h : p < 1024) : nI p / 256 = nI (p / 256) := pk_div (d := 256) (by omega) (by decide) (by decide)
theorem cu_j {post : Int32 → Prop} {x y c : Int32} {w a b : Nat → Int32} (h1 : mp_C x y → post (16 * y + x)) (h0 : ¬ mp_C x y → post (-1)) : wX_cellUnder_117 post x y c w a b := by
  unfold wX_cellUnder_117
  by_cases h : mp_C x y
  · exact ic_Xt h (br_f mp_10 (h1 h))
  · exact ic_Xf h (br_t rfl (h0 h))
theorem cu_X {post : Int32 → Prop} {c : Int32} {w a b : Nat → Int32} {i p : Nat} (hi : i < 10) (hp : p < 1024) (h1 : mp_C (mp_x a b i p) (mp_y a b i p) → post (16 * mp_y a b i p + mp_x a b i p)) (h0 : ¬ mp_C (mp_x a b i p) (mp_y a b i p) → post (-1)) : wpX_cellUnder post (c, w, a, b) (nI i) (nI p) := by
  have hv : vp_in (nI i) 10 := vp_in_nI hi (by omega)
  unfold wpX_cellUnder wpX_columnOf wpX_rowOf wpX_turnOf
  dsimp only
  rw [nI_clamp (n := i) (by omega), mp_row hp, mp_col hp, mp_turn hp]
  refine ⟨hv, nm_e ⟨hv, nm_e ?_⟩⟩
  have hk : p / 256 = 0 ∨ p / 256 = 1 ∨ p / 256 = 2 ∨ p / 256 = 3 := by omega
  rcases hk with h | h | h | h
  · rw [mp_x0 h, mp_y0 h] at h1 h0
    rw [h]
    exact br_f (by decide +kernel) (br_f (by decide +kernel) (br_t (by decide +kernel) (nm_e (nm_e (cu_j h1 h0)))))
  · rw [mp_x1 h, mp_y1 h] at h1 h0
    rw [h]
    exact br_f (by decide +kernel) (br_f (by decide +kernel) (br_f (by decide +kernel) (br_t (by decide +kernel) (nm_e (nm_e (cu_j h1 h0))))))
  · rw [mp_x2 h, mp_y2 h] at h1 h0
    rw [h]
    exact br_f (by decide +kernel) (br_f (by decide +kernel) (br_f (by decide +kernel) (br_f (by decide +kernel) (br_t (by decide +kernel) (nm_e (nm_e (cu_j h1 h0)))))))
  · rw [mp_x3 h, mp_y3 h] at h1 h0
    rw [h]
    exact br_f (by decide +kernel) (br_t (by decide +kernel) (nm_e (nm_e (cu_j h1 h0))))
theorem xo_Y {post : Int32 → Prop} {c : Int32} {w a b : Nat → Int32} {i p : Nat} (hi : i < 10) (hp : p < 1024) (q : post (mp_x a b i p)) : wpY_xOf post (c, w, a, b) (nI i) (nI p) := by
  have hv : vp_in (nI i) 10 := vp_in_nI hi (by omega)
  unfold wpY_xOf
  dsimp only
  rw [nI_clamp (n := i) (by omega), mp_dcol hp, mp_dturn hp]
  refine ⟨by decide, nm_e ?_⟩
  have hk : p / 256 = 0 ∨ p / 256 = 1 ∨ p / 256 = 2 ∨ p / 256 = 3 := by omega
  rcases hk with h | h | h | h
  · rw [mp_x0 h] at q
    rw [h]
    exact br_t (by decide +kernel) ⟨hv, nm_e ⟨by decide, q⟩⟩
  · rw [mp_x1 h, Int32.sub_eq_add_neg] at q
    rw [h]
    exact br_f (by decide +kernel) (br_t (by decide +kernel) ⟨hv, nm_e ⟨by decide, q⟩⟩)
  · rw [mp_x2 h, Int32.sub_eq_add_neg] at q
    rw [h]
    exact br_f (by decide +kernel) (br_f (by decide +kernel) (br_t (by decide +kernel) ⟨hv, nm_e ⟨by decide, q⟩⟩))
  · rw [mp_x3 h] at q
    rw [h]
    exact br_f (by decide +kernel) (br_f (by decide +kernel) (br_f (by decide +kernel) ⟨hv, nm_e ⟨by decide, q⟩⟩))
theorem yo_j {post : Int32 → Prop} {z c : Int32} {w a b : Nat → Int32} {p : Nat} (hp : p < 1024) (q : post (nI (p / 16 % 16) + z)) : wY_yOf_55 post (nI p) z c w a b := by
  unfold wY_yOf_55
  rw [mp_drow hp]
  exact ⟨by decide, by decide, q⟩
theorem yo_Y {post : Int32 → Prop} {c : Int32} {w a b : Nat → Int32} {i p : Nat} (hi : i < 10) (hp : p < 1024) (q : post (mp_y a b i p)) : wpY_yOf post (c, w, a, b) (nI i) (nI p) := by
  have hv : vp_in (nI i) 10 := vp_in_nI hi (by omega)
  unfold wpY_yOf
  dsimp only
  rw [nI_clamp (n := i) (by omega), mp_dturn hp]
  refine ⟨by decide, nm_e ?_⟩
  have hk : p / 256 = 0 ∨ p / 256 = 1 ∨ p / 256 = 2 ∨ p / 256 = 3 := by omega
  rcases hk with h | h | h | h
  · rw [mp_y0 h] at q
    rw [h]
    exact br_t (by decide +kernel) ⟨hv, yo_j hp q⟩
  · rw [mp_y1 h] at q
    rw [h]
    exact br_f (by decide +kernel) (br_t (by decide +kernel) ⟨hv, yo_j hp q⟩)
  · rw [mp_y2 h, Int32.sub_eq_add_neg] at q
    rw [h]
    exact br_f (by decide +kernel) (br_f (by decide +kernel) (br_t (by decide +kernel) ⟨hv, yo_j hp q⟩))
  · rw [mp_y3 h, Int32.sub_eq_add_neg] at q
    rw [h]
    exact br_f (by decide +kernel) (br_f (by decide +kernel) (br_f (by decide +kernel) ⟨hv, yo_j hp q⟩))
theorem wy_t {post : Int32 → Prop} {x y c : Int32} {w a b : Nat → Int32} (h : mp_C x y) (q : post (w ((16 * y) + x).toNatClampNeg)) : wpY_weight post (c, w, a, b) x y := by
  unfold wpY_weight
  exact ic_Yt h (br_f mp_10 ⟨mp_Cin h, q⟩)
theorem wy_f {post : Int32 → Prop} {x y c : Int32} {w a b : Nat → Int32} (h : ¬ mp_C x y) (q : post 0) : wpY_weight post (c, w, a, b) x y := by
  unfold wpY_weight
  exact ic_Yf h (br_t rfl q)
theorem mp_nm {k : Nat} (h : k < 256) : ¬ nI k = -1 := by
  intro e
  have t : (nI k).toInt = (-1 : Int32).toInt := congrArg Int32.toInt e
  rw [nI_toInt (by omega), show (-1 : Int32).toInt = -1 from by decide] at t
  omega
theorem mp_Cne {x y : Int32} (h : mp_C x y) : ¬ (16 * y) + x = -1 := by
  obtain ⟨k, hk, e⟩ := mp_Ck h
  rw [e]
  exact mp_nm hk
theorem sc_l {c p : Nat} {w a b : Nat → Int32} (hw : mp_W w) (hc : c ≤ 10) (hp : p < 1024) : ∀ d i s : Nat, i + d = c → ∃ r : Nat, r ≤ s + 9 * d ∧ (∀ post : Int32 → Prop, post (nI r) → wX_score_13 post (nI p) (nI c) w a b (d + 1) (nI s) (nI i)) ∧ (∀ post : Int32 → Prop, post (nI r) → wY_scoreOf_4 post (nI p) (nI c) w a b (d + 1) (nI s) (nI i)) := by
  intro d
  induction d with
  | zero =>
    intro i s hi
    have h : nI c ≤ nI i := nI_le (by omega) (by omega)
    exact ⟨s, by omega, fun post q => br_t h q, fun post q => br_t h q⟩
  | succ d ih =>
    intro i s hi
    have hn : ¬ nI c ≤ nI i := nI_ge (by omega) (by omega)
    by_cases h : mp_C (mp_x a b i p) (mp_y a b i p)
    · obtain ⟨n, hn9, en⟩ := hw ((16 * mp_y a b i p) + mp_x a b i p).toNatClampNeg
      obtain ⟨r, hr, hX, hY⟩ := ih (i + 1) (s + n) (by omega)
      have e : nI s + w ((16 * mp_y a b i p) + mp_x a b i p).toNatClampNeg = nI (s + n) := by rw [en, nI_add]
      refine ⟨r, by omega, fun post q => br_f hn (cu_X (by omega) hp (fun _ => br_f (mp_Cne h) ⟨mp_Cin h, nm_r e (nm_r (nI_1 i) (hX post q))⟩) (fun h' => absurd h h')), fun post q => br_f hn (xo_Y (by omega) hp (yo_Y (by omega) hp (wy_t h (nm_r e (nm_r (nI_1 i) (hY post q))))))⟩
    · obtain ⟨r, hr, hX, hY⟩ := ih (i + 1) s (by omega)
      refine ⟨r, by omega, fun post q => br_f hn (cu_X (by omega) hp (fun h' => absurd h' h) (fun _ => br_t rfl (nm_r (nI_1 i) (hX post q)))), fun post q => br_f hn (xo_Y (by omega) hp (yo_Y (by omega) hp (wy_f h (nm_r (Int32.add_zero _) (nm_r (nI_1 i) (hY post q))))))⟩
/-- the score of a pose: one answer for both sides, from 0 to 90 -/
theorem sc_b {c p : Nat} {w a b : Nat → Int32} (hw : mp_W w) (hc : c ≤ 10) (hp : p < 1024) : ∃ r : Nat, r ≤ 90 ∧ (∀ post : Int32 → Prop, post (nI r) → wpX_score post (nI c, w, a, b) (nI p)) ∧ (∀ post : Int32 → Prop, post (nI r) → wpY_scoreOf post (nI c, w, a, b) (nI p)) := by
  obtain ⟨r, hr, hX, hY⟩ := sc_l (a := a) (b := b) hw hc hp c 0 0 (by omega)
  refine ⟨r, by omega, fun post q => ?_, fun post q => ?_⟩
  · unfold wpX_score
    exact ip_Xt hp (br_f mp_10 ⟨_, hX post q⟩)
  · unfold wpY_scoreOf
    exact ⟨_, hY post q⟩
end
section
theorem st_l {c p s : Nat} {a b : Nat → Int32} (hc : c ≤ 10) (hp : p < 1024) (hs : s ≤ 9) : ∀ (d i : Nat) (k : Int32) (w : Nat → Int32), i + d = c → mp_W w → ∃ (r : Int32) (w' : Nat → Int32), mp_W w' ∧ (∀ post : Int32 → SX → Prop, post r (nI c, w', a, b) → wX_stamp_25 post (nI p) (nI s) (nI c) (d + 1) k (nI i) w a b) ∧ (∀ post : Int32 → SY → Prop, post r (nI c, w', a, b) → wY_stamp_26 post (nI p) (nI s) (nI c) (d + 1) k (nI i) w a b) := by
  intro d
  induction d with
  | zero =>
    intro i k w hi hw
    have h : nI c ≤ nI i := nI_le (by omega) (by omega)
    exact ⟨k, w, hw, fun post q => br_t h q, fun post q => br_t h q⟩
  | succ d ih =>
    intro i k w hi hw
    have hn : ¬ nI c ≤ nI i := nI_ge (by omega) (by omega)
    by_cases h : mp_C (mp_x a b i p) (mp_y a b i p)
    · obtain ⟨n, hn9, en⟩ := hw ((16 * mp_y a b i p) + mp_x a b i p).toNatClampNeg
      obtain ⟨t, ht, hlo, hhi⟩ : ∃ t : Nat, t ≤ 9 ∧ (n + s ≤ 9 → n + s = t) ∧ (9 ≤ n + s → 9 = t) := by
        by_cases z : n + s ≤ 9
        · exact ⟨n + s, z, fun _ => rfl, fun y => by omega⟩
        · exact ⟨9, by omega, fun y => by omega, fun _ => rfl⟩
      obtain ⟨r, w', hw', hX, hY⟩ := ih (i + 1) (k + 1) (upd w ((16 * mp_y a b i p) + mp_x a b i p).toNatClampNeg (nI t)) (by omega) (mp_Wu hw _ ⟨t, ht, rfl⟩)
      have e : w ((16 * mp_y a b i p) + mp_x a b i p).toNatClampNeg + nI s = nI (n + s) := by rw [en, nI_add]
      have e9 : 9 ≤ n + s → upd w ((16 * mp_y a b i p) + mp_x a b i p).toNatClampNeg 9 = upd w ((16 * mp_y a b i p) + mp_x a b i p).toNatClampNeg (nI t) := fun z => by rw [← hhi z]; rfl
      have es : n + s ≤ 9 → upd w ((16 * mp_y a b i p) + mp_x a b i p).toNatClampNeg (nI (n + s)) = upd w ((16 * mp_y a b i p) + mp_x a b i p).toNatClampNeg (nI t) := fun z => by rw [hlo z]
      refine ⟨r, w', hw', fun post q => br_f hn (cu_X (by omega) hp (fun _ => br_f (mp_Cne h) ⟨mp_Cin h, nm_r e ?_⟩) (fun h' => absurd h h')), fun post q => br_f hn (xo_Y (by omega) hp (yo_Y (by omega) hp (ic_Yt h (br_f mp_10 ⟨mp_Cin h, nm_r e ?_⟩))))⟩
      · exact pk_le 9 (n + s) (fun g => ⟨mp_Cin h, nm_r (e9 g) (nm_e (nm_r (nI_1 i) (hX post q)))⟩) (fun g => ⟨mp_Cin h, nm_r (es (by omega)) (nm_e (nm_r (nI_1 i) (hX post q)))⟩)
      · exact pk_le (n + s) 9 (fun g => ⟨mp_Cin h, nm_r (es g) (nm_e (nm_r (nI_1 i) (hY post q)))⟩) (fun g => ⟨mp_Cin h, nm_r (e9 (by omega)) (nm_e (nm_r (nI_1 i) (hY post q)))⟩)
    · obtain ⟨r, w', hw', hX, hY⟩ := ih (i + 1) k w (by omega) hw
      exact ⟨r, w', hw', fun post q => br_f hn (cu_X (by omega) hp (fun h' => absurd h' h) (fun _ => br_t rfl (nm_r (nI_1 i) (hX post q)))), fun post q => br_f hn (xo_Y (by omega) hp (yo_Y (by omega) hp (ic_Yf h (br_t rfl (nm_r (nI_1 i) (hY post q))))))⟩
theorem fd_u {w : Nat → Int32} {i : Nat} (h : w i = 0) : upd w i 0 = w := by
  funext j
  by_cases e : j = i
  · subst e
    rw [pk_us, h]
  · rw [pk_un e]
theorem fd_l {c : Int32} {a b : Nat → Int32} : ∀ (d i : Nat) (k : Int32) (w : Nat → Int32), i + d = 256 → mp_W w → ∃ (r : Int32) (w' : Nat → Int32), mp_W w' ∧ (∀ post : Int32 → SX → Prop, post r (c, w', a, b) → wX_fade_4 post c (d + 1) k (nI i) w a b) ∧ (∀ post : Int32 → SY → Prop, post r (c, w', a, b) → wY_fade_4 post c (d + 1) k (nI i) w a b) := by
  intro d
  induction d with
  | zero =>
    intro i k w hi hw
    have h : (256 : Int32) ≤ nI i := nI_le (a := 256) (by omega) (by omega)
    exact ⟨k, w, hw, fun post q => br_t h q, fun post q => br_t h q⟩
  | succ d ih =>
    intro i k w hi hw
    have hn : ¬ (256 : Int32) ≤ nI i := nI_ge (b := 256) (by omega) (by decide)
    have hv : vp_in (nI i) 256 := vp_in_nI (by omega) (by omega)
    have ec : (nI i).toNatClampNeg = i := nI_clamp (by omega)
    obtain ⟨n, hn9, en⟩ := hw i
    have ew : w (nI i).toNatClampNeg = nI n := by rw [ec, en]
    cases n with
    | zero =>
      have hz : w (nI i).toNatClampNeg ≤ 0 := by rw [ew]; decide +kernel
      have eu : upd w (nI i).toNatClampNeg 0 = w := by rw [ec]; exact fd_u en
      obtain ⟨r, w', hw', hX, hY⟩ := ih (i + 1) k w (by omega) hw
      refine ⟨r, w', hw', fun post q => br_f hn ⟨hv, br_t hz ?_⟩, fun post q => br_f hn ⟨hv, br_t hz ?_⟩⟩
      · unfold wX_fade_30
        exact ⟨hv, br_t hz (nm_r (nI_1 i) (hX post q))⟩
      · unfold wY_fade_37
        exact ⟨hv, nm_r eu ⟨hv, br_t hz (nm_r (nI_1 i) (hY post q))⟩⟩
    | succ m =>
      have hz : ¬ w (nI i).toNatClampNeg ≤ 0 := by rw [ew]; exact nI_nle (by omega) (by omega)
      have eu : upd w (nI i).toNatClampNeg (w (nI i).toNatClampNeg - 1) = upd w i (nI m) := by rw [ew, ec, nI_pred]
      have es : (w (nI i).toNatClampNeg - 1) = nI m := by rw [ew, nI_pred]
      have eu' : upd w (nI i).toNatClampNeg (nI m) = upd w i (nI m) := by rw [ec]
      have ea : upd w i (nI m) (nI i).toNatClampNeg = nI m := by rw [ec, pk_us]
      have hw1 : mp_W (upd w i (nI m)) := mp_Wu hw i ⟨m, by omega, rfl⟩
      cases m with
      | zero =>
        have h2 : upd w i (nI 0) (nI i).toNatClampNeg ≤ 0 := by rw [ea]; decide +kernel
        obtain ⟨r, w', hw', hX, hY⟩ := ih (i + 1) k (upd w i (nI 0)) (by omega) hw1
        refine ⟨r, w', hw', fun post q => br_f hn ⟨hv, br_f hz ⟨hv, hv, nm_r eu ?_⟩⟩, fun post q => br_f hn ⟨hv, br_f hz ⟨hv, ?_⟩⟩⟩
        · unfold wX_fade_30
          exact ⟨hv, br_t h2 (nm_r (nI_1 i) (hX post q))⟩
        · unfold wY_fade_37
          exact ⟨hv, nm_r eu ⟨hv, br_t h2 (nm_r (nI_1 i) (hY post q))⟩⟩
      | succ l =>
        have h2 : ¬ upd w i (nI (l + 1)) (nI i).toNatClampNeg ≤ 0 := by rw [ea]; exact nI_nle (by omega) (by omega)
        obtain ⟨r, w', hw', hX, hY⟩ := ih (i + 1) (k + 1) (upd w i (nI (l + 1))) (by omega) hw1
        refine ⟨r, w', hw', fun post q => br_f hn ⟨hv, br_f hz ⟨hv, hv, nm_r eu ?_⟩⟩, fun post q => br_f hn ⟨hv, br_f hz ⟨hv, ?_⟩⟩⟩
        · unfold wX_fade_30
          exact ⟨hv, br_f h2 (nm_e (nm_r (nI_1 i) (hX post q)))⟩
        · unfold wY_fade_37
          exact ⟨hv, nm_r eu ⟨hv, br_f h2 (nm_e (nm_r (nI_1 i) (hY post q)))⟩⟩
end
section
theorem wl_dn {q i : Nat} (hq : q < 2 ^ 31) (h : i < q / 16) : ¬ nI q / 16 ≤ nI i := by
  rw [show nI q / 16 = nI (q / 16) from pk_div (d := 16) hq (by decide) (by decide)]
  exact nI_ge h (by omega)
theorem wl_dl {q i : Nat} (hq : q < 2 ^ 31) (h : q / 16 = i) : nI q / 16 ≤ nI i := by
  rw [show nI q / 16 = nI (q / 16) from pk_div (d := 16) hq (by decide) (by decide)]
  exact nI_le (by omega) (by omega)
theorem wl_rm {q : Nat} (hq : q < 2 ^ 31) : nI q - nI q / 16 * 16 = nI (q % 16) := pk_rem (d := 16) hq (by decide) (by decide)
/-- the reference's step at a cell -/
theorem wl_Y1 {post : Int32 → SY → Prop} {c k x3 : Int32} {w a b : Nat → Int32} {x y q i n X Z : Nat} (hq : q < 2 ^ 31) (hi : i < q / 16) (hXZ : (x3 = 0 ∧ X = x + i ∧ Z = y) ∨ (¬ x3 = 0 ∧ X = x ∧ Z = y + i)) (hc : X < 16 ∧ Z < 16) (J : wY_wall_42 post (nI x) (nI y) x3 (nI q) c n (k + 1) (nI (i + 1)) (upd w (16 * Z + X) (nI (q % 16))) a b) : wY_wall_42 post (nI x) (nI y) x3 (nI q) c (n + 1) k (nI i) w a b := by
  have hC : mp_C (nI X) (nI Z) := (mp_CI (by omega) (by omega)).mpr hc
  have e : upd w ((16 * nI Z) + nI X).toNatClampNeg (nI q - nI q / 16 * 16) = upd w (16 * Z + X) (nI (q % 16)) := by
    rw [mp_ix, nI_clamp (by omega), wl_rm hq]
  have core : wY_wall_78 post (wY_wall_42 post (nI x) (nI y) x3 (nI q) c n) (nI x) (nI y) x3 (nI q) k (nI i) (nI X) (nI Z) c w a b := by
    unfold wY_wall_78
    exact ic_Yt hC (br_f mp_10 ⟨by decide, mp_Cin hC, nm_r e (nm_e (nm_r (nI_1 i) J))⟩)
  rcases hXZ with ⟨h3, rfl, rfl⟩ | ⟨h3, rfl, rfl⟩
  · refine ⟨by decide, br_f (wl_dn hq hi) (br_t h3 ?_)⟩
    unfold wY_wall_64
    rw [nI_add x i]
    exact br_t h3 core
  · refine ⟨by decide, br_f (wl_dn hq hi) (br_f h3 ?_)⟩
    unfold wY_wall_64
    rw [nI_add y i]
    exact br_f h3 core
/-- the reference's steps beyond the map -/
theorem wl_Y2 {post : Int32 → SY → Prop} {c k x3 : Int32} {w a b : Nat → Int32} {x y q : Nat} (hx : x < 16) (hy : y < 16) (hq : q < 2 ^ 31) (q0 : post k (c, w, a, b)) : ∀ e i : Nat, i + e = q / 16 → (e = 0 ∨ (x3 = 0 ∧ 16 ≤ x + i) ∨ (¬ x3 = 0 ∧ 16 ≤ y + i)) → wY_wall_42 post (nI x) (nI y) x3 (nI q) c (e + 1) k (nI i) w a b := by
  intro e
  induction e with
  | zero =>
    intro i hi _
    exact ⟨by decide, br_t (wl_dl hq (by omega)) q0⟩
  | succ e ih =>
    intro i hi h
    have hlt := wl_dn (i := i) hq (by omega)
    rcases h with h | ⟨h3, h⟩ | ⟨h3, h⟩
    · omega
    · have hC : ¬ mp_C (nI (x + i)) (nI y) := by
        rw [mp_CI (by omega) (by omega)]
        omega
      refine ⟨by decide, br_f hlt (br_t h3 ?_)⟩
      unfold wY_wall_64
      rw [nI_add x i]
      refine br_t h3 ?_
      unfold wY_wall_78
      exact ic_Yf hC (br_t rfl (nm_r (nI_1 i) (ih (i + 1) (by omega) (Or.inr (Or.inl ⟨h3, by omega⟩)))))
    · have hC : ¬ mp_C (nI x) (nI (y + i)) := by
        rw [mp_CI (by omega) (by omega)]
        omega
      refine ⟨by decide, br_f hlt (br_f h3 ?_)⟩
      unfold wY_wall_64
      rw [nI_add y i]
      refine br_f h3 ?_
      unfold wY_wall_78
      exact ic_Yf hC (br_t rfl (nm_r (nI_1 i) (ih (i + 1) (by omega) (Or.inr (Or.inr ⟨h3, by omega⟩)))))
theorem wl_l {c x3 : Int32} {a b : Nat → Int32} {x y q L s : Nat} (hx : x < 16) (hy : y < 16) (hq : q < 2 ^ 31) (h9 : q % 16 ≤ 9) (hL : L ≤ q / 16) (hg : (x3 = 0 ∧ s = 1 ∧ x + L ≤ 16) ∨ (¬ x3 = 0 ∧ s = 16 ∧ y + L ≤ 16)) : ∀ (d i : Nat) (w : Nat → Int32), i + d = L → mp_W w → ∃ w' : Nat → Int32, mp_W w' ∧ (∀ post : Int32 → SX → Prop, post (nI L) (c, w', a, b) → wX_wall_99 post (nI (q % 16)) (nI L) (nI s) (nI (16 * y + x)) c (d + 1) (nI i) w a b) ∧ (∀ (post : Int32 → SY → Prop) (m : Nat), wY_wall_42 post (nI x) (nI y) x3 (nI q) c m (nI L) (nI L) w' a b → wY_wall_42 post (nI x) (nI y) x3 (nI q) c (m + d) (nI i) (nI i) w a b) := by
  intro d
  induction d with
  | zero =>
    intro i w hi hw
    obtain rfl : i = L := by omega
    have hL16 : i ≤ 16 := by omega
    exact ⟨w, hw, fun post q => br_t (nI_le (by omega) (by omega)) q, fun post m h => h⟩
  | succ d ih =>
    intro i w hi hw
    have hL16 : L ≤ 16 := by omega
    obtain ⟨X, Z, hXZ, hc, eK⟩ : ∃ X Z : Nat, ((x3 = 0 ∧ X = x + i ∧ Z = y) ∨ (¬ x3 = 0 ∧ X = x ∧ Z = y + i)) ∧ (X < 16 ∧ Z < 16) ∧ 16 * Z + X = (16 * y + x) + i * s := by
      rcases hg with ⟨h3, rfl, hb⟩ | ⟨h3, rfl, hb⟩
      · exact ⟨x + i, y, Or.inl ⟨h3, rfl, rfl⟩, by omega, by omega⟩
      · exact ⟨x, y + i, Or.inr ⟨h3, rfl, rfl⟩, by omega, by omega⟩
    obtain ⟨w', hw', hX, hY⟩ := ih (i + 1) (upd w (16 * Z + X) (nI (q % 16))) (by omega) (mp_Wu hw _ ⟨_, h9, rfl⟩)
    have ei : nI (16 * y + x) + nI i * nI s = nI (16 * Z + X) := by rw [pk_mul, nI_add, eK]
    refine ⟨w', hw', fun post q0 => br_f (nI_ge (by omega) (by omega)) ?_, fun post m h => wl_Y1 hq (by omega) hXZ hc ?_⟩
    · rw [ei]
      refine ⟨vp_in_nI (by omega) (by omega), ?_⟩
      rw [nI_clamp (by omega)]
      exact nm_e (nm_r (nI_1 i) (hX post q0))
    · rw [nI_1]
      exact hY post m h
theorem wl_86 {post : Int32 → SX → Prop} {x y : Nat} {t l s c : Int32} {w a b : Nat → Int32} (h : ∃ n : Nat, wX_wall_99 post t l s (nI (16 * y + x)) c n 0 w a b) : wX_wall_86 post (nI x) (nI y) t l s c w a b := by
  unfold wX_wall_86
  exact nm_r (mp_ix x y) h
theorem wl_b {c x3 : Int32} {w a b : Nat → Int32} {x y q : Nat} (hx : x < 16) (hy : y < 16) (hq : q < 2 ^ 31) (h9 : q % 16 ≤ 9) (h16 : q / 16 ≤ 16) (hw : mp_W w) : ∃ (r : Int32) (w' : Nat → Int32), mp_W w' ∧ (∀ post : Int32 → SX → Prop, post r (c, w', a, b) → (x3 = 0 → wX_wall_51 post (nI x) (nI y) x3 (nI (q / 16)) (nI (q % 16)) (nI x) c w a b) ∧ (¬ x3 = 0 → wX_wall_51 post (nI x) (nI y) x3 (nI (q / 16)) (nI (q % 16)) (nI y) c w a b)) ∧ (∀ post : Int32 → SY → Prop, post r (c, w', a, b) → ∃ n : Nat, wY_wall_42 post (nI x) (nI y) x3 (nI q) c n 0 0 w a b) := by
  by_cases h3 : x3 = 0
  · obtain ⟨L, hL1, hL2, ha, hb⟩ : ∃ L : Nat, L ≤ q / 16 ∧ x + L ≤ 16 ∧ (16 - x ≤ q / 16 → 16 - x = L) ∧ (q / 16 < 16 - x → q / 16 = L) := by
      by_cases z : 16 - x ≤ q / 16
      · exact ⟨16 - x, z, by omega, fun _ => rfl, fun y => by omega⟩
      · exact ⟨q / 16, by omega, by omega, fun y => by omega, fun _ => rfl⟩
    obtain ⟨w', hw', hX, hY⟩ := wl_l (c := c) (a := a) (b := b) hx hy hq h9 hL1 (Or.inl ⟨h3, rfl, hL2⟩) L 0 w (by omega) hw
    refine ⟨nI L, w', hw', fun post q0 => br_t h3 ?_, fun post q0 => ⟨_, hY post _ (wl_Y2 hx hy hq q0 (q / 16 - L) L (by omega) ?_)⟩⟩
    · unfold wX_wall_51
      refine nm_r (show 16 - nI x = nI (16 - x) from pk_sub (a := 16) (by omega)) ?_
      refine pk_le (16 - x) (q / 16) (fun g => ?_) (fun g => ?_)
      · unfold wX_wall_74
        rw [ha g]
        exact br_t h3 (wl_86 ⟨_, hX post q0⟩)
      · unfold wX_wall_74
        rw [hb g]
        exact br_t h3 (wl_86 ⟨_, hX post q0⟩)
    · by_cases z : 16 - x ≤ q / 16
      · exact Or.inr (Or.inl ⟨h3, by have := ha z; omega⟩)
      · exact Or.inl (by have := hb (by omega); omega)
  · obtain ⟨L, hL1, hL2, ha, hb⟩ : ∃ L : Nat, L ≤ q / 16 ∧ y + L ≤ 16 ∧ (16 - y ≤ q / 16 → 16 - y = L) ∧ (q / 16 < 16 - y → q / 16 = L) := by
      by_cases z : 16 - y ≤ q / 16
      · exact ⟨16 - y, z, by omega, fun _ => rfl, fun y => by omega⟩
      · exact ⟨q / 16, by omega, by omega, fun y => by omega, fun _ => rfl⟩
    obtain ⟨w', hw', hX, hY⟩ := wl_l (c := c) (a := a) (b := b) hx hy hq h9 hL1 (Or.inr ⟨h3, rfl, hL2⟩) L 0 w (by omega) hw
    refine ⟨nI L, w', hw', fun post q0 => br_f h3 ?_, fun post q0 => ⟨_, hY post _ (wl_Y2 hx hy hq q0 (q / 16 - L) L (by omega) ?_)⟩⟩
    · unfold wX_wall_51
      refine nm_r (show 16 - nI y = nI (16 - y) from pk_sub (a := 16) (by omega)) ?_
      refine pk_le (16 - y) (q / 16) (fun g => ?_) (fun g => ?_)
      · unfold wX_wall_74
        rw [ha g]
        exact br_f h3 (wl_86 ⟨_, hX post q0⟩)
      · unfold wX_wall_74
        rw [hb g]
        exact br_f h3 (wl_86 ⟨_, hX post q0⟩)
    · by_cases z : 16 - y ≤ q / 16
      · exact Or.inr (Or.inr ⟨h3, by have := ha z; omega⟩)
      · exact Or.inl (by have := hb (by omega); omega)
theorem wl_neg {x : Int32} (h : x < 0) : x >>> ((4 : Int32) &&& 31) < 0 := by
  rw [Int32.lt_iff_toInt_lt, mp_t0] at h
  rw [Int32.lt_iff_toInt_lt, mp_t0, pk_shr _ _ 4 (by decide), Int.shiftRight_eq_div_pow]
  omega
end
section
theorem lk_X : ∀ i : Nat, i < 15 → ¬ (7 : Int32) < nI i - 7 := by decide +kernel
theorem lk_Xe : (7 : Int32) < nI 15 - 7 := by decide +kernel
theorem lk_Y : ∀ x : Nat, x < 16 → ∀ i : Nat, i < 15 → ¬ nI x + 7 < nI x + (nI i - 7) := by decide +kernel
theorem lk_Ye : ∀ x : Nat, x < 16 → nI x + 7 < nI x + (nI 15 - 7) := by decide +kernel
theorem lk_0 : (-7 : Int32) = nI 0 - 7 := by decide +kernel
theorem lk_m (z : Int32) : z - 7 = z + (nI 0 - 7) := by rw [← lk_0, Int32.sub_eq_add_neg]
theorem lk_r (z : Int32) : z - 7 + 1 = z + 1 - 7 := by grind
theorem lk_1 (i : Nat) : nI i - 7 + 1 = nI (i + 1) - 7 := by rw [lk_r, nI_1]
theorem lk_2 (z : Int32) (i : Nat) : z + (nI i - 7) + 1 = z + (nI (i + 1) - 7) := by rw [Int32.add_assoc, lk_1]
theorem lk_s (z y : Int32) : z + y - z = y := by grind
theorem lk_i {x : Nat} {y t v c : Int32} {w : Nat → Int32} (hx : x < 16) (hw : mp_W w) : ∀ (d i f : Nat) (pu pv : Nat → Int32), i + d = 15 → f ≤ 10 → ∃ (f' : Nat) (pu' pv' : Nat → Int32), f' ≤ 10 ∧ (∀ (post : Int32 → SX → Prop) (J : Int32 → Int32 → (Nat → Int32) → (Nat → Int32) → (Nat → Int32) → Prop), J (nI f') (v + 1) w pu' pv' → wX_look_39 post J (nI x) y t v c (d + 1) (nI f) (nI i - 7) w pu pv) ∧ (∀ (post : Int32 → SY → Prop) (J : Int32 → Int32 → (Nat → Int32) → (Nat → Int32) → (Nat → Int32) → Prop), J (nI f') (y + v + 1) w pu' pv' → wY_look_46 post J (nI x) y t (y + v) c (d + 1) (nI f) (nI x + (nI i - 7)) w pu pv) := by
  intro d
  induction d with
  | zero =>
    intro i f pu pv hi hf
    obtain rfl : i = 15 := by omega
    exact ⟨f, pu, pv, hf, fun post J q => br_t lk_Xe (nm_e q), fun post J q => br_t (lk_Ye x hx) (nm_e q)⟩
  | succ d ih =>
    intro i f pu pv hi hf
    have h7 := lk_X i (by omega)
    have hy7 := lk_Y x hx i (by omega)
    obtain ⟨n, hn9, wX, wY⟩ := wt_b (nI x + (nI i - 7)) (y + v) c w pu pv hw
    by_cases hf10 : f < 10
    · have h10 : ¬ (10 : Int32) ≤ nI f := nI_ge (b := 10) hf10 (by decide)
      by_cases hr : nI n < t
      · obtain ⟨f', pu', pv', hf', iX, iY⟩ := ih (i + 1) f pu pv (by omega) hf
        exact ⟨f', pu', pv', hf', fun post J q => br_f h7 (br_f h10 (wX _ (br_t hr (nm_r (lk_1 i) (iX post J q))))), fun post J q => br_f hy7 (wY _ (br_t hr (nm_r (lk_2 _ i) (iY post J q))))⟩
      · have hv : vp_in (nI f) 10 := vp_in_nI hf10 (by omega)
        have ec : (nI f).toNatClampNeg = f := nI_clamp (by omega)
        obtain ⟨f', pu', pv', hf', iX, iY⟩ := ih (i + 1) (f + 1) (upd pu f (nI i - 7)) (upd pv f v) (by omega) (by omega)
        have e1 : upd pu (nI f).toNatClampNeg (nI i - 7) = upd pu f (nI i - 7) := by rw [ec]
        have e2 : upd pv (nI f).toNatClampNeg v = upd pv f v := by rw [ec]
        have e3 : upd pu (nI f).toNatClampNeg (nI x + (nI i - 7) - nI x) = upd pu f (nI i - 7) := by rw [ec, lk_s]
        have e4 : upd pv (nI f).toNatClampNeg (y + v - y) = upd pv f v := by rw [ec, lk_s]
        exact ⟨f', pu', pv', hf', fun post J q => br_f h7 (br_f h10 (wX _ (br_f hr ⟨hv, nm_r e1 ⟨hv, nm_r e2 (nm_r (nI_1 f) (nm_r (lk_1 i) (iX post J q)))⟩⟩))), fun post J q => br_f hy7 (wY _ (br_f hr (br_f h10 ⟨hv, nm_r e3 ⟨hv, nm_r e4 (nm_r (nI_1 f) (nm_r (lk_2 _ i) (iY post J q)))⟩⟩)))⟩
    · have h10 : (10 : Int32) ≤ nI f := nI_le (a := 10) (by omega) (by omega)
      obtain ⟨f', pu', pv', hf', iX, iY⟩ := ih (i + 1) f pu pv (by omega) hf
      exact ⟨f', pu', pv', hf', fun post J q => br_f h7 (br_t h10 (nm_r (lk_1 i) (iX post J q))), fun post J q => br_f hy7 (wY _ (br_c (fun _ => nm_r (lk_2 _ i) (iY post J q)) (fun _ => br_t h10 (nm_r (lk_2 _ i) (iY post J q)))))⟩
theorem lk_o {x y c : Nat} {t : Int32} {w : Nat → Int32} (hx : x < 16) (hy : y < 16) (hc1 : 1 ≤ c) (hc : c ≤ 10) (hw : mp_W w) : ∀ (d j f : Nat) (pu pv : Nat → Int32), j + d = 15 → f ≤ 10 → ∃ (r : Int32) (c' : Nat) (pu' pv' : Nat → Int32), 1 ≤ c' ∧ c' ≤ 10 ∧ (∀ post : Int32 → SX → Prop, post r (nI c', w, pu', pv') → wX_look_28 post (nI x) (nI y) t (nI c) (d + 1) (nI f) (nI j - 7) w pu pv) ∧ (∀ post : Int32 → SY → Prop, post r (nI c', w, pu', pv') → wY_look_31 post (nI x) (nI y) t (nI c) (d + 1) (nI f) (nI y + (nI j - 7)) w pu pv) := by
  intro d
  induction d with
  | zero =>
    intro j f pu pv hj hf
    obtain rfl : j = 15 := by omega
    by_cases hz : f = 0
    · subst hz
      exact ⟨-4, c, pu, pv, hc1, hc, fun post q => br_t lk_Xe (br_t rfl q), fun post q => br_t (lk_Ye y hy) (br_t rfl q)⟩
    · have hn : ¬ nI f = 0 := nI_ne0 (by omega) (by omega)
      exact ⟨nI f, f, pu, pv, by omega, hf, fun post q => br_t lk_Xe (br_f hn q), fun post q => br_t (lk_Ye y hy) (br_f hn q)⟩
  | succ d ih =>
    intro j f pu pv hj hf
    obtain ⟨f1, pu1, pv1, hf1, iX, iY⟩ := lk_i (y := nI y) (t := t) (v := nI j - 7) (c := nI c) hx hw 15 0 f pu pv (by omega) hf
    obtain ⟨r, c', pu', pv', h1, h2, hX, hY⟩ := ih (j + 1) f1 pu1 pv1 (by omega) hf1
    rw [← lk_0] at iX
    rw [lk_1] at iX
    rw [lk_2] at iY
    exact ⟨r, c', pu', pv', h1, h2, fun post q => br_f (lk_X j (by omega)) ⟨_, iX post _ (hX post q)⟩, fun post q => br_f (lk_Y y hy j (by omega)) (nm_r (lk_m _) ⟨_, iY post _ (hY post q)⟩)⟩
/-- look, behind its tests -/
theorem lk_b {x y c : Nat} {t : Int32} {w a b : Nat → Int32} (hx : x < 16) (hy : y < 16) (hc1 : 1 ≤ c) (hc : c ≤ 10) (hw : mp_W w) : ∃ (r : Int32) (c' : Nat) (a' b' : Nat → Int32), 1 ≤ c' ∧ c' ≤ 10 ∧ (∀ post : Int32 → SX → Prop, post r (nI c', w, a', b') → ∃ n : Nat, wX_look_28 post (nI x) (nI y) t (nI c) n 0 (-7) w a b) ∧ (∀ post : Int32 → SY → Prop, post r (nI c', w, a', b') → ∀ z : Int32, z = nI y - 7 → ∃ n : Nat, wY_look_31 post (nI x) (nI y) t (nI c) n 0 z w a b) := by
  obtain ⟨r, c', a', b', h1, h2, hX, hY⟩ := lk_o (t := t) hx hy hc1 hc hw 15 0 0 a b (by omega) (by omega)
  rw [← lk_0] at hX
  exact ⟨r, c', a', b', h1, h2, fun post q => ⟨_, hX post q⟩, fun post q => nm_r (lk_m _) ⟨_, hY post q⟩⟩
end
section
theorem sb_negT {w : Nat} (h : w < 2 ^ 31) : (-nI w).toInt = -(w : Int) := by
  rw [Int32.toInt_neg, nI_toInt h]
  exact Int.bmod_eq_of_le (by omega) (by omega)
theorem ek_if {c d A B : Prop} (e : c ↔ d) (f : d → A) (g : ¬ d → B) : (c → A) ∧ (¬ c → B) :=
  ⟨fun z => f (e.mp z), fun z => g (fun y => z (e.mpr y))⟩
/-- the columns and rows of p and q are at most d apart -/
def mp_N (p q d : Nat) : Prop := (p % 16 ≤ q % 16 + d ∧ q % 16 ≤ p % 16 + d) ∧ (p / 16 % 16 ≤ q / 16 % 16 + d ∧ q / 16 % 16 ≤ p / 16 % 16 + d)
theorem nr_lo {a b d : Nat} (ha : a < 16) (hb : b < 16) (hd : d < 16) : nI a - nI b < -nI d ↔ a + d < b := by
  rw [Int32.lt_iff_toInt_lt, pk_sub_toInt (by omega) (by omega), sb_negT (by omega)]
  omega
theorem nr_hi {a b d : Nat} (ha : a < 16) (hb : b < 16) (hd : d < 16) : nI d < nI a - nI b ↔ b + d < a := by
  rw [Int32.lt_iff_toInt_lt, pk_sub_toInt (by omega) (by omega), nI_toInt (by omega)]
  omega
theorem nr_X {post : Int32 → Prop} {p q d : Nat} (hp : p < 1024) (hq : q < 1024) (hd : d < 16) (h1 : mp_N p q d → post 1) (h0 : ¬ mp_N p q d → post 0) : wpX_isNear post (nI p) (nI q) (nI d) := by
  have a1 : p % 16 < 16 := by omega
  have a2 : q % 16 < 16 := by omega
  have a3 : p / 16 % 16 < 16 := by omega
  have a4 : q / 16 % 16 < 16 := by omega
  unfold wpX_isNear wpX_columnOf wpX_rowOf
  dsimp only
  simp only [mp_row hp, mp_row hq, mp_col hp, mp_col hq]
  unfold mp_N at h1 h0
  refine nm_e (nm_e ?_)
  refine ek_if (nr_lo a1 a2 hd) (fun g => h0 (by omega)) (fun g => ?_)
  refine ek_if (nr_hi a1 a2 hd) (fun g => h0 (by omega)) (fun g => ?_)
  refine ek_if (nr_lo a3 a4 hd) (fun g => h0 (by omega)) (fun g => ?_)
  refine ek_if (nr_hi a3 a4 hd) (fun g => h0 (by omega)) (fun g => h1 (by omega))
theorem nr_Y {post : Int32 → Prop} {u : SY} {a b d : Nat} (ha : a < 16) (hb : b < 16) (hd : d < 16) (h1 : a ≤ b + d ∧ b ≤ a + d → post 1) (h0 : ¬ (a ≤ b + d ∧ b ≤ a + d) → post 0) : wpY_isNear post u (nI a) (nI b) (nI d) := by
  obtain ⟨f, w, us, vs⟩ := u
  unfold wpY_isNear
  refine ek_if (nr_hi ha hb hd) (fun g => h0 (by omega)) (fun g => ?_)
  exact ek_if (nr_hi hb ha hd) (fun g => h0 (by omega)) (fun g => h1 (by omega))
theorem mt_4 {r : Nat} (h : r ≤ 90) : ¬ nI r ≤ -4 := by
  rw [Int32.le_iff_toInt_le, nI_toInt (by omega), show (-4 : Int32).toInt = -4 from by decide]
  omega
theorem mt_1 {r : Nat} (h : r ≤ 90) : ¬ nI r ≤ -1 := by
  rw [Int32.le_iff_toInt_le, nI_toInt (by omega), show (-1 : Int32).toInt = -1 from by decide]
  omega
theorem mt_1' {r : Nat} (h : r ≤ 90) : -1 ≤ nI r := by
  rw [Int32.le_iff_toInt_le, nI_toInt (by omega), show (-1 : Int32).toInt = -1 from by decide]
  omega
theorem my_31 {post : Int32 → Prop} {J : Int32 → Int32 → Int32 → Prop} {x2 x3 x4 z c : Int32} {w a b : Nat → Int32} (h1 : x4 ≤ x2 → J z x2 (x3 + 1)) (h0 : ¬ x4 ≤ x2 → J z x4 (x3 + 1)) : wY_match_31 post J x2 x3 x4 z c w a b := by
  unfold wY_match_31
  exact br_c (fun g => nm_e (h1 g)) (fun g => nm_e (h0 g))
section
variable {c : Nat} {w a b : Nat → Int32} (hw : mp_W w) (hc : c ≤ 10)
/-- match, once a pose is held -/
theorem mt_s (hw : mp_W w) (hc : c ≤ 10) : ∀ d p m g : Nat, p + d = 1024 → m < 1024 → g ≤ 90 → ∃ r : Nat, r < 1024 ∧ (∀ post : Int32 → Prop, post (nI r) → wX_firstGreatest_11 post 1024 0 15 (nI c) w a b (d + 1) (nI m) (nI g) (nI p)) ∧ (∀ post : Int32 → Prop, post (nI r) → wY_match_6 post (nI c) w a b (d + 1) (nI m) (nI g) (nI p)) := by
  intro d
  induction d with
  | zero =>
    intro p m g hp hm hg
    have h : (1024 : Int32) ≤ nI p := nI_le (a := 1024) (by omega) (by omega)
    exact ⟨m, hm, fun post q => br_t h q, fun post q => br_t h q⟩
  | succ d ih =>
    intro p m g hp hm hg
    have h : ¬ (1024 : Int32) ≤ nI p := nI_ge (b := 1024) (by omega) (by decide)
    have hp1 : p < 1024 := by omega
    have hN : mp_N p 0 15 := by unfold mp_N; omega
    obtain ⟨s, hs, sX, sY⟩ := sc_b (a := a) (b := b) hw hc hp1
    by_cases hle : s ≤ g
    · have hl : nI s ≤ nI g := nI_le hle (by omega)
      obtain ⟨r, hr, hX, hY⟩ := ih (p + 1) m g (by omega) hm hg
      refine ⟨r, hr, fun post q => br_f h (nr_X (q := 0) (d := 15) hp1 (by omega) (by omega) (fun _ => br_f mp_10 (sX _ (br_t hl (nm_r (nI_1 p) (hX post q))))) (fun z => absurd hN z)), fun post q => br_f h (sY _ (br_t hl (my_31 (fun _ => ?_) (fun z => absurd hl z))))⟩
      rw [nI_1]
      exact hY post q
    · have hl : ¬ nI s ≤ nI g := nI_ge (by omega) (by omega)
      obtain ⟨r, hr, hX, hY⟩ := ih (p + 1) p s (by omega) hp1 hs
      refine ⟨r, hr, fun post q => br_f h (nr_X (q := 0) (d := 15) hp1 (by omega) (by omega) (fun _ => br_f mp_10 (sX _ (br_f hl (nm_r (nI_1 p) (hX post q))))) (fun z => absurd hN z)), fun post q => br_f h (sY _ (br_f hl (my_31 (fun z => absurd z hl) (fun _ => ?_))))⟩
      rw [nI_1]
      exact hY post q
/-- match: one answer for both sides, a pose -/
theorem mt_b (hw : mp_W w) (hc : c ≤ 10) : ∃ r : Nat, r < 1024 ∧ (∀ post : Int32 → Prop, post (nI r) → wpX_match post (nI c, w, a, b)) ∧ (∀ post : Int32 → Prop, post (nI r) → wpY_match post (nI c, w, a, b)) := by
  have h : ¬ (1024 : Int32) ≤ nI 0 := nI_ge (b := 1024) (by omega) (by decide)
  have hN : mp_N 0 0 15 := by unfold mp_N; omega
  obtain ⟨s, hs, sX, sY⟩ := sc_b (p := 0) (a := a) (b := b) hw hc (by omega)
  obtain ⟨r, hr, hX, hY⟩ := mt_s (a := a) (b := b) hw hc 1023 1 0 s (by omega) (by omega) hs
  refine ⟨r, hr, fun post q => ?_, fun post q => ?_⟩
  · unfold wpX_match wpX_firstGreatest
    exact ⟨1025, br_f h (nr_X (p := 0) (q := 0) (d := 15) (by omega) (by omega) (by omega) (fun _ => br_f mp_10 (sX _ (br_f (mt_4 hs) (nm_r (nI_1 0) (hX post q))))) (fun z => absurd hN z))⟩
  · unfold wpY_match
    exact ⟨1025, br_f h (sY _ (br_f (mt_1 hs) (my_31 (fun z => absurd z (mt_1 hs)) (fun _ => hY post q))))⟩
end
end
section
theorem mn_118 {post : Int32 → Prop} {J : Int32 → Int32 → Int32 → Prop} {x1 x2 x3 x4 x5 x6 z c : Int32} {w a b : Nat → Int32} (h1 : z ≤ x5 → J x4 x5 (x6 + 1)) (h0 : ¬ z ≤ x5 → J x6 z (x6 + 1)) : wY_matchNear_118 post J x1 x2 x3 x4 x5 x6 z c w a b := by
  unfold wY_matchNear_118
  refine br_c (fun g => ?_) (fun g => ?_)
  · unfold wY_matchNear_134
    exact br_t g (nm_e (h1 g))
  · unfold wY_matchNear_134
    exact br_f g (nm_e (h0 g))
theorem mn_ge {r p : Nat} (hr : r < 4) (h : p < 256 * r + 256) : ¬ (256 * nI r) + 256 ≤ nI p := by
  rw [show (256 : Int32) = nI 256 from rfl, pk_mul, nI_add]
  exact nI_ge h (by omega)
theorem mn_le {r p : Nat} (hr : r < 4) (h : p = 256 * r + 256) : (256 * nI r) + 256 ≤ nI p := by
  rw [show (256 : Int32) = nI 256 from rfl, pk_mul, nI_add]
  exact nI_le (by omega) (by omega)
/-- the reference's step in matchNear -/
theorem mn_t {post : Int32 → Prop} {x4 x5 c : Int32} {w a b : Nat → Int32} {n p q d r : Nat} (hr : r < 4) (hp : p < 256 * r + 256) (hq : q < 256) (hd : d < 16) (h1 : mp_N p q d → wY_matchNear_101 post (wY_matchNear_45 post (nI r) (nI q) (nI d) c w a b n) (nI r) (nI q) (nI d) x4 x5 (nI p) 1 c w a b) (h0 : ¬ mp_N p q d → wY_matchNear_101 post (wY_matchNear_45 post (nI r) (nI q) (nI d) c w a b n) (nI r) (nI q) (nI d) x4 x5 (nI p) 0 c w a b) : wY_matchNear_45 post (nI r) (nI q) (nI d) c w a b (n + 1) x4 x5 (nI p) := by
  have hp1 : p < 1024 := by omega
  have hq1 : q < 1024 := by omega
  unfold mp_N at h1 h0
  refine br_f (mn_ge hr hp) ⟨by decide, by decide, ?_⟩
  rw [mp_dcol hp1, mp_dcol hq1]
  refine nr_Y (by omega) (by omega) hd (fun g => br_f mp_10 ⟨by decide, by decide, by decide, ?_⟩) (fun g => br_t rfl ?_)
  · rw [mp_drow hp1, mp_d16 hq1]
    refine nr_Y (by omega) (by omega) hd (fun g2 => br_f mp_10 (h1 (by omega))) (fun g2 => br_t rfl ?_)
    unfold wY_matchNear_100
    exact h0 (by omega)
  · unfold wY_matchNear_100
    exact h0 (by omega)
theorem mn_s {c : Nat} {w a b : Nat → Int32} {q dd r : Nat} (hw : mp_W w) (hc : c ≤ 10) (hr : r < 4) (hq : q < 256) (hd : dd < 16) : ∀ d p m g : Nat, p + d = 256 * r + 256 → g ≤ 90 → ∃ s : Int32, (∀ post : Int32 → Prop, post s → wX_firstGreatest_11 post (nI (256 * r + 256)) (nI q) (nI dd) (nI c) w a b (d + 1) (nI m) (nI g) (nI p)) ∧ (∀ post : Int32 → Prop, post s → wY_matchNear_45 post (nI r) (nI q) (nI dd) (nI c) w a b (d + 1) (nI m) (nI g) (nI p)) := by
  intro d
  induction d with
  | zero =>
    intro p m g hp hg
    exact ⟨nI m, fun post q0 => br_t (nI_le (by omega) (by omega)) q0, fun post q0 => br_t (mn_le hr (by omega)) q0⟩
  | succ d ih =>
    intro p m g hp hg
    have h : ¬ nI (256 * r + 256) ≤ nI p := nI_ge (by omega) (by omega)
    have hp1 : p < 1024 := by omega
    by_cases hN : mp_N p q dd
    · obtain ⟨s, hs, sX, sY⟩ := sc_b (a := a) (b := b) hw hc hp1
      by_cases hle : s ≤ g
      · have hl : nI s ≤ nI g := nI_le hle (by omega)
        obtain ⟨t, hX, hY⟩ := ih (p + 1) m g (by omega) hg
        refine ⟨t, fun post q0 => br_f h (nr_X hp1 (by omega) hd (fun _ => br_f mp_10 (sX _ (br_t hl (nm_r (nI_1 p) (hX post q0))))) (fun z => absurd hN z)), fun post q0 => mn_t hr (by omega) hq hd (fun _ => ?_) (fun z => absurd hN z)⟩
        unfold wY_matchNear_101
        refine br_f mp_10 (sY _ (mn_118 (fun _ => ?_) (fun z => absurd hl z)))
        rw [nI_1]
        exact hY post q0
      · have hl : ¬ nI s ≤ nI g := nI_ge (by omega) (by omega)
        obtain ⟨t, hX, hY⟩ := ih (p + 1) p s (by omega) hs
        refine ⟨t, fun post q0 => br_f h (nr_X hp1 (by omega) hd (fun _ => br_f mp_10 (sX _ (br_f hl (nm_r (nI_1 p) (hX post q0))))) (fun z => absurd hN z)), fun post q0 => mn_t hr (by omega) hq hd (fun _ => ?_) (fun z => absurd hN z)⟩
        unfold wY_matchNear_101
        refine br_f mp_10 (sY _ (mn_118 (fun z => absurd z hl) (fun _ => ?_)))
        rw [nI_1]
        exact hY post q0
    · obtain ⟨t, hX, hY⟩ := ih (p + 1) m g (by omega) hg
      refine ⟨t, fun post q0 => br_f h (nr_X hp1 (by omega) hd (fun z => absurd z hN) (fun _ => br_t rfl (nm_r (nI_1 p) (hX post q0)))), fun post q0 => mn_t hr (by omega) hq hd (fun z => absurd z hN) (fun _ => ?_)⟩
      unfold wY_matchNear_101
      refine br_t rfl (mn_118 (fun _ => ?_) (fun z => absurd (mt_1' hg) z))
      rw [nI_1]
      exact hY post q0
theorem mn_i {c : Nat} {w a b : Nat → Int32} {q dd r : Nat} (hw : mp_W w) (hc : c ≤ 10) (hr : r < 4) (hq : q < 256) (hd : dd < 16) : ∀ d p : Nat, p + d = 256 * r + 256 → p ≤ 256 * r + q → ∃ s : Int32, (∀ post : Int32 → Prop, post s → wX_firstGreatest_11 post (nI (256 * r + 256)) (nI q) (nI dd) (nI c) w a b (d + 1) (-4) (-4) (nI p)) ∧ (∀ post : Int32 → Prop, post s → wY_matchNear_45 post (nI r) (nI q) (nI dd) (nI c) w a b (d + 1) 0 (-1) (nI p)) := by
  intro d
  induction d with
  | zero =>
    intro p hp hle
    omega
  | succ d ih =>
    intro p hp hle
    have h : ¬ nI (256 * r + 256) ≤ nI p := nI_ge (by omega) (by omega)
    have hp1 : p < 1024 := by omega
    by_cases hN : mp_N p q dd
    · obtain ⟨s, hs, sX, sY⟩ := sc_b (a := a) (b := b) hw hc hp1
      obtain ⟨t, hX, hY⟩ := mn_s (a := a) (b := b) hw hc hr hq hd d (p + 1) p s (by omega) hs
      refine ⟨t, fun post q0 => br_f h (nr_X hp1 (by omega) hd (fun _ => br_f mp_10 (sX _ (br_f (mt_4 hs) (nm_r (nI_1 p) (hX post q0))))) (fun z => absurd hN z)), fun post q0 => mn_t hr (by omega) hq hd (fun _ => ?_) (fun z => absurd hN z)⟩
      unfold wY_matchNear_101
      refine br_f mp_10 (sY _ (mn_118 (fun z => absurd z (mt_1 hs)) (fun _ => ?_)))
      rw [nI_1]
      exact hY post q0
    · have hne : p ≠ 256 * r + q := by
        intro e
        apply hN
        unfold mp_N
        omega
      obtain ⟨t, hX, hY⟩ := ih (p + 1) (by omega) (by omega)
      refine ⟨t, fun post q0 => br_f h (nr_X hp1 (by omega) hd (fun z => absurd z hN) (fun _ => br_t rfl (nm_r (nI_1 p) (hX post q0)))), fun post q0 => mn_t hr (by omega) hq hd (fun z => absurd z hN) (fun _ => ?_)⟩
      unfold wY_matchNear_101
      refine br_t rfl (mn_118 (fun _ => ?_) (fun z => absurd (by decide) z))
      rw [nI_1]
      exact hY post q0
theorem al_l {c : Nat} {w a b : Nat → Int32} {t : Int32} (hw : mp_W w) (hc : c ≤ 10) : ∀ (d p : Nat) (k : Int32), p + d = 1024 → ∃ s : Int32, (∀ post : Int32 → Prop, post s → wX_atLeast_4 post t (nI c) w a b (d + 1) k (nI p)) ∧ (∀ post : Int32 → Prop, post s → wY_atLeast_4 post t (nI c) w a b (d + 1) k (nI p)) := by
  intro d
  induction d with
  | zero =>
    intro p k hp
    have h : (1024 : Int32) ≤ nI p := nI_le (a := 1024) (by omega) (by omega)
    exact ⟨k, fun post q => br_t h q, fun post q => br_t h q⟩
  | succ d ih =>
    intro p k hp
    have h : ¬ (1024 : Int32) ≤ nI p := nI_ge (b := 1024) (by omega) (by decide)
    obtain ⟨s, hs, sX, sY⟩ := sc_b (p := p) (a := a) (b := b) hw hc (by omega)
    by_cases hl : nI s < t
    · obtain ⟨r, hX, hY⟩ := ih (p + 1) k (by omega)
      exact ⟨r, fun post q => br_f h (sX _ (br_t hl (nm_r (nI_1 p) (hX post q)))), fun post q => br_f h (sY _ (br_t hl (nm_r (nI_1 p) (hY post q))))⟩
    · obtain ⟨r, hX, hY⟩ := ih (p + 1) (k + 1) (by omega)
      exact ⟨r, fun post q => br_f h (sX _ (br_f hl (nm_e (nm_r (nI_1 p) (hX post q))))), fun post q => br_f h (sY _ (br_f hl (nm_e (nm_r (nI_1 p) (hY post q)))))⟩
end
section
/-- p is no rival of m: of its turn and less than 3 away -/
def mp_V (p m : Nat) : Prop := p / 256 = m / 256 ∧ mp_N p m 2
theorem rv_X {post : Int32 → Prop} {x2 c : Int32} {w a b : Nat → Int32} {n p m : Nat} (hp : p < 1024) (hm : m < 1024) (h1 : mp_V p m → wX_rival_10 post (nI m) c w a b n x2 (nI (p + 1))) (h0 : ¬ mp_V p m → wX_rival_37 post (wX_rival_10 post (nI m) c w a b n) (nI m) x2 (nI p) c w a b) : wX_rival_10 post (nI m) c w a b (n + 1) x2 (nI p) := by
  have h : ¬ (1024 : Int32) ≤ nI p := nI_ge (b := 1024) hp (by decide)
  refine br_f h ?_
  unfold wpX_turnOf
  dsimp only
  rw [mp_turn hp, mp_turn hm]
  refine ek_if (nI_eq (by omega) (by omega)) (fun g => ?_) (fun g => h0 (fun z => g z.1))
  exact nr_X (d := 2) hp hm (by omega) (fun z => br_f mp_10 (nm_r (nI_1 p) (h1 ⟨g, z⟩))) (fun z => br_t rfl (h0 (fun y => z y.2)))
theorem rv_Y {post : Int32 → Prop} {x2 c : Int32} {w a b : Nat → Int32} {n p m : Nat} (hp : p < 1024) (hm : m < 1024) (h1 : mp_V p m → wY_rival_73 post (wY_rival_10 post (nI m) c w a b n) (nI m) x2 (nI p) 1 c w a b) (h0 : ¬ mp_V p m → wY_rival_73 post (wY_rival_10 post (nI m) c w a b n) (nI m) x2 (nI p) 0 c w a b) : wY_rival_10 post (nI m) c w a b (n + 1) x2 (nI p) := by
  have h : ¬ (1024 : Int32) ≤ nI p := nI_ge (b := 1024) hp (by decide)
  unfold mp_V mp_N at h1 h0
  refine br_f h ⟨by decide, by decide, ?_⟩
  rw [mp_dturn hp, mp_dturn hm]
  refine ek_if (nI_eq (by omega) (by omega)) (fun g => ⟨by decide, by decide, ?_⟩) (fun g => ?_)
  · rw [mp_dcol hp, mp_dcol hm]
    refine nr_Y (d := 2) (by omega) (by omega) (by omega) (fun g2 => br_f mp_10 ⟨by decide, by decide, by decide, by decide, ?_⟩) (fun g2 => br_t rfl ?_)
    · rw [mp_drow hp, mp_drow hm]
      refine nr_Y (d := 2) (by omega) (by omega) (by omega) (fun g3 => br_f mp_10 (h1 (by omega))) (fun g3 => br_t rfl ?_)
      unfold wY_rival_72
      exact h0 (by omega)
    · unfold wY_rival_72
      exact h0 (by omega)
  · unfold wY_rival_72
    exact h0 (by omega)
theorem rv_l {c m : Nat} {w a b : Nat → Int32} (hw : mp_W w) (hc : c ≤ 10) (hm : m < 1024) : ∀ (d p : Nat) (g : Int32), p + d = 1024 → -4 ≤ g → ∃ s : Int32, (∀ post : Int32 → Prop, post s → wX_rival_10 post (nI m) (nI c) w a b (d + 1) g (nI p)) ∧ (∀ post : Int32 → Prop, post s → wY_rival_10 post (nI m) (nI c) w a b (d + 1) g (nI p)) := by
  intro d
  induction d with
  | zero =>
    intro p g hp hg
    have h : (1024 : Int32) ≤ nI p := nI_le (a := 1024) (by omega) (by omega)
    exact ⟨g, fun post q => br_t h q, fun post q => br_t h q⟩
  | succ d ih =>
    intro p g hp hg
    have hp1 : p < 1024 := by omega
    by_cases hV : mp_V p m
    · obtain ⟨r, hX, hY⟩ := ih (p + 1) g (by omega) hg
      refine ⟨r, fun post q => rv_X hp1 hm (fun _ => hX post q) (fun z => absurd hV z), fun post q => rv_Y hp1 hm (fun _ => ?_) (fun z => absurd hV z)⟩
      unfold wY_rival_73
      refine br_f mp_10 ?_
      unfold wY_rival_90
      exact br_t hg (nm_r (nI_1 p) (hY post q))
    · obtain ⟨s, hs, sX, sY⟩ := sc_b (a := a) (b := b) hw hc hp1
      by_cases hl : nI s ≤ g
      · obtain ⟨r, hX, hY⟩ := ih (p + 1) g (by omega) hg
        refine ⟨r, fun post q => rv_X hp1 hm (fun z => absurd z hV) (fun _ => ?_), fun post q => rv_Y hp1 hm (fun z => absurd z hV) (fun _ => ?_)⟩
        · unfold wX_rival_37
          exact sX _ (br_t hl (nm_r (nI_1 p) (hX post q)))
        · unfold wY_rival_73
          refine br_t rfl (sY _ ?_)
          unfold wY_rival_90
          exact br_t hl (nm_r (nI_1 p) (hY post q))
      · have h4 : -4 ≤ nI s := by
          rw [Int32.le_iff_toInt_le, nI_toInt (by omega), show (-4 : Int32).toInt = -4 from by decide]
          omega
        obtain ⟨r, hX, hY⟩ := ih (p + 1) (nI s) (by omega) h4
        refine ⟨r, fun post q => rv_X hp1 hm (fun z => absurd z hV) (fun _ => ?_), fun post q => rv_Y hp1 hm (fun z => absurd z hV) (fun _ => ?_)⟩
        · unfold wX_rival_37
          exact sX _ (br_f hl (nm_r (nI_1 p) (hX post q)))
        · unfold wY_rival_73
          refine br_t rfl (sY _ ?_)
          unfold wY_rival_90
          exact br_f hl (nm_r (nI_1 p) (hY post q))
end
section
/-- both states are the same: 1 to 10 points, weights from 0 to 9 -/
def i_Rel (_ : Nat) (u : SX) (v : SY) : Prop := ∃ (c : Nat) (w a b : Nat → Int32), u = (nI c, w, a, b) ∧ v = (nI c, w, a, b) ∧ 1 ≤ c ∧ c ≤ 10 ∧ mp_W w
theorem i_up {k : Nat} {u : SX} {v : SY} (h : i_Rel k u v) : i_Rel (k + 5) u v := h
theorem i_vc0 : wpX_init (fun u => wpY_init (fun v => i_Rel 0 u v)) := ⟨1, (fun _ => 0), (fun _ => 0), (fun _ => 0), rfl, rfl, by omega, by omega, mp_W0⟩
theorem rl_i {k c : Nat} {w a b : Nat → Int32} (h1 : 1 ≤ c) (h2 : c ≤ 10) (hw : mp_W w) : i_Rel k (nI c, w, a, b) (nI c, w, a, b) := ⟨c, w, a, b, rfl, rfl, h1, h2, hw⟩
theorem iw_t {post : Int32 → Prop} {u : SY} {x : Int32} (h0 : ¬ x < 0) (h9 : x ≤ 9) (q : post 1) : wpY_isWeight post u x := by
  obtain ⟨f, w, us, vs⟩ := u
  unfold wpY_isWeight
  exact br_f h0 (br_f (Int32.not_lt.mpr h9) q)
theorem iw_f {post : Int32 → Prop} {u : SY} {x : Int32} (h : x < 0 ∨ ¬ x ≤ 9) (q : post 0) : wpY_isWeight post u x := by
  obtain ⟨f, w, us, vs⟩ := u
  unfold wpY_isWeight
  refine br_c (fun _ => q) (fun g => br_t ?_ q)
  rcases h with h | h
  · exact absurd h g
  · exact Int32.not_le.mp h
def mp_Q (u v : Int32) : Prop := ¬ u < -7 ∧ ¬ 7 < u ∧ ¬ v < -7 ∧ ¬ 7 < v
theorem pt_Xt {post : Int32 → Prop} {x y : Int32} (h : mp_Q x y) (q : post 1) : wpX_isPoint post x y := by
  obtain ⟨h1, h2, h3, h4⟩ := h
  exact br_f h1 (br_f h2 (br_f h3 (br_f h4 q)))
theorem pt_Xf {post : Int32 → Prop} {x y : Int32} (h : ¬ mp_Q x y) (q : post 0) : wpX_isPoint post x y :=
  br_c (fun _ => q) (fun h1 => br_c (fun _ => q) (fun h2 => br_c (fun _ => q) (fun h3 => br_c (fun _ => q) (fun h4 => absurd ⟨h1, h2, h3, h4⟩ h))))
theorem pt_Yt {post : Int32 → Prop} {u : SY} {x y : Int32} (h : mp_Q x y) (q : post 1) : wpY_isPoint post u x y := by
  obtain ⟨h1, h2, h3, h4⟩ := h
  obtain ⟨f, w, us, vs⟩ := u
  exact br_f h1 (br_f h2 (br_f h3 (br_f h4 q)))
theorem pt_Yf {post : Int32 → Prop} {u : SY} {x y : Int32} (h : ¬ mp_Q x y) (q : post 0) : wpY_isPoint post u x y := by
  obtain ⟨f, w, us, vs⟩ := u
  exact br_c (fun _ => q) (fun h1 => br_c (fun _ => q) (fun h2 => br_c (fun _ => q) (fun h3 => br_c (fun _ => q) (fun h4 => absurd ⟨h1, h2, h3, h4⟩ h))))
theorem i_vc_set {k : Nat} {u : SX} {v : SY} (I : i_Rel k u v) (hk : k + 5 ≤ 2560) (v1 : Int32) (v2 : Int32) (v3 : Int32) : wpX_set (fun r u' => wpY_set (fun r' v' => r' = r ∧ i_Rel (k + 5) u' v') v v1 v2 v3) u v1 v2 v3 := by
  obtain ⟨c, w, a, b, rfl, rfl, h1, h2, hw⟩ := I
  unfold wpX_set wpY_set
  dsimp only
  by_cases hc : mp_C v1 v2
  · by_cases h0 : v3 < 0
    · exact ic_Xt hc (br_f mp_10 (br_t h0 (ic_Yt hc (br_f mp_10 (iw_f (Or.inl h0) (br_t rfl ⟨rfl, rl_i h1 h2 hw⟩))))))
    · by_cases h9 : v3 ≤ 9
      · exact ic_Xt hc (br_f mp_10 (br_f h0 (br_t h9 (nm_e ⟨mp_Cin hc, nm_e ⟨mp_Cin hc, nm_e (ic_Yt hc (br_f mp_10 (iw_t h0 h9 (br_f mp_10 ⟨mp_Cin hc, nm_e ⟨mp_Cin hc, nm_e ⟨rfl, rl_i h1 h2 (mp_Wu hw _ (nI_of2 mp_t9 h0 h9))⟩⟩⟩))))⟩⟩))))
      · exact ic_Xt hc (br_f mp_10 (br_f h0 (br_f h9 (ic_Yt hc (br_f mp_10 (iw_f (Or.inr h9) (br_t rfl ⟨rfl, rl_i h1 h2 hw⟩)))))))
  · exact ic_Xf hc (br_t rfl (ic_Yf hc (br_t rfl ⟨rfl, rl_i h1 h2 hw⟩)))
theorem i_vc_wall {k : Nat} {u : SX} {v : SY} (I : i_Rel k u v) (hk : k + 5 ≤ 2560) (v1 : Int32) (v2 : Int32) (v3 : Int32) (v4 : Int32) : wpX_wall (fun r u' => wpY_wall (fun r' v' => r' = r ∧ i_Rel (k + 5) u' v') v v1 v2 v3 v4) u v1 v2 v3 v4 := by
  obtain ⟨c, w, a, b, rfl, rfl, h1, h2, hw⟩ := I
  unfold wpX_wall wpY_wall
  dsimp only
  by_cases hc : mp_C v1 v2
  · by_cases hn : v4 < 0
    · exact nm_e (nm_e (ic_Xt hc (br_f mp_10 (br_t (wl_neg hn) (ic_Yt hc (br_f mp_10 (br_t hn ⟨rfl, rl_i h1 h2 hw⟩)))))))
    · obtain ⟨q, hq, rfl⟩ := nI_of hn
      have e1 : nI q >>> ((4 : Int32) &&& 31) = nI (q / 16) := pk_shrN hq _ 4 (by decide)
      have e2 : nI q &&& 15 = nI (q % 16) := pk_andN (by omega) 4 (by decide)
      have e3 : nI q / 16 = nI (q / 16) := pk_div (d := 16) hq (by decide) (by decide)
      refine nm_r e1 (nm_r e2 (ic_Xt hc (br_f mp_10 (br_f (nI_pos (by omega)) ?_))))
      by_cases h16 : q / 16 ≤ 16
      · have g1 : ¬ (16 : Int32) < nI (q / 16) := nI_nlt (a := 16) h16 (by decide)
        have g1' : ¬ (16 : Int32) < nI q / 16 := by rw [e3]; exact g1
        by_cases h9 : q % 16 ≤ 9
        · have g2 : nI (q % 16) ≤ 9 := nI_le (b := 9) h9 (by decide)
          have g2' : nI q - nI q / 16 * 16 ≤ 9 := by rw [wl_rm hq]; exact g2
          obtain ⟨x, y, hx, hy, rfl, rfl⟩ := mp_Cn hc
          obtain ⟨r, w', hw', hX, hY⟩ := wl_b (c := nI c) (x3 := v3) (a := a) (b := b) hx hy hq h9 h16 hw
          exact br_f g1 (br_t g2 (hX _ (ic_Yt hc (br_f mp_10 (br_f hn ⟨by decide, br_f g1' ⟨by decide, br_t g2' (hY _ ⟨rfl, rl_i h1 h2 hw'⟩)⟩⟩)))))
        · have g2 : ¬ nI (q % 16) ≤ 9 := nI_ge (a := 9) (by omega) (by omega)
          have g2' : ¬ nI q - nI q / 16 * 16 ≤ 9 := by rw [wl_rm hq]; exact g2
          exact br_f g1 (br_f g2 (ic_Yt hc (br_f mp_10 (br_f hn ⟨by decide, br_f g1' ⟨by decide, br_f g2' ⟨rfl, rl_i h1 h2 hw⟩⟩⟩))))
      · have g1 : (16 : Int32) < nI (q / 16) := nI_lt (a := 16) (by omega) (by omega)
        have g1' : (16 : Int32) < nI q / 16 := by rw [e3]; exact g1
        exact br_t g1 (ic_Yt hc (br_f mp_10 (br_f hn ⟨by decide, br_t g1' ⟨rfl, rl_i h1 h2 hw⟩⟩)))
  · exact nm_e (nm_e (ic_Xf hc (br_t rfl (ic_Yf hc (br_t rfl ⟨rfl, rl_i h1 h2 hw⟩)))))
theorem i_vc_weight {k : Nat} {u : SX} {v : SY} (I : i_Rel k u v) (hk : k + 5 ≤ 2560) (v1 : Int32) (v2 : Int32) : wpX_weight (fun r => wpY_weight (fun r' => r' = r ∧ i_Rel (k + 5) u v) v v1 v2) u v1 v2 := by
  obtain ⟨c, w, a, b, rfl, rfl, h1, h2, hw⟩ := I
  obtain ⟨n, hn, hX, hY⟩ := wt_b v1 v2 (nI c) w a b hw
  exact hX _ (hY _ ⟨rfl, rl_i h1 h2 hw⟩)
theorem i_vc_fade {k : Nat} {u : SX} {v : SY} (I : i_Rel k u v) (hk : k + 5 ≤ 2560) : wpX_fade (fun r u' => wpY_fade (fun r' v' => r' = r ∧ i_Rel (k + 5) u' v') v) u := by
  obtain ⟨c, w, a, b, rfl, rfl, h1, h2, hw⟩ := I
  obtain ⟨r, w', hw', hX, hY⟩ := fd_l (c := nI c) (a := a) (b := b) 256 0 0 w (by omega) hw
  unfold wpX_fade wpY_fade
  exact ⟨_, hX _ ⟨_, hY _ ⟨rfl, rl_i h1 h2 hw'⟩⟩⟩
theorem i_vc_scan {k : Nat} {u : SX} {v : SY} (I : i_Rel k u v) (hk : k + 5 ≤ 2560) (v1 : Int32) (v2 : Int32) : wpX_scan (fun r u' => wpY_scan (fun r' v' => r' = r ∧ i_Rel (k + 5) u' v') v v1 v2) u v1 v2 := by
  obtain ⟨c, w, a, b, rfl, rfl, h1, h2, hw⟩ := I
  unfold wpX_scan wpY_scan
  dsimp only
  by_cases hq : mp_Q v1 v2
  · exact pt_Xt hq (br_f mp_10 (nm_e (nm_e (pt_Yt hq (br_f mp_10 (nm_e (nm_e ⟨rfl, rl_i (c := 1) (by omega) (by omega) hw⟩)))))))
  · exact pt_Xf hq (br_t rfl (pt_Yf hq (br_t rfl ⟨rfl, rl_i h1 h2 hw⟩)))
theorem i_vc_point {k : Nat} {u : SX} {v : SY} (I : i_Rel k u v) (hk : k + 5 ≤ 2560) (v1 : Int32) (v2 : Int32) : wpX_point (fun r u' => wpY_point (fun r' v' => r' = r ∧ i_Rel (k + 5) u' v') v v1 v2) u v1 v2 := by
  obtain ⟨c, w, a, b, rfl, rfl, h1, h2, hw⟩ := I
  unfold wpX_point wpY_point
  dsimp only
  by_cases hq : mp_Q v1 v2
  · by_cases hc : c < 10
    · have g : nI c < 10 := nI_lt (b := 10) hc (by decide)
      have g' : ¬ nI c = 10 := fun e => by
        have := (nI_eq (b := 10) (by omega) (by omega)).mp e
        omega
      have hv : vp_in (nI c) 10 := vp_in_nI hc (by omega)
      exact pt_Xt hq (br_f mp_10 (br_t g ⟨hv, nm_e ⟨hv, nm_e (nm_r (nI_1 c) (pt_Yt hq (br_f mp_10 (br_f g' ⟨hv, nm_e ⟨hv, nm_e (nm_r (nI_1 c) ⟨rfl, rl_i (by omega) (by omega) hw⟩)⟩⟩))))⟩⟩))
    · have g : ¬ nI c < 10 := nI_nlt (b := 10) (by omega) (by omega)
      have g' : nI c = 10 := (nI_eq (b := 10) (by omega) (by omega)).mpr (by omega)
      exact pt_Xt hq (br_f mp_10 (br_f g (pt_Yt hq (br_f mp_10 (br_t g' ⟨rfl, rl_i h1 h2 hw⟩)))))
  · exact pt_Xf hq (br_t rfl (pt_Yf hq (br_t rfl ⟨rfl, rl_i h1 h2 hw⟩)))
theorem i_vc_look {k : Nat} {u : SX} {v : SY} (I : i_Rel k u v) (hk : k + 5 ≤ 2560) (v1 : Int32) (v2 : Int32) (v3 : Int32) : wpX_look (fun r u' => wpY_look (fun r' v' => r' = r ∧ i_Rel (k + 5) u' v') v v1 v2 v3) u v1 v2 v3 := by
  obtain ⟨c, w, a, b, rfl, rfl, h1, h2, hw⟩ := I
  unfold wpX_look wpY_look
  dsimp only
  by_cases hc : mp_C v1 v2
  · by_cases h0 : v3 < 1
    · exact ic_Xt hc (br_f mp_10 (br_t h0 (ic_Yt hc (br_f mp_10 (br_t h0 ⟨rfl, rl_i h1 h2 hw⟩)))))
    · by_cases h9 : v3 ≤ 9
      · obtain ⟨x, y, hx, hy, rfl, rfl⟩ := mp_Cn hc
        obtain ⟨r, c', a', b', g1, g2, hX, hY⟩ := lk_b (t := v3) (a := a) (b := b) hx hy h1 h2 hw
        exact ic_Xt hc (br_f mp_10 (br_f h0 (br_t h9 (hX _ (ic_Yt hc (br_f mp_10 (br_f h0 (br_t h9 (hY _ ⟨rfl, rl_i g1 g2 hw⟩)))))))))
      · exact ic_Xt hc (br_f mp_10 (br_f h0 (br_f h9 (ic_Yt hc (br_f mp_10 (br_f h0 (br_f h9 ⟨rfl, rl_i h1 h2 hw⟩)))))))
  · exact ic_Xf hc (br_t rfl (ic_Yf hc (br_t rfl ⟨rfl, rl_i h1 h2 hw⟩)))
theorem i_vc_stamp {k : Nat} {u : SX} {v : SY} (I : i_Rel k u v) (hk : k + 5 ≤ 2560) (v1 : Int32) (v2 : Int32) : wpX_stamp (fun r u' => wpY_stamp (fun r' v' => r' = r ∧ i_Rel (k + 5) u' v') v v1 v2) u v1 v2 := by
  obtain ⟨c, w, a, b, rfl, rfl, h1, h2, hw⟩ := I
  unfold wpX_stamp wpY_stamp
  dsimp only
  by_cases hP : mp_P v1
  · obtain ⟨p, hp, rfl⟩ := mp_of (m := 1024) hP.1 hP.2
    by_cases h0 : v2 < 1
    · exact ip_Xt hp (br_f mp_10 (br_t h0 (ip_Yt hp (br_f mp_10 (br_t h0 ⟨rfl, rl_i h1 h2 hw⟩)))))
    · by_cases h9 : v2 ≤ 9
      · have hz : ¬ v2 < 0 := fun z => h0 (by
          rw [Int32.lt_iff_toInt_lt, mp_t0] at z
          rw [Int32.lt_iff_toInt_lt, show (1 : Int32).toInt = 1 from by decide]
          omega)
        obtain ⟨s, hs, rfl⟩ := nI_of2 mp_t9 hz h9
        obtain ⟨r, w', hw', hX, hY⟩ := st_l (a := a) (b := b) h2 hp hs c 0 0 w (by omega) hw
        exact ip_Xt hp (br_f mp_10 (br_f h0 (br_t h9 ⟨_, hX _ (ip_Yt hp (br_f mp_10 (br_f h0 (br_t h9 ⟨_, hY _ ⟨rfl, rl_i h1 h2 hw'⟩⟩))))⟩)))
      · exact ip_Xt hp (br_f mp_10 (br_f h0 (br_f h9 (ip_Yt hp (br_f mp_10 (br_f h0 (br_f h9 ⟨rfl, rl_i h1 h2 hw⟩)))))))
  · exact ip_Xf hP (br_t rfl (ip_Yf hP (br_t rfl ⟨rfl, rl_i h1 h2 hw⟩)))
theorem i_vc_points {k : Nat} {u : SX} {v : SY} (I : i_Rel k u v) (hk : k + 5 ≤ 2560) : wpX_points (fun r => wpY_points (fun r' => r' = r ∧ i_Rel (k + 5) u v) v) u := by
  obtain ⟨c, w, a, b, rfl, rfl, h1, h2, hw⟩ := I
  exact ⟨rfl, rl_i h1 h2 hw⟩
theorem i_vc_score {k : Nat} {u : SX} {v : SY} (I : i_Rel k u v) (hk : k + 5 ≤ 2560) (v1 : Int32) : wpX_score (fun r => wpY_score (fun r' => r' = r ∧ i_Rel (k + 5) u v) v v1) u v1 := by
  obtain ⟨c, w, a, b, rfl, rfl, h1, h2, hw⟩ := I
  by_cases hP : mp_P v1
  · obtain ⟨p, hp, rfl⟩ := mp_of (m := 1024) hP.1 hP.2
    obtain ⟨s, hs, sX, sY⟩ := sc_b (a := a) (b := b) hw h2 hp
    refine sX _ ?_
    unfold wpY_score
    exact ip_Yt hp (br_f mp_10 (sY _ ⟨rfl, rl_i h1 h2 hw⟩))
  · unfold wpX_score wpY_score
    exact ip_Xf hP (br_t rfl (ip_Yf hP (br_t rfl ⟨rfl, rl_i h1 h2 hw⟩)))
theorem i_vc_best {k : Nat} {u : SX} {v : SY} (I : i_Rel k u v) (hk : k + 5 ≤ 2560) : wpX_best (fun r => wpY_best (fun r' => r' = r ∧ i_Rel (k + 5) u v) v) u := by
  obtain ⟨c, w, a, b, rfl, rfl, h1, h2, hw⟩ := I
  obtain ⟨m, hm, hX, hY⟩ := mt_b (a := a) (b := b) hw h2
  obtain ⟨s, hs, sX, sY⟩ := sc_b (a := a) (b := b) hw h2 hm
  unfold wpX_best wpY_best
  exact hX _ (sX _ (hY _ (sY _ ⟨rfl, rl_i h1 h2 hw⟩)))
theorem i_vc_match {k : Nat} {u : SX} {v : SY} (I : i_Rel k u v) (hk : k + 5 ≤ 2560) : wpX_match (fun r => wpY_match (fun r' => r' = r ∧ i_Rel (k + 5) u v) v) u := by
  obtain ⟨c, w, a, b, rfl, rfl, h1, h2, hw⟩ := I
  obtain ⟨m, hm, hX, hY⟩ := mt_b (a := a) (b := b) hw h2
  exact hX _ (hY _ ⟨rfl, rl_i h1 h2 hw⟩)
theorem i_vc_matchNear {k : Nat} {u : SX} {v : SY} (I : i_Rel k u v) (hk : k + 5 ≤ 2560) (v1 : Int32) (v2 : Int32) (v3 : Int32) : wpX_matchNear (fun r => wpY_matchNear (fun r' => r' = r ∧ i_Rel (k + 5) u v) v v1 v2 v3) u v1 v2 v3 := by
  obtain ⟨c, w, a, b, rfl, rfl, h1, h2, hw⟩ := I
  unfold wpX_matchNear wpY_matchNear
  dsimp only
  by_cases r0 : v1 < 0
  · exact br_t r0 (br_t r0 ⟨rfl, rl_i h1 h2 hw⟩)
  obtain ⟨r, hr, rfl⟩ := nI_of r0
  by_cases r4 : r < 4
  case neg => exact br_f r0 (br_t (nI_le (a := 4) (by omega) (by omega)) (br_f r0 (br_t (nI_lt (a := 3) (by omega) (by omega)) ⟨rfl, rl_i h1 h2 hw⟩)))
  have r4x : ¬ (4 : Int32) ≤ nI r := nI_ge (b := 4) r4 (by decide)
  have r4y : ¬ (3 : Int32) < nI r := nI_nlt (a := 3) (by omega) (by decide)
  by_cases q0 : v2 < 0
  · exact br_f r0 (br_f r4x (br_t q0 (br_f r0 (br_f r4y (br_t q0 ⟨rfl, rl_i h1 h2 hw⟩)))))
  obtain ⟨q, hq, rfl⟩ := nI_of q0
  by_cases q4 : q < 256
  case neg => exact br_f r0 (br_f r4x (br_f q0 (br_t (nI_le (a := 256) (by omega) (by omega)) (br_f r0 (br_f r4y (br_f q0 (br_t (nI_lt (a := 255) (by omega) (by omega)) ⟨rfl, rl_i h1 h2 hw⟩)))))))
  have q4x : ¬ (256 : Int32) ≤ nI q := nI_ge (b := 256) q4 (by decide)
  have q4y : ¬ (255 : Int32) < nI q := nI_nlt (a := 255) (by omega) (by decide)
  by_cases d0 : v3 < 0
  · exact br_f r0 (br_f r4x (br_f q0 (br_f q4x (br_t d0 (br_f r0 (br_f r4y (br_f q0 (br_f q4y (br_t d0 ⟨rfl, rl_i h1 h2 hw⟩)))))))))
  obtain ⟨d, hd, rfl⟩ := nI_of d0
  by_cases d4 : d < 16
  case neg => exact br_f r0 (br_f r4x (br_f q0 (br_f q4x (br_f d0 (br_f (nI_nlt (b := 16) (by omega) (by omega)) (br_f r0 (br_f r4y (br_f q0 (br_f q4y (br_f d0 (br_f (nI_ge (a := 15) (by omega) (by omega)) ⟨rfl, rl_i h1 h2 hw⟩)))))))))))
  have d4x : nI d < 16 := nI_lt (b := 16) d4 (by decide)
  have d4y : nI d ≤ 15 := nI_le (b := 15) (by omega) (by decide)
  have e : (256 : Int32) * nI r = nI (256 * r) := pk_mul 256 r
  obtain ⟨s, hX, hY⟩ := mn_i (a := a) (b := b) hw h2 r4 q4 d4 256 (256 * r) (by omega) (by omega)
  refine br_f r0 (br_f r4x (br_f q0 (br_f q4x (br_f d0 (br_t d4x (nm_r e ?_))))))
  rw [show nI (256 * r) + 256 = nI (256 * r + 256) from nI_add (256 * r) 256]
  unfold wpX_firstGreatest
  exact ⟨_, hX _ (br_f r0 (br_f r4y (br_f q0 (br_f q4y (br_f d0 (br_t d4y (nm_r e ⟨_, hY _ ⟨rfl, rl_i h1 h2 hw⟩⟩)))))))⟩
theorem i_vc_atLeast {k : Nat} {u : SX} {v : SY} (I : i_Rel k u v) (hk : k + 5 ≤ 2560) (v1 : Int32) : wpX_atLeast (fun r => wpY_atLeast (fun r' => r' = r ∧ i_Rel (k + 5) u v) v v1) u v1 := by
  obtain ⟨c, w, a, b, rfl, rfl, h1, h2, hw⟩ := I
  obtain ⟨s, hX, hY⟩ := al_l (a := a) (b := b) (t := v1) hw h2 1024 0 0 (by omega)
  unfold wpX_atLeast wpY_atLeast
  exact ⟨_, hX _ ⟨_, hY _ ⟨rfl, rl_i h1 h2 hw⟩⟩⟩
theorem i_vc_rival {k : Nat} {u : SX} {v : SY} (I : i_Rel k u v) (hk : k + 5 ≤ 2560) : wpX_rival (fun r => wpY_rival (fun r' => r' = r ∧ i_Rel (k + 5) u v) v) u := by
  obtain ⟨c, w, a, b, rfl, rfl, h1, h2, hw⟩ := I
  obtain ⟨m, hm, hX, hY⟩ := mt_b (a := a) (b := b) hw h2
  obtain ⟨s, rX, rY⟩ := rv_l (a := a) (b := b) hw h2 hm 1024 0 (-4) (by omega) (by decide)
  unfold wpX_rival wpY_rival
  exact hX _ ⟨_, rX _ (hY _ ⟨_, rY _ ⟨rfl, rl_i h1 h2 hw⟩⟩)⟩
end
