/-- every weight is a number from 0 to 9 -/
def mp_W (w : Nat → Int32) : Prop := ∀ j : Nat, ∃ n : Nat, n ≤ 9 ∧ w j = nI n
/-- (x, y) is a cell of the map -/
def mp_C (x y : Int32) : Prop := (0 ≤ x.toInt ∧ x.toInt < 16) ∧ (0 ≤ y.toInt ∧ y.toInt < 16)
theorem mp_W0 : mp_W (fun _ => 0) := fun _ => ⟨0, by omega, rfl⟩
theorem mp_Wu {w : Nat → Int32} (h : mp_W w) (k : Nat) {x : Int32} (hx : ∃ n : Nat, n ≤ 9 ∧ x = nI n) : mp_W (upd w k x) := by
  intro j
  by_cases e : j = k
  · subst e
    rw [pk_us]
    exact hx
  · rw [pk_un e]
    exact h j
theorem mp_10 : ¬ (1 : Int32) = 0 := by decide
theorem mp_t0 : (0 : Int32).toInt = 0 := by decide
theorem mp_t9 : (9 : Int32).toInt = 9 := by decide
theorem mp_t15 : (15 : Int32).toInt = 15 := by decide
theorem mp_t16 : (16 : Int32).toInt = 16 := by decide
theorem mp_t1024 : (1024 : Int32).toInt = 1024 := by decide
theorem mp_t1023 : (1023 : Int32).toInt = 1023 := by decide
theorem mp_of {x : Int32} {m : Nat} (h0 : 0 ≤ x.toInt) (h1 : x.toInt < m) : ∃ i : Nat, i < m ∧ x = nI i := by
  have hz : ¬ x < 0 := by rw [Int32.lt_iff_toInt_lt, mp_t0]; omega
  obtain ⟨j, hj, rfl⟩ := nI_of hz
  rw [nI_toInt hj] at h1
  exact ⟨j, by omega, rfl⟩
theorem mp_Cn {x y : Int32} (h : mp_C x y) : ∃ i j : Nat, i < 16 ∧ j < 16 ∧ x = nI i ∧ y = nI j := by
  obtain ⟨i, hi, ei⟩ := mp_of (m := 16) h.1.1 h.1.2
  obtain ⟨j, hj, ej⟩ := mp_of (m := 16) h.2.1 h.2.2
  exact ⟨i, j, hi, hj, ei, ej⟩
theorem mp_CI {i j : Nat} (hi : i < 2 ^ 31) (hj : j < 2 ^ 31) : mp_C (nI i) (nI j) ↔ i < 16 ∧ j < 16 := by
  unfold mp_C
  rw [nI_toInt hi, nI_toInt hj]
  omega
theorem mp_ix (i j : Nat) : 16 * nI j + nI i = nI (16 * j + i) := by
  rw [show (16 : Int32) = nI 16 from rfl, pk_mul, nI_add]
theorem mp_Ck {x y : Int32} (h : mp_C x y) : ∃ k : Nat, k < 256 ∧ (16 * y) + x = nI k := by
  obtain ⟨i, j, hi, hj, rfl, rfl⟩ := mp_Cn h
  exact ⟨16 * j + i, by omega, mp_ix i j⟩
theorem mp_Cin {x y : Int32} (h : mp_C x y) : vp_in ((16 * y) + x) 256 := by
  obtain ⟨k, hk, e⟩ := mp_Ck h
  rw [e]
  exact vp_in_nI hk (by omega)
theorem ic_Xt {post : Int32 → Prop} {x y : Int32} (h : mp_C x y) (p : post 1) : wpX_isCell post x y := by
  obtain ⟨⟨a, b⟩, ⟨c, d⟩⟩ := h
  unfold wpX_isCell
  refine br_f ?_ (br_f ?_ (br_f ?_ (br_f ?_ p)))
  · rw [Int32.lt_iff_toInt_lt, mp_t0]; omega
  · rw [Int32.le_iff_toInt_le, mp_t16]; omega
  · rw [Int32.lt_iff_toInt_lt, mp_t0]; omega
  · rw [Int32.le_iff_toInt_le, mp_t16]; omega
theorem ic_Xf {post : Int32 → Prop} {x y : Int32} (h : ¬ mp_C x y) (p : post 0) : wpX_isCell post x y := by
  unfold wpX_isCell
  refine br_c (fun _ => p) (fun a => br_c (fun _ => p) (fun b => br_c (fun _ => p) (fun c => br_c (fun _ => p) (fun d => ?_))))
  exfalso
  apply h
  rw [Int32.lt_iff_toInt_lt, mp_t0] at a c
  rw [Int32.le_iff_toInt_le, mp_t16] at b d
  exact ⟨⟨by omega, by omega⟩, ⟨by omega, by omega⟩⟩
theorem ic_Yt {post : Int32 → Prop} {x y : Int32} {u : SY} (h : mp_C x y) (p : post 1) : wpY_isCell post u x y := by
  obtain ⟨⟨a, b⟩, ⟨c, d⟩⟩ := h
  obtain ⟨f, w, us, vs⟩ := u
  unfold wpY_isCell
  refine br_f ?_ (br_f ?_ (br_f ?_ (br_f ?_ p)))
  · rw [Int32.lt_iff_toInt_lt, mp_t0]; omega
  · rw [Int32.lt_iff_toInt_lt, mp_t15]; omega
  · rw [Int32.lt_iff_toInt_lt, mp_t0]; omega
  · rw [Int32.lt_iff_toInt_lt, mp_t15]; omega
theorem ic_Yf {post : Int32 → Prop} {x y : Int32} {u : SY} (h : ¬ mp_C x y) (p : post 0) : wpY_isCell post u x y := by
  obtain ⟨f, w, us, vs⟩ := u
  unfold wpY_isCell
  refine br_c (fun _ => p) (fun a => br_c (fun _ => p) (fun b => br_c (fun _ => p) (fun c => br_c (fun _ => p) (fun d => ?_))))
  exfalso
  apply h
  rw [Int32.lt_iff_toInt_lt, mp_t0] at a c
  rw [Int32.lt_iff_toInt_lt, mp_t15] at b d
  exact ⟨⟨by omega, by omega⟩, ⟨by omega, by omega⟩⟩
/-- a pose, as both sides test it -/
theorem ip_Xt {post : Int32 → Prop} {p : Nat} (h : p < 1024) (q : post 1) : wpX_isPose post (nI p) := by
  unfold wpX_isPose
  exact br_f (nI_pos (by omega)) (br_f (nI_ge (b := 1024) h (by decide)) q)
theorem ip_Yt {post : Int32 → Prop} {u : SY} {p : Nat} (h : p < 1024) (q : post 1) : wpY_isPose post u (nI p) := by
  obtain ⟨f, w, us, vs⟩ := u
  unfold wpY_isPose
  exact br_f (nI_pos (by omega)) (br_f (nI_nlt (b := p) (a := 1023) (by omega) (by decide)) q)
def mp_P (x : Int32) : Prop := 0 ≤ x.toInt ∧ x.toInt < 1024
theorem ip_Xf {post : Int32 → Prop} {x : Int32} (h : ¬ mp_P x) (q : post 0) : wpX_isPose post x := by
  unfold wpX_isPose
  refine br_c (fun _ => q) (fun a => br_c (fun _ => q) (fun b => ?_))
  exfalso
  apply h
  rw [Int32.lt_iff_toInt_lt, mp_t0] at a
  rw [Int32.le_iff_toInt_le, mp_t1024] at b
  exact ⟨by omega, by omega⟩
theorem ip_Yf {post : Int32 → Prop} {u : SY} {x : Int32} (h : ¬ mp_P x) (q : post 0) : wpY_isPose post u x := by
  obtain ⟨f, w, us, vs⟩ := u
  unfold wpY_isPose
  refine br_c (fun _ => q) (fun a => br_c (fun _ => q) (fun b => ?_))
  exfalso
  apply h
  rw [Int32.lt_iff_toInt_lt, mp_t0] at a
  rw [Int32.lt_iff_toInt_lt, mp_t1023] at b
  exact ⟨by omega, by omega⟩
/-- the weight at (x, y): one answer for both sides -/
theorem wt_b (x y c : Int32) (w a b : Nat → Int32) (hw : mp_W w) : ∃ n : Nat, n ≤ 9 ∧ (∀ post : Int32 → Prop, post (nI n) → wpX_weight post (c, w, a, b) x y) ∧ (∀ post : Int32 → Prop, post (nI n) → wpY_weight post (c, w, a, b) x y) := by
  by_cases h : mp_C x y
  · obtain ⟨n, hn, e⟩ := hw ((16 * y) + x).toNatClampNeg
    refine ⟨n, hn, fun post p => ?_, fun post p => ?_⟩
    · unfold wpX_weight
      exact ic_Xt h (br_f mp_10 ⟨mp_Cin h, by rw [e]; exact p⟩)
    · unfold wpY_weight
      exact ic_Yt h (br_f mp_10 ⟨mp_Cin h, by rw [e]; exact p⟩)
  · refine ⟨0, by omega, fun post p => ?_, fun post p => ?_⟩
    · unfold wpX_weight
      exact ic_Xf h (br_t rfl p)
    · unfold wpY_weight
      exact ic_Yf h (br_t rfl p)
