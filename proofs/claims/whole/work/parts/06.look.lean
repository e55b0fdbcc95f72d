theorem lk_X : ∀ i : Nat, i < 15 → ¬ (7 : Int32) < nI i - 7 := by decide +kernel
theorem lk_Xe : (7 : Int32) < nI 15 - 7 := by decide +kernel
theorem lk_Y : ∀ x : Nat, x < 16 → ∀ i : Nat, i < 15 → ¬ nI x + 7 < nI x + (nI i - 7) := by decide +kernel
theorem lk_Ye : ∀ x : Nat, x < 16 → nI x + 7 < nI x + (nI 15 - 7) := by decide +kernel
theorem lk_0 : (-7 : Int32) = nI 0 - 7 := by decide +kernel
theorem lk_m (z : Int32) : z - 7 = z + (nI 0 - 7) := by rw [← lk_0, Int32.sub_eq_add_neg]
theorem lk_r (z : Int32) : z - 7 + 1 = z + 1 - 7 := by grind
theorem lk_1 (i : Nat) : nI i - 7 + 1 = nI (i + 1) - 7 := by rw [lk_r, nI_1]
theorem lk_2 (z : Int32) (i : Nat) : z + (nI i - 7) + 1 = z + (nI (i + 1) - 7) := by rw [Int32.add_assoc, lk_1]
theorem lk_s (z y : Int32) : z + y - z = y := by grind
theorem lk_i {x : Nat} {y t v c : Int32} {w : Nat → Int32} (hx : x < 16) (hw : mp_W w) : ∀ (d i f : Nat) (pu pv : Nat → Int32), i + d = 15 → f ≤ 10 → ∃ (f' : Nat) (pu' pv' : Nat → Int32), f' ≤ 10 ∧ (∀ (post : Int32 → SX → Prop) (J : Int32 → Int32 → (Nat → Int32) → (Nat → Int32) → (Nat → Int32) → Prop), J (nI f') (v + 1) w pu' pv' → wX_look_39 post J (nI x) y t v c (d + 1) (nI f) (nI i - 7) w pu pv) ∧ (∀ (post : Int32 → SY → Prop) (J : Int32 → Int32 → (Nat → Int32) → (Nat → Int32) → (Nat → Int32) → Prop), J (nI f') (y + v + 1) w pu' pv' → wY_look_46 post J (nI x) y t (y + v) c (d + 1) (nI f) (nI x + (nI i - 7)) w pu pv) := by
  intro d
  induction d with
  | zero =>
    intro i f pu pv hi hf
    obtain rfl : i = 15 := by omega
    exact ⟨f, pu, pv, hf, fun post J q => br_t lk_Xe (nm_e q), fun post J q => br_t (lk_Ye x hx) (nm_e q)⟩
  | succ d ih =>
    intro i f pu pv hi hf
    have h7 := lk_X i (by omega)
    have hy7 := lk_Y x hx i (by omega)
    obtain ⟨n, hn9, wX, wY⟩ := wt_b (nI x + (nI i - 7)) (y + v) c w pu pv hw
    by_cases hf10 : f < 10
    · have h10 : ¬ (10 : Int32) ≤ nI f := nI_ge (b := 10) hf10 (by decide)
      by_cases hr : nI n < t
      · obtain ⟨f', pu', pv', hf', iX, iY⟩ := ih (i + 1) f pu pv (by omega) hf
        exact ⟨f', pu', pv', hf', fun post J q => br_f h7 (br_f h10 (wX _ (br_t hr (nm_r (lk_1 i) (iX post J q))))), fun post J q => br_f hy7 (wY _ (br_t hr (nm_r (lk_2 _ i) (iY post J q))))⟩
      · have hv : vp_in (nI f) 10 := vp_in_nI hf10 (by omega)
        have ec : (nI f).toNatClampNeg = f := nI_clamp (by omega)
        obtain ⟨f', pu', pv', hf', iX, iY⟩ := ih (i + 1) (f + 1) (upd pu f (nI i - 7)) (upd pv f v) (by omega) (by omega)
        have e1 : upd pu (nI f).toNatClampNeg (nI i - 7) = upd pu f (nI i - 7) := by rw [ec]
        have e2 : upd pv (nI f).toNatClampNeg v = upd pv f v := by rw [ec]
        have e3 : upd pu (nI f).toNatClampNeg (nI x + (nI i - 7) - nI x) = upd pu f (nI i - 7) := by rw [ec, lk_s]
        have e4 : upd pv (nI f).toNatClampNeg (y + v - y) = upd pv f v := by rw [ec, lk_s]
        exact ⟨f', pu', pv', hf', fun post J q => br_f h7 (br_f h10 (wX _ (br_f hr ⟨hv, nm_r e1 ⟨hv, nm_r e2 (nm_r (nI_1 f) (nm_r (lk_1 i) (iX post J q)))⟩⟩))), fun post J q => br_f hy7 (wY _ (br_f hr (br_f h10 ⟨hv, nm_r e3 ⟨hv, nm_r e4 (nm_r (nI_1 f) (nm_r (lk_2 _ i) (iY post J q)))⟩⟩)))⟩
    · have h10 : (10 : Int32) ≤ nI f := nI_le (a := 10) (by omega) (by omega)
      obtain ⟨f', pu', pv', hf', iX, iY⟩ := ih (i + 1) f pu pv (by omega) hf
      exact ⟨f', pu', pv', hf', fun post J q => br_f h7 (br_t h10 (nm_r (lk_1 i) (iX post J q))), fun post J q => br_f hy7 (wY _ (br_c (fun _ => nm_r (lk_2 _ i) (iY post J q)) (fun _ => br_t h10 (nm_r (lk_2 _ i) (iY post J q)))))⟩
theorem lk_o {x y c : Nat} {t : Int32} {w : Nat → Int32} (hx : x < 16) (hy : y < 16) (hc1 : 1 ≤ c) (hc : c ≤ 10) (hw : mp_W w) : ∀ (d j f : Nat) (pu pv : Nat → Int32), j + d = 15 → f ≤ 10 → ∃ (r : Int32) (c' : Nat) (pu' pv' : Nat → Int32), 1 ≤ c' ∧ c' ≤ 10 ∧ (∀ post : Int32 → SX → Prop, post r (nI c', w, pu', pv') → wX_look_28 post (nI x) (nI y) t (nI c) (d + 1) (nI f) (nI j - 7) w pu pv) ∧ (∀ post : Int32 → SY → Prop, post r (nI c', w, pu', pv') → wY_look_31 post (nI x) (nI y) t (nI c) (d + 1) (nI f) (nI y + (nI j - 7)) w pu pv) := by
  intro d
  induction d with
  | zero =>
    intro j f pu pv hj hf
    obtain rfl : j = 15 := by omega
    by_cases hz : f = 0
    · subst hz
      exact ⟨-4, c, pu, pv, hc1, hc, fun post q => br_t lk_Xe (br_t rfl q), fun post q => br_t (lk_Ye y hy) (br_t rfl q)⟩
    · have hn : ¬ nI f = 0 := nI_ne0 (by omega) (by omega)
      exact ⟨nI f, f, pu, pv, by omega, hf, fun post q => br_t lk_Xe (br_f hn q), fun post q => br_t (lk_Ye y hy) (br_f hn q)⟩
  | succ d ih =>
    intro j f pu pv hj hf
    obtain ⟨f1, pu1, pv1, hf1, iX, iY⟩ := lk_i (y := nI y) (t := t) (v := nI j - 7) (c := nI c) hx hw 15 0 f pu pv (by omega) hf
    obtain ⟨r, c', pu', pv', h1, h2, hX, hY⟩ := ih (j + 1) f1 pu1 pv1 (by omega) hf1
    rw [← lk_0] at iX
    rw [lk_1] at iX
    rw [lk_2] at iY
    exact ⟨r, c', pu', pv', h1, h2, fun post q => br_f (lk_X j (by omega)) ⟨_, iX post _ (hX post q)⟩, fun post q => br_f (lk_Y y hy j (by omega)) (nm_r (lk_m _) ⟨_, iY post _ (hY post q)⟩)⟩
/-- look, behind its tests -/
theorem lk_b {x y c : Nat} {t : Int32} {w a b : Nat → Int32} (hx : x < 16) (hy : y < 16) (hc1 : 1 ≤ c) (hc : c ≤ 10) (hw : mp_W w) : ∃ (r : Int32) (c' : Nat) (a' b' : Nat → Int32), 1 ≤ c' ∧ c' ≤ 10 ∧ (∀ post : Int32 → SX → Prop, post r (nI c', w, a', b') → ∃ n : Nat, wX_look_28 post (nI x) (nI y) t (nI c) n 0 (-7) w a b) ∧ (∀ post : Int32 → SY → Prop, post r (nI c', w, a', b') → ∀ z : Int32, z = nI y - 7 → ∃ n : Nat, wY_look_31 post (nI x) (nI y) t (nI c) n 0 z w a b) := by
  obtain ⟨r, c', a', b', h1, h2, hX, hY⟩ := lk_o (t := t) hx hy hc1 hc hw 15 0 0 a b (by omega) (by omega)
  rw [← lk_0] at hX
  exact ⟨r, c', a', b', h1, h2, fun post q => ⟨_, hX post q⟩, fun post q => nm_r (lk_m _) ⟨_, hY post q⟩⟩
