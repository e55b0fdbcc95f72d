theorem sb_negT {w : Nat} (h : w < 2 ^ 31) : (-nI w).toInt = -(w : Int) := by
  rw [Int32.toInt_neg, nI_toInt h]
  exact Int.bmod_eq_of_le (by omega) (by omega)
theorem ek_if {c d A B : Prop} (e : c ↔ d) (f : d → A) (g : ¬ d → B) : (c → A) ∧ (¬ c → B) :=
  ⟨fun z => f (e.mp z), fun z => g (fun y => z (e.mpr y))⟩
/-- the columns and rows of p and q are at most d apart -/
def mp_N (p q d : Nat) : Prop := (p % 16 ≤ q % 16 + d ∧ q % 16 ≤ p % 16 + d) ∧ (p / 16 % 16 ≤ q / 16 % 16 + d ∧ q / 16 % 16 ≤ p / 16 % 16 + d)
theorem nr_lo {a b d : Nat} (ha : a < 16) (hb : b < 16) (hd : d < 16) : nI a - nI b < -nI d ↔ a + d < b := by
  rw [Int32.lt_iff_toInt_lt, pk_sub_toInt (by omega) (by omega), sb_negT (by omega)]
  omega
theorem nr_hi {a b d : Nat} (ha : a < 16) (hb : b < 16) (hd : d < 16) : nI d < nI a - nI b ↔ b + d < a := by
  rw [Int32.lt_iff_toInt_lt, pk_sub_toInt (by omega) (by omega), nI_toInt (by omega)]
  omega
theorem nr_X {post : Int32 → Prop} {p q d : Nat} (hp : p < 1024) (hq : q < 1024) (hd : d < 16) (h1 : mp_N p q d → post 1) (h0 : ¬ mp_N p q d → post 0) : wpX_isNear post (nI p) (nI q) (nI d) := by
  have a1 : p % 16 < 16 := by omega
  have a2 : q % 16 < 16 := by omega
  have a3 : p / 16 % 16 < 16 := by omega
  have a4 : q / 16 % 16 < 16 := by omega
  unfold wpX_isNear wpX_columnOf wpX_rowOf
  dsimp only
  simp only [mp_row hp, mp_row hq, mp_col hp, mp_col hq]
  unfold mp_N at h1 h0
  refine nm_e (nm_e ?_)
  refine ek_if (nr_lo a1 a2 hd) (fun g => h0 (by omega)) (fun g => ?_)
  refine ek_if (nr_hi a1 a2 hd) (fun g => h0 (by omega)) (fun g => ?_)
  refine ek_if (nr_lo a3 a4 hd) (fun g => h0 (by omega)) (fun g => ?_)
  refine ek_if (nr_hi a3 a4 hd) (fun g => h0 (by omega)) (fun g => h1 (by omega))
theorem nr_Y {post : Int32 → Prop} {u : SY} {a b d : Nat} (ha : a < 16) (hb : b < 16) (hd : d < 16) (h1 : a ≤ b + d ∧ b ≤ a + d → post 1) (h0 : ¬ (a ≤ b + d ∧ b ≤ a + d) → post 0) : wpY_isNear post u (nI a) (nI b) (nI d) := by
  obtain ⟨f, w, us, vs⟩ := u
  unfold wpY_isNear
  refine ek_if (nr_hi ha hb hd) (fun g => h0 (by omega)) (fun g => ?_)
  exact ek_if (nr_hi hb ha hd) (fun g => h0 (by omega)) (fun g => h1 (by omega))
theorem mt_4 {r : Nat} (h : r ≤ 90) : ¬ nI r ≤ -4 := by
  rw [Int32.le_iff_toInt_le, nI_toInt (by omega), show (-4 : Int32).toInt = -4 from by decide]
  omega
theorem mt_1 {r : Nat} (h : r ≤ 90) : ¬ nI r ≤ -1 := by
  rw [Int32.le_iff_toInt_le, nI_toInt (by omega), show (-1 : Int32).toInt = -1 from by decide]
  omega
theorem mt_1' {r : Nat} (h : r ≤ 90) : -1 ≤ nI r := by
  rw [Int32.le_iff_toInt_le, nI_toInt (by omega), show (-1 : Int32).toInt = -1 from by decide]
  omega
theorem my_31 {post : Int32 → Prop} {J : Int32 → Int32 → Int32 → Prop} {x2 x3 x4 z c : Int32} {w a b : Nat → Int32} (h1 : x4 ≤ x2 → J z x2 (x3 + 1)) (h0 : ¬ x4 ≤ x2 → J z x4 (x3 + 1)) : wY_match_31 post J x2 x3 x4 z c w a b := by
  unfold wY_match_31
  exact br_c (fun g => nm_e (h1 g)) (fun g => nm_e (h0 g))
section
variable {c : Nat} {w a b : Nat → Int32} (hw : mp_W w) (hc : c ≤ 10)
/-- match, once a pose is held -/
theorem mt_s (hw : mp_W w) (hc : c ≤ 10) : ∀ d p m g : Nat, p + d = 1024 → m < 1024 → g ≤ 90 → ∃ r : Nat, r < 1024 ∧ (∀ post : Int32 → Prop, post (nI r) → wX_firstGreatest_11 post 1024 0 15 (nI c) w a b (d + 1) (nI m) (nI g) (nI p)) ∧ (∀ post : Int32 → Prop, post (nI r) → wY_match_6 post (nI c) w a b (d + 1) (nI m) (nI g) (nI p)) := by
  intro d
  induction d with
  | zero =>
    intro p m g hp hm hg
    have h : (1024 : Int32) ≤ nI p := nI_le (a := 1024) (by omega) (by omega)
    exact ⟨m, hm, fun post q => br_t h q, fun post q => br_t h q⟩
  | succ d ih =>
    intro p m g hp hm hg
    have h : ¬ (1024 : Int32) ≤ nI p := nI_ge (b := 1024) (by omega) (by decide)
    have hp1 : p < 1024 := by omega
    have hN : mp_N p 0 15 := by unfold mp_N; omega
    obtain ⟨s, hs, sX, sY⟩ := sc_b (a := a) (b := b) hw hc hp1
    by_cases hle : s ≤ g
    · have hl : nI s ≤ nI g := nI_le hle (by omega)
      obtain ⟨r, hr, hX, hY⟩ := ih (p + 1) m g (by omega) hm hg
      refine ⟨r, hr, fun post q => br_f h (nr_X (q := 0) (d := 15) hp1 (by omega) (by omega) (fun _ => br_f mp_10 (sX _ (br_t hl (nm_r (nI_1 p) (hX post q))))) (fun z => absurd hN z)), fun post q => br_f h (sY _ (br_t hl (my_31 (fun _ => ?_) (fun z => absurd hl z))))⟩
      rw [nI_1]
      exact hY post q
    · have hl : ¬ nI s ≤ nI g := nI_ge (by omega) (by omega)
      obtain ⟨r, hr, hX, hY⟩ := ih (p + 1) p s (by omega) hp1 hs
      refine ⟨r, hr, fun post q => br_f h (nr_X (q := 0) (d := 15) hp1 (by omega) (by omega) (fun _ => br_f mp_10 (sX _ (br_f hl (nm_r (nI_1 p) (hX post q))))) (fun z => absurd hN z)), fun post q => br_f h (sY _ (br_f hl (my_31 (fun z => absurd z hl) (fun _ => ?_))))⟩
      rw [nI_1]
      exact hY post q
/-- match: one answer for both sides, a pose -/
theorem mt_b (hw : mp_W w) (hc : c ≤ 10) : ∃ r : Nat, r < 1024 ∧ (∀ post : Int32 → Prop, post (nI r) → wpX_match post (nI c, w, a, b)) ∧ (∀ post : Int32 → Prop, post (nI r) → wpY_match post (nI c, w, a, b)) := by
  have h : ¬ (1024 : Int32) ≤ nI 0 := nI_ge (b := 1024) (by omega) (by decide)
  have hN : mp_N 0 0 15 := by unfold mp_N; omega
  obtain ⟨s, hs, sX, sY⟩ := sc_b (p := 0) (a := a) (b := b) hw hc (by omega)
  obtain ⟨r, hr, hX, hY⟩ := mt_s (a := a) (b := b) hw hc 1023 1 0 s (by omega) (by omega) hs
  refine ⟨r, hr, fun post q => ?_, fun post q => ?_⟩
  · unfold wpX_match wpX_firstGreatest
    exact ⟨1025, br_f h (nr_X (p := 0) (q := 0) (d := 15) (by omega) (by omega) (by omega) (fun _ => br_f mp_10 (sX _ (br_f (mt_4 hs) (nm_r (nI_1 0) (hX post q))))) (fun z => absurd hN z))⟩
  · unfold wpY_match
    exact ⟨1025, br_f h (sY _ (br_f (mt_1 hs) (my_31 (fun z => absurd z (mt_1 hs)) (fun _ => hY post q))))⟩
end
