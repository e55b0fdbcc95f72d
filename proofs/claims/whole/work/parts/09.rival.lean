/-- p is no rival of m: of its turn and less than 3 away -/
def mp_V (p m : Nat) : Prop := p / 256 = m / 256 ∧ mp_N p m 2
theorem rv_X {post : Int32 → Prop} {x2 c : Int32} {w a b : Nat → Int32} {n p m : Nat} (hp : p < 1024) (hm : m < 1024) (h1 : mp_V p m → wX_rival_10 post (nI m) c w a b n x2 (nI (p + 1))) (h0 : ¬ mp_V p m → wX_rival_37 post (wX_rival_10 post (nI m) c w a b n) (nI m) x2 (nI p) c w a b) : wX_rival_10 post (nI m) c w a b (n + 1) x2 (nI p) := by
  have h : ¬ (1024 : Int32) ≤ nI p := nI_ge (b := 1024) hp (by decide)
  refine br_f h ?_
  unfold wpX_turnOf
  dsimp only
  rw [mp_turn hp, mp_turn hm]
  refine ek_if (nI_eq (by omega) (by omega)) (fun g => ?_) (fun g => h0 (fun z => g z.1))
  exact nr_X (d := 2) hp hm (by omega) (fun z => br_f mp_10 (nm_r (nI_1 p) (h1 ⟨g, z⟩))) (fun z => br_t rfl (h0 (fun y => z y.2)))
theorem rv_Y {post : Int32 → Prop} {x2 c : Int32} {w a b : Nat → Int32} {n p m : Nat} (hp : p < 1024) (hm : m < 1024) (h1 : mp_V p m → wY_rival_73 post (wY_rival_10 post (nI m) c w a b n) (nI m) x2 (nI p) 1 c w a b) (h0 : ¬ mp_V p m → wY_rival_73 post (wY_rival_10 post (nI m) c w a b n) (nI m) x2 (nI p) 0 c w a b) : wY_rival_10 post (nI m) c w a b (n + 1) x2 (nI p) := by
  have h : ¬ (1024 : Int32) ≤ nI p := nI_ge (b := 1024) hp (by decide)
  unfold mp_V mp_N at h1 h0
  refine br_f h ⟨by decide, by decide, ?_⟩
  rw [mp_dturn hp, mp_dturn hm]
  refine ek_if (nI_eq (by omega) (by omega)) (fun g => ⟨by decide, by decide, ?_⟩) (fun g => ?_)
  · rw [mp_dcol hp, mp_dcol hm]
    refine nr_Y (d := 2) (by omega) (by omega) (by omega) (fun g2 => br_f mp_10 ⟨by decide, by decide, by decide, by decide, ?_⟩) (fun g2 => br_t rfl ?_)
    · rw [mp_drow hp, mp_drow hm]
      refine nr_Y (d := 2) (by omega) (by omega) (by omega) (fun g3 => br_f mp_10 (h1 (by omega))) (fun g3 => br_t rfl ?_)
      unfold wY_rival_72
      exact h0 (by omega)
    · unfold wY_rival_72
      exact h0 (by omega)
  · unfold wY_rival_72
    exact h0 (by omega)
theorem rv_l {c m : Nat} {w a b : Nat → Int32} (hw : mp_W w) (hc : c ≤ 10) (hm : m < 1024) : ∀ (d p : Nat) (g : Int32), p + d = 1024 → -4 ≤ g → ∃ s : Int32, (∀ post : Int32 → Prop, post s → wX_rival_10 post (nI m) (nI c) w a b (d + 1) g (nI p)) ∧ (∀ post : Int32 → Prop, post s → wY_rival_10 post (nI m) (nI c) w a b (d + 1) g (nI p)) := by
  intro d
  induction d with
  | zero =>
    intro p g hp hg
    have h : (1024 : Int32) ≤ nI p := nI_le (a := 1024) (by omega) (by omega)
    exact ⟨g, fun post q => br_t h q, fun post q => br_t h q⟩
  | succ d ih =>
    intro p g hp hg
    have hp1 : p < 1024 := by omega
    by_cases hV : mp_V p m
    · obtain ⟨r, hX, hY⟩ := ih (p + 1) g (by omega) hg
      refine ⟨r, fun post q => rv_X hp1 hm (fun _ => hX post q) (fun z => absurd hV z), fun post q => rv_Y hp1 hm (fun _ => ?_) (fun z => absurd hV z)⟩
      unfold wY_rival_73
      refine br_f mp_10 ?_
      unfold wY_rival_90
      exact br_t hg (nm_r (nI_1 p) (hY post q))
    · obtain ⟨s, hs, sX, sY⟩ := sc_b (a := a) (b := b) hw hc hp1
      by_cases hl : nI s ≤ g
      · obtain ⟨r, hX, hY⟩ := ih (p + 1) g (by omega) hg
        refine ⟨r, fun post q => rv_X hp1 hm (fun z => absurd z hV) (fun _ => ?_), fun post q => rv_Y hp1 hm (fun z => absurd z hV) (fun _ => ?_)⟩
        · unfold wX_rival_37
          exact sX _ (br_t hl (nm_r (nI_1 p) (hX post q)))
        · unfold wY_rival_73
          refine br_t rfl (sY _ ?_)
          unfold wY_rival_90
          exact br_t hl (nm_r (nI_1 p) (hY post q))
      · have h4 : -4 ≤ nI s := by
          rw [Int32.le_iff_toInt_le, nI_toInt (by omega), show (-4 : Int32).toInt = -4 from by decide]
          omega
        obtain ⟨r, hX, hY⟩ := ih (p + 1) (nI s) (by omega) h4
        refine ⟨r, fun post q => rv_X hp1 hm (fun z => absurd z hV) (fun _ => ?_), fun post q => rv_Y hp1 hm (fun z => absurd z hV) (fun _ => ?_)⟩
        · unfold wX_rival_37
          exact sX _ (br_f hl (nm_r (nI_1 p) (hX post q)))
        · unfold wY_rival_73
          refine br_t rfl (sY _ ?_)
          unfold wY_rival_90
          exact br_f hl (nm_r (nI_1 p) (hY post q))
