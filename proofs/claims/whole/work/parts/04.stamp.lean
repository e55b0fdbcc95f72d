theorem st_l {c p s : Nat} {a b : Nat → Int32} (hc : c ≤ 10) (hp : p < 1024) (hs : s ≤ 9) : ∀ (d i : Nat) (k : Int32) (w : Nat → Int32), i + d = c → mp_W w → ∃ (r : Int32) (w' : Nat → Int32), mp_W w' ∧ (∀ post : Int32 → SX → Prop, post r (nI c, w', a, b) → wX_stamp_25 post (nI p) (nI s) (nI c) (d + 1) k (nI i) w a b) ∧ (∀ post : Int32 → SY → Prop, post r (nI c, w', a, b) → wY_stamp_26 post (nI p) (nI s) (nI c) (d + 1) k (nI i) w a b) := by
  intro d
  induction d with
  | zero =>
    intro i k w hi hw
    have h : nI c ≤ nI i := nI_le (by omega) (by omega)
    exact ⟨k, w, hw, fun post q => br_t h q, fun post q => br_t h q⟩
  | succ d ih =>
    intro i k w hi hw
    have hn : ¬ nI c ≤ nI i := nI_ge (by omega) (by omega)
    by_cases h : mp_C (mp_x a b i p) (mp_y a b i p)
    · obtain ⟨n, hn9, en⟩ := hw ((16 * mp_y a b i p) + mp_x a b i p).toNatClampNeg
      obtain ⟨t, ht, hlo, hhi⟩ : ∃ t : Nat, t ≤ 9 ∧ (n + s ≤ 9 → n + s = t) ∧ (9 ≤ n + s → 9 = t) := by
        by_cases z : n + s ≤ 9
        · exact ⟨n + s, z, fun _ => rfl, fun y => by omega⟩
        · exact ⟨9, by omega, fun y => by omega, fun _ => rfl⟩
      obtain ⟨r, w', hw', hX, hY⟩ := ih (i + 1) (k + 1) (upd w ((16 * mp_y a b i p) + mp_x a b i p).toNatClampNeg (nI t)) (by omega) (mp_Wu hw _ ⟨t, ht, rfl⟩)
      have e : w ((16 * mp_y a b i p) + mp_x a b i p).toNatClampNeg + nI s = nI (n + s) := by rw [en, nI_add]
      have e9 : 9 ≤ n + s → upd w ((16 * mp_y a b i p) + mp_x a b i p).toNatClampNeg 9 = upd w ((16 * mp_y a b i p) + mp_x a b i p).toNatClampNeg (nI t) := fun z => by rw [← hhi z]; rfl
      have es : n + s ≤ 9 → upd w ((16 * mp_y a b i p) + mp_x a b i p).toNatClampNeg (nI (n + s)) = upd w ((16 * mp_y a b i p) + mp_x a b i p).toNatClampNeg (nI t) := fun z => by rw [hlo z]
      refine ⟨r, w', hw', fun post q => br_f hn (cu_X (by omega) hp (fun _ => br_f (mp_Cne h) ⟨mp_Cin h, nm_r e ?_⟩) (fun h' => absurd h h')), fun post q => br_f hn (xo_Y (by omega) hp (yo_Y (by omega) hp (ic_Yt h (br_f mp_10 ⟨mp_Cin h, nm_r e ?_⟩))))⟩
      · exact pk_le 9 (n + s) (fun g => ⟨mp_Cin h, nm_r (e9 g) (nm_e (nm_r (nI_1 i) (hX post q)))⟩) (fun g => ⟨mp_Cin h, nm_r (es (by omega)) (nm_e (nm_r (nI_1 i) (hX post q)))⟩)
      · exact pk_le (n + s) 9 (fun g => ⟨mp_Cin h, nm_r (es g) (nm_e (nm_r (nI_1 i) (hY post q)))⟩) (fun g => ⟨mp_Cin h, nm_r (e9 (by omega)) (nm_e (nm_r (nI_1 i) (hY post q)))⟩)
    · obtain ⟨r, w', hw', hX, hY⟩ := ih (i + 1) k w (by omega) hw
      exact ⟨r, w', hw', fun post q => br_f hn (cu_X (by omega) hp (fun h' => absurd h' h) (fun _ => br_t rfl (nm_r (nI_1 i) (hX post q)))), fun post q => br_f hn (xo_Y (by omega) hp (yo_Y (by omega) hp (ic_Yf h (br_t rfl (nm_r (nI_1 i) (hY post q))))))⟩
theorem fd_u {w : Nat → Int32} {i : Nat} (h : w i = 0) : upd w i 0 = w := by
  funext j
  by_cases e : j = i
  · subst e
    rw [pk_us, h]
  · rw [pk_un e]
theorem fd_l {c : Int32} {a b : Nat → Int32} : ∀ (d i : Nat) (k : Int32) (w : Nat → Int32), i + d = 256 → mp_W w → ∃ (r : Int32) (w' : Nat → Int32), mp_W w' ∧ (∀ post : Int32 → SX → Prop, post r (c, w', a, b) → wX_fade_4 post c (d + 1) k (nI i) w a b) ∧ (∀ post : Int32 → SY → Prop, post r (c, w', a, b) → wY_fade_4 post c (d + 1) k (nI i) w a b) := by
  intro d
  induction d with
  | zero =>
    intro i k w hi hw
    have h : (256 : Int32) ≤ nI i := nI_le (a := 256) (by omega) (by omega)
    exact ⟨k, w, hw, fun post q => br_t h q, fun post q => br_t h q⟩
  | succ d ih =>
    intro i k w hi hw
    have hn : ¬ (256 : Int32) ≤ nI i := nI_ge (b := 256) (by omega) (by decide)
    have hv : vp_in (nI i) 256 := vp_in_nI (by omega) (by omega)
    have ec : (nI i).toNatClampNeg = i := nI_clamp (by omega)
    obtain ⟨n, hn9, en⟩ := hw i
    have ew : w (nI i).toNatClampNeg = nI n := by rw [ec, en]
    cases n with
    | zero =>
      have hz : w (nI i).toNatClampNeg ≤ 0 := by rw [ew]; decide +kernel
      have eu : upd w (nI i).toNatClampNeg 0 = w := by rw [ec]; exact fd_u en
      obtain ⟨r, w', hw', hX, hY⟩ := ih (i + 1) k w (by omega) hw
      refine ⟨r, w', hw', fun post q => br_f hn ⟨hv, br_t hz ?_⟩, fun post q => br_f hn ⟨hv, br_t hz ?_⟩⟩
      · unfold wX_fade_30
        exact ⟨hv, br_t hz (nm_r (nI_1 i) (hX post q))⟩
      · unfold wY_fade_37
        exact ⟨hv, nm_r eu ⟨hv, br_t hz (nm_r (nI_1 i) (hY post q))⟩⟩
    | succ m =>
      have hz : ¬ w (nI i).toNatClampNeg ≤ 0 := by rw [ew]; exact nI_nle (by omega) (by omega)
      have eu : upd w (nI i).toNatClampNeg (w (nI i).toNatClampNeg - 1) = upd w i (nI m) := by rw [ew, ec, nI_pred]
      have es : (w (nI i).toNatClampNeg - 1) = nI m := by rw [ew, nI_pred]
      have eu' : upd w (nI i).toNatClampNeg (nI m) = upd w i (nI m) := by rw [ec]
      have ea : upd w i (nI m) (nI i).toNatClampNeg = nI m := by rw [ec, pk_us]
      have hw1 : mp_W (upd w i (nI m)) := mp_Wu hw i ⟨m, by omega, rfl⟩
      cases m with
      | zero =>
        have h2 : upd w i (nI 0) (nI i).toNatClampNeg ≤ 0 := by rw [ea]; decide +kernel
        obtain ⟨r, w', hw', hX, hY⟩ := ih (i + 1) k (upd w i (nI 0)) (by omega) hw1
        refine ⟨r, w', hw', fun post q => br_f hn ⟨hv, br_f hz ⟨hv, hv, nm_r eu ?_⟩⟩, fun post q => br_f hn ⟨hv, br_f hz ⟨hv, ?_⟩⟩⟩
        · unfold wX_fade_30
          exact ⟨hv, br_t h2 (nm_r (nI_1 i) (hX post q))⟩
        · unfold wY_fade_37
          exact ⟨hv, nm_r eu ⟨hv, br_t h2 (nm_r (nI_1 i) (hY post q))⟩⟩
      | succ l =>
        have h2 : ¬ upd w i (nI (l + 1)) (nI i).toNatClampNeg ≤ 0 := by rw [ea]; exact nI_nle (by omega) (by omega)
        obtain ⟨r, w', hw', hX, hY⟩ := ih (i + 1) (k + 1) (upd w i (nI (l + 1))) (by omega) hw1
        refine ⟨r, w', hw', fun post q => br_f hn ⟨hv, br_f hz ⟨hv, hv, nm_r eu ?_⟩⟩, fun post q => br_f hn ⟨hv, br_f hz ⟨hv, ?_⟩⟩⟩
        · unfold wX_fade_30
          exact ⟨hv, br_f h2 (nm_e (nm_r (nI_1 i) (hX post q)))⟩
        · unfold wY_fade_37
          exact ⟨hv, nm_r eu ⟨hv, br_f h2 (nm_e (nm_r (nI_1 i) (hY post q)))⟩⟩
