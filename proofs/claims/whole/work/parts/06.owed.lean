def tr_h (j : Nat) : Nat → Int32 := fun i => if i < j then 127 else 0
theorem tr_h0 : tr_h 0 = fun _ => 0 := by
  funext i
  exact if_neg (Nat.not_lt_zero i)
theorem tr_hs (j : Nat) : upd (tr_h j) j 127 = tr_h (j + 1) := by
  funext i
  unfold upd tr_h
  by_cases e : i = j
  · rw [if_pos e, if_pos (by omega)]
  · rw [if_neg e]
    by_cases f : i < j
    · rw [if_pos f, if_pos (by omega)]
    · rw [if_neg f, if_neg (by omega)]
theorem tr_l0 (j : Nat) : upd (fun _ => 0) j 0 = fun _ => 0 := by
  funext i
  exact ite_self _
theorem tr_iX (post : SX → Prop) (h : post (0, 0, (fun _ => 0), tr_h 6)) : ∀ d j : Nat, j + d = 6 → wX_init_22 post 0 0 (d + 1) (nI j) (fun _ => 0) (tr_h j) := by
  intro d
  induction d with
  | zero =>
    intro j hj
    have e : j = 6 := by omega
    subst e
    exact br_t (by decide) h
  | succ d ih =>
    intro j hj
    have hi : vp_in (nI j) 6 := vp_in_nI (by omega) (by omega)
    have cl : (nI j).toNatClampNeg = j := nI_clamp (by omega)
    exact br_f (nI_ge (b := 6) (by omega) (by omega)) ⟨hi, nm_r (tr_l0 _) ⟨hi, nm_r (by rw [cl]; exact tr_hs j) (nm_r (nI_1 j) (ih (j + 1) (by omega)))⟩⟩
theorem tr_iY (post : SY → Prop) (h : post (0, 0, (fun _ => 0), tr_h 6)) : ∀ d j : Nat, j + d = 6 → wY_init_22 post 0 0 (d + 1) (nI j) (fun _ => 0) (tr_h j) := by
  intro d
  induction d with
  | zero =>
    intro j hj
    have e : j = 6 := by omega
    subst e
    exact br_t (by decide) h
  | succ d ih =>
    intro j hj
    have hi : vp_in (nI j) 6 := vp_in_nI (by omega) (by omega)
    have cl : (nI j).toNatClampNeg = j := nI_clamp (by omega)
    exact br_f (nI_ge (b := 6) (by omega) (by omega)) ⟨hi, nm_r (by rw [cl]; exact tr_hs j) (nm_r (nI_1 j) (ih (j + 1) (by omega)))⟩
theorem i_vc0 : wpX_init (fun u => wpY_init (fun v => i_Rel 0 u v)) := by
  have hO : tr_OK (fun _ => 0) (tr_h 6) := fun j hj => ⟨0, 127, rfl, if_pos hj, by omega, by omega⟩
  have hX := fun post h => tr_iX post h 6 0 rfl
  have hY := fun post h => tr_iY post h 6 0 rfl
  rw [tr_h0] at hX hY
  exact ⟨7, hX _ ⟨7, hY _ ⟨rfl, hO⟩⟩⟩
theorem tr_set {l g : Int32} {lo hi : Nat → Int32} (hO : tr_OK lo hi) (v1 v2 v3 : Int32) : ∃ (r l' g' : Int32) (lo' hi' : Nat → Int32), tr_OK lo' hi' ∧ (∀ post : Int32 → SX → Prop, post r (l', g', lo', hi') → wpX_set post (l, g, lo, hi) v1 v2 v3) ∧ (∀ post : Int32 → SY → Prop, post r (l', g', lo', hi') → wpY_set post (l, g, lo, hi) v1 v2 v3) := by
  have n1 : ¬ (1 : Int32) = 0 := by decide
  unfold wpX_set wpY_set
  dsimp only
  rcases tr_reg v1 with ⟨X1, Y1⟩ | ⟨j1, h1, rfl, X1, Y1⟩
  · exact ⟨-1, l, g, lo, hi, hO, fun post h => X1 _ (br_t rfl h), fun post h => Y1 _ (br_f n1 h)⟩
  by_cases a0 : v2 < 0
  · exact ⟨-1, l, g, lo, hi, hO, fun post h => X1 _ (br_f n1 (br_t a0 h)), fun post h => Y1 _ (br_t rfl (br_t a0 h))⟩
  by_cases a1 : v3 < v2
  · exact ⟨-1, l, g, lo, hi, hO, fun post h => X1 _ (br_f n1 (br_f a0 (br_t a1 h))), fun post h => Y1 _ (br_t rfl (br_f a0 (br_t a1 h)))⟩
  by_cases a2 : v3 ≤ 127
  · have i1 : vp_in (nI j1) 6 := vp_in_nI h1 (by omega)
    have b0 : ¬ v3 < 0 := fun z => a0 (Int32.lt_of_le_of_lt (Int32.not_lt.mp a1) z)
    obtain ⟨p, hp, rfl⟩ := nI_of a0
    obtain ⟨q, hq, rfl⟩ := nI_of b0
    have hq' : q ≤ 127 := (nI_leI (b := 127) hq (by omega)).mp a2
    have hpq : p ≤ q := by
      have z : ¬ q < p := fun w => a1 ((nI_ltI hq hp).mpr w)
      omega
    exact ⟨0, l, g, _, _, tr_upd hO (nI j1).toNatClampNeg hpq hq', fun post h => X1 _ (br_f n1 (br_f a0 (br_f a1 (br_t a2 ⟨i1, nm_e ⟨i1, nm_e h⟩⟩)))), fun post h => Y1 _ (br_t rfl (br_f a0 (br_f a1 (br_t a2 ⟨i1, nm_e ⟨i1, nm_e h⟩⟩))))⟩
  · exact ⟨-1, l, g, lo, hi, hO, fun post h => X1 _ (br_f n1 (br_f a0 (br_f a1 (br_f a2 h)))), fun post h => Y1 _ (br_t rfl (br_f a0 (br_f a1 (br_f a2 h))))⟩
theorem tr_low {l g : Int32} {lo hi : Nat → Int32} (v1 : Int32) : ∃ r : Int32, (∀ post : Int32 → Prop, post r → wpX_low post (l, g, lo, hi) v1) ∧ (∀ post : Int32 → Prop, post r → wpY_low post (l, g, lo, hi) v1) := by
  have n1 : ¬ (1 : Int32) = 0 := by decide
  unfold wpX_low wpY_low
  dsimp only
  rcases tr_reg v1 with ⟨X1, Y1⟩ | ⟨j1, h1, rfl, X1, Y1⟩
  · exact ⟨-1, fun post h => X1 _ (br_t rfl h), fun post h => Y1 _ (br_f n1 h)⟩
  · have i1 : vp_in (nI j1) 6 := vp_in_nI h1 (by omega)
    exact ⟨_, fun post h => X1 _ (br_f n1 ⟨i1, h⟩), fun post h => Y1 _ (br_t rfl ⟨i1, h⟩)⟩
theorem tr_high {l g : Int32} {lo hi : Nat → Int32} (v1 : Int32) : ∃ r : Int32, (∀ post : Int32 → Prop, post r → wpX_high post (l, g, lo, hi) v1) ∧ (∀ post : Int32 → Prop, post r → wpY_high post (l, g, lo, hi) v1) := by
  have n1 : ¬ (1 : Int32) = 0 := by decide
  unfold wpX_high wpY_high
  dsimp only
  rcases tr_reg v1 with ⟨X1, Y1⟩ | ⟨j1, h1, rfl, X1, Y1⟩
  · exact ⟨-1, fun post h => X1 _ (br_t rfl h), fun post h => Y1 _ (br_f n1 h)⟩
  · have i1 : vp_in (nI j1) 6 := vp_in_nI h1 (by omega)
    exact ⟨_, fun post h => X1 _ (br_f n1 ⟨i1, h⟩), fun post h => Y1 _ (br_t rfl ⟨i1, h⟩)⟩
