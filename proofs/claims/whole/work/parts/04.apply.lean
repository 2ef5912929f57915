def tr_on (x0 : Int32) : Nat → Int32 → Nat → Int32
  | 0, c, _ => c
  | d + 1, c, j => tr_on x0 d (c + ((x0 >>> (nI j &&& 31)) &&& 1)) (j + 1)
def tr_rx (x0 : Int32) : Nat → Int32 → Nat → Int32
  | 0, c, _ => c
  | d + 1, c, j => tr_rx x0 d ((c <<< ((1 : Int32) &&& 31)) ||| ((x0 >>> (nI j &&& 31)) &&& 1)) (j + 1)
def tr_ry (x0 : Int32) : Nat → Int32 → Nat → Int32
  | 0, c, _ => c
  | d + 1, c, j => tr_ry x0 d (c ||| (((x0 >>> (nI j &&& 31)) &&& 1) <<< ((6 - nI j) &&& 31))) (j + 1)
def tr_sx (x0 : Int32) : Nat → Int32 → Nat → Int32
  | 0, c, _ => c
  | d + 1, c, j => tr_sx x0 d (if x0 < nI j * nI j then c else nI j) (j + 1)
def tr_sy (x0 : Int32) : Nat → Nat → Option Int32
  | 0, _ => none
  | d + 1, j => if x0 < (nI j + 1) * (nI j + 1) then some (nI j) else if 12 ≤ nI j then some (nI j) else tr_sy x0 d (j + 1)
theorem tr_onX (x0 : Int32) (post : Int32 → Prop) : ∀ (d j : Nat) (c : Int32), j + d = 7 → post (tr_on x0 d c j) → wX_onesOf_4 post x0 (d + 1) c (nI j) := by
  intro d
  induction d with
  | zero =>
    intro j c hj h
    exact br_t (nI_le (a := 7) (by omega) (by omega)) h
  | succ d ih =>
    intro j c hj h
    exact br_f (nI_ge (b := 7) (by omega) (by omega)) (nm_e (nm_r (nI_1 j) (ih (j + 1) _ (by omega) h)))
theorem tr_onY (x0 : Int32) (post : Int32 → Prop) : ∀ (d j : Nat) (c : Int32), j + d = 7 → post (tr_on x0 d c j) → wY_ones_4 post x0 (d + 1) c (nI j) := by
  intro d
  induction d with
  | zero =>
    intro j c hj h
    exact br_t (nI_le (a := 7) (by omega) (by omega)) h
  | succ d ih =>
    intro j c hj h
    exact br_f (nI_ge (b := 7) (by omega) (by omega)) (nm_e (nm_r (nI_1 j) (ih (j + 1) _ (by omega) h)))
theorem tr_rvX (x0 : Int32) (post : Int32 → Prop) : ∀ (d j : Nat) (c : Int32), j + d = 7 → post (tr_rx x0 d c j) → wX_reverseOf_4 post x0 (d + 1) c (nI j) := by
  intro d
  induction d with
  | zero =>
    intro j c hj h
    exact br_t (nI_le (a := 7) (by omega) (by omega)) h
  | succ d ih =>
    intro j c hj h
    exact br_f (nI_ge (b := 7) (by omega) (by omega)) (nm_e (nm_r (nI_1 j) (ih (j + 1) _ (by omega) h)))
theorem tr_rvY (x0 : Int32) (post : Int32 → Prop) : ∀ (d j : Nat) (c : Int32), j + d = 7 → post (tr_ry x0 d c j) → wY_reversed_4 post x0 (d + 1) c (nI j) := by
  intro d
  induction d with
  | zero =>
    intro j c hj h
    exact br_t (nI_le (a := 7) (by omega) (by omega)) h
  | succ d ih =>
    intro j c hj h
    exact br_f (nI_ge (b := 7) (by omega) (by omega)) (nm_e (nm_r (nI_1 j) (ih (j + 1) _ (by omega) h)))
theorem tr_rtX (x0 : Int32) (post : Int32 → Prop) : ∀ (d j : Nat) (c : Int32), j + d = 12 → post (tr_sx x0 d c j) → wX_rootOf_4 post x0 (d + 1) c (nI j) := by
  intro d
  induction d with
  | zero =>
    intro j c hj h
    exact br_t (nI_lt (a := 11) (by omega) (by omega)) h
  | succ d ih =>
    intro j c hj h
    refine br_f (nI_nlt (a := 11) (by omega) (by omega)) ?_
    by_cases z : x0 < nI j * nI j
    · have h' : post (tr_sx x0 d c (j + 1)) := by
        have e : tr_sx x0 (d + 1) c j = tr_sx x0 d c (j + 1) := by rw [tr_sx, if_pos z]
        rw [← e]; exact h
      exact br_t z (nm_r (nI_1 j) (ih (j + 1) c (by omega) h'))
    · have h' : post (tr_sx x0 d (nI j) (j + 1)) := by
        have e : tr_sx x0 (d + 1) c j = tr_sx x0 d (nI j) (j + 1) := by rw [tr_sx, if_neg z]
        rw [← e]; exact h
      exact br_f z (nm_r (nI_1 j) (ih (j + 1) (nI j) (by omega) h'))
theorem tr_rtY (x0 : Int32) (post : Int32 → Prop) : ∀ (d j : Nat) (r : Int32), tr_sy x0 d j = some r → post r → wY_root_2 post x0 d (nI j) := by
  intro d
  induction d with
  | zero =>
    intro j r e h
    exact nomatch e
  | succ d ih =>
    intro j r e h
    by_cases z : x0 < (nI j + 1) * (nI j + 1)
    · rw [tr_sy, if_pos z] at e
      cases e
      exact br_t z h
    · rw [tr_sy, if_neg z] at e
      refine br_f z ?_
      by_cases w : (12 : Int32) ≤ nI j
      · rw [if_pos w] at e
        cases e
        exact br_t w h
      · rw [if_neg w] at e
        exact br_f w (nm_r (nI_1 j) (ih (j + 1) r e h))
theorem tr_onT : ∀ x, x < 128 → tr_on (nI x) 7 0 0 = nI (tr_on (nI x) 7 0 0).toNatClampNeg ∧ (tr_on (nI x) 7 0 0).toNatClampNeg ≤ 127 := by decide +kernel
theorem tr_rvT : ∀ x, x < 128 → tr_rx (nI x) 7 0 0 = nI (tr_rx (nI x) 7 0 0).toNatClampNeg ∧ (tr_rx (nI x) 7 0 0).toNatClampNeg ≤ 127 ∧ tr_ry (nI x) 7 0 0 = tr_rx (nI x) 7 0 0 := by decide +kernel
theorem tr_rtT : ∀ x, x < 128 → tr_sx (nI x) 11 0 1 = nI (tr_sx (nI x) 11 0 1).toNatClampNeg ∧ (tr_sx (nI x) 11 0 1).toNatClampNeg ≤ 127 ∧ tr_sy (nI x) 13 0 = some (tr_sx (nI x) 11 0 1) := by decide +kernel
theorem tr_w4 {x : Nat} (hx : x ≤ 127) : (2 * nI x) - (2 * nI x) / 128 * 128 = nI ((2 * x) % 128) := by
  have e : 2 * nI x = nI (2 * x) := pk_mul 2 x
  rw [e]
  exact pk_rem (d := 128) (by omega) (by omega) (by omega)
theorem tr_num {k x : Nat} (hk : k ≤ 4) (hx : x ≤ 127) : ∃ r : Nat, r ≤ 127 ∧ (∀ post : Int32 → Prop, post (nI r) → wpX_resultOfNumber post (nI k) (nI x)) ∧ (∀ post : Int32 → Prop, post (nI r) → wpY_single post (nI k) (nI x)) := by
  have d0 : ¬ (128 : Int32) = 0 := by decide
  match k, hk with
  | 0, _ =>
    have e : (127 : Int32) - nI x = nI (127 - x) := pk_sub (a := 127) hx
    refine ⟨127 - x, by omega, fun post h => ?_, fun post h => ?_⟩
    · rw [← e] at h
      exact br_f (by decide) (br_f (by decide) (br_t (by decide) h))
    · rw [← e] at h
      exact br_t (by decide) h
  | 1, _ =>
    obtain ⟨e, hr⟩ := tr_onT x (by omega)
    refine ⟨_, hr, fun post h => ?_, fun post h => ?_⟩
    · rw [← e] at h
      exact br_f (by decide) (br_f (by decide) (br_f (by decide) (br_t (by decide) ⟨8, tr_onX (nI x) post 7 0 0 rfl h⟩)))
    · rw [← e] at h
      exact br_f (by decide) (br_t (by decide) ⟨8, tr_onY (nI x) post 7 0 0 rfl h⟩)
  | 2, _ =>
    obtain ⟨e, hr, e2⟩ := tr_rvT x (by omega)
    refine ⟨_, hr, fun post h => ?_, fun post h => ?_⟩
    · rw [← e] at h
      exact br_f (by decide) (br_f (by decide) (br_f (by decide) (br_f (by decide) (br_t (by decide) ⟨8, tr_rvX (nI x) post 7 0 0 rfl h⟩))))
    · rw [← e, ← e2] at h
      exact br_f (by decide) (br_f (by decide) (br_t (by decide) ⟨8, tr_rvY (nI x) post 7 0 0 rfl h⟩))
  | 3, _ =>
    obtain ⟨e, hr, e2⟩ := tr_rtT x (by omega)
    refine ⟨_, hr, fun post h => ?_, fun post h => ?_⟩
    · rw [← e] at h
      exact br_f (by decide) (br_f (by decide) (br_f (by decide) (br_f (by decide) (br_f (by decide) (br_t (by decide) ⟨12, tr_rtX (nI x) post 11 1 0 rfl h⟩)))))
    · rw [← e] at h
      exact br_f (by decide) (br_f (by decide) (br_f (by decide) (br_t (by decide) ⟨13, tr_rtY (nI x) post 13 0 _ e2 h⟩)))
  | 4, _ =>
    refine ⟨(2 * x) % 128, by omega, fun post h => ?_, fun post h => ?_⟩
    · rw [← tr_w4 hx] at h
      exact br_f (by decide) (br_f (by decide) (br_f (by decide) (br_f (by decide) (br_f (by decide) (br_f (by decide) (br_t (by decide) ⟨d0, h⟩))))))
    · rw [← tr_w4 hx] at h
      exact br_f (by decide) (br_f (by decide) (br_f (by decide) (br_f (by decide) ⟨d0, h⟩)))
theorem tr_aloop {k q jd : Nat} (hk : k ≤ 4) (hq : q ≤ 127) (hd : jd < 6) {lo hi : Nat → Int32} (hO : tr_OK lo hi) (y3 : Int32) (h3 : vp_in y3 6) (hq3 : hi y3.toNatClampNeg = nI q) : ∀ d j : Nat, j + d = q + 1 → ∀ l g : Int32, tr_G l g → ∃ (r l' g' : Int32) (lo' hi' : Nat → Int32), tr_OK lo' hi' ∧ (∀ post : Int32 → SX → Prop, post r (l', g', lo', hi') → wX_apply_47 post (nI jd) (nI k) (nI q) (d + 1) (nI j) l g lo hi) ∧ (∀ post : Int32 → SY → Prop, post r (l', g', lo', hi') → wY_apply_45 post (nI jd) (nI k) y3 (d + 1) (nI j) l g lo hi) := by
  intro d
  induction d with
  | zero =>
    intro j hj l g hG
    have c : nI q < nI j := nI_lt (by omega) (by omega)
    have c' : hi y3.toNatClampNeg < nI j := by rw [hq3]; exact c
    obtain ⟨r, lo', hi', hO', kX, kY⟩ := tr_keep hG hO hd
    exact ⟨r, l, g, lo', hi', hO', fun post h => br_t c (kX _ h), fun post h => ⟨h3, br_t c' (kY _ h)⟩⟩
  | succ d ih =>
    intro j hj l g hG
    have c : ¬ nI q < nI j := nI_nlt (by omega) (by omega)
    have c' : ¬ hi y3.toNatClampNeg < nI j := by rw [hq3]; exact c
    obtain ⟨v, hv, nX, nY⟩ := tr_num hk (show j ≤ 127 by omega)
    obtain ⟨r, l2, g2, lo', hi', hO', oX, oY⟩ := ih (j + 1) (by omega) _ _ (tr_G_go hG hv)
    refine ⟨r, l2, g2, lo', hi', hO', fun post h => br_f c (nX _ ?_), fun post h => ⟨h3, br_f c' (nY _ ?_)⟩⟩
    · exact tr_gX _ l g lo hi (nI v) (nm_r (nI_1 j) (oX post h))
    · exact tr_gY _ l g lo hi (nI v) (nm_r (nI_1 j) (oY post h))
theorem tr_apply {l g : Int32} {lo hi : Nat → Int32} (hO : tr_OK lo hi) (v1 v2 v3 : Int32) : ∃ (r l' g' : Int32) (lo' hi' : Nat → Int32), tr_OK lo' hi' ∧ (∀ post : Int32 → SX → Prop, post r (l', g', lo', hi') → wpX_apply post (l, g, lo, hi) v1 v2 v3) ∧ (∀ post : Int32 → SY → Prop, post r (l', g', lo', hi') → wpY_apply post (l, g, lo, hi) v1 v2 v3) := by
  have n1 : ¬ (1 : Int32) = 0 := by decide
  unfold wpX_apply wpY_apply
  dsimp only
  rcases tr_reg v1 with ⟨X1, Y1⟩ | ⟨j1, h1, rfl, X1, Y1⟩
  · exact ⟨-1, l, g, lo, hi, hO, fun post h => X1 _ (br_t rfl h), fun post h => Y1 _ (br_f n1 h)⟩
  rcases tr_reg v3 with ⟨X3, Y3⟩ | ⟨j3, h3, rfl, X3, Y3⟩
  · exact ⟨-1, l, g, lo, hi, hO, fun post h => X1 _ (br_f n1 (X3 _ (br_t rfl h))), fun post h => Y1 _ (br_t rfl (Y3 _ (br_f n1 h)))⟩
  by_cases k0 : v2 < 0
  · exact ⟨-1, l, g, lo, hi, hO, fun post h => X1 _ (br_f n1 (X3 _ (br_f n1 (br_t k0 h)))), fun post h => Y1 _ (br_t rfl (Y3 _ (br_t rfl (br_t k0 h))))⟩
  by_cases k1 : v2 ≤ 4
  · obtain ⟨k, hk, rfl⟩ := nI_of k0
    have hk4 : k ≤ 4 := (nI_leI (b := 4) hk (by omega)).mp k1
    have i3 : vp_in (nI j3) 6 := vp_in_nI h3 (by omega)
    obtain ⟨p, q, ep, eq, hpq, hq⟩ := tr_at hO h3
    obtain ⟨r, l', g', lo', hi', hO', oX, oY⟩ := tr_aloop hk4 hq h1 hO (nI j3) i3 eq (q + 1 - p) p (by omega) 128 (-1) (Or.inl ⟨rfl, rfl⟩)
    refine ⟨r, l', g', lo', hi', hO', fun post h => X1 _ (br_f n1 (X3 _ (br_f n1 (br_f k0 (br_t k1 ?_))))), fun post h => Y1 _ (br_t rfl (Y3 _ (br_t rfl (br_f k0 (br_t k1 ?_)))))⟩
    · exact ⟨i3, nm_r eq ⟨i3, nm_r ep ⟨_, oX post h⟩⟩⟩
    · exact ⟨i3, nm_r ep ⟨_, oY post h⟩⟩
  · exact ⟨-1, l, g, lo, hi, hO, fun post h => X1 _ (br_f n1 (X3 _ (br_f n1 (br_f k0 (br_f k1 h))))), fun post h => Y1 _ (br_t rfl (Y3 _ (br_t rfl (br_f k0 (br_f k1 h)))))⟩
