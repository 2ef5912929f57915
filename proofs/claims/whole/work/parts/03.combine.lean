theorem tr_in {k x t : Nat} (hk : k ≤ 10) (hx : x ≤ 127) (ht : t ≤ 127) (lo hi : Nat → Int32) (x1 x4 x5 y1 y3 y4 : Int32) (hy : vp_in y4 6) (hyt : hi y4.toNatClampNeg = nI t) : ∀ d j : Nat, j + d = t + 1 → ∀ l g : Int32, tr_G l g → ∃ l' g' : Int32, tr_G l' g' ∧ (∀ (post : Int32 → SX → Prop) (J : Int32 → Int32 → Int32 → (Nat → Int32) → (Nat → Int32) → Prop), J (nI (x + 1)) l' g' lo hi → wX_combine_81 post J x1 (nI k) x4 x5 (nI t) (nI x) (d + 1) (nI j) l g lo hi) ∧ (∀ (post : Int32 → SY → Prop) (J : Int32 → Int32 → Int32 → (Nat → Int32) → (Nat → Int32) → Prop), J (nI (x + 1)) l' g' lo hi → wY_combine_74 post J y1 (nI k) y3 y4 (nI x) (d + 1) (nI j) l g lo hi) := by
  intro d
  induction d with
  | zero =>
    intro j hj l g hG
    have c : nI t < nI j := nI_lt (by omega) (by omega)
    have c' : hi y4.toNatClampNeg < nI j := by rw [hyt]; exact c
    exact ⟨l, g, hG, fun post J h => br_t c (nm_r (nI_1 x) h), fun post J h => ⟨hy, br_t c' (nm_r (nI_1 x) h)⟩⟩
  | succ d ih =>
    intro j hj l g hG
    have c : ¬ nI t < nI j := nI_nlt (by omega) (by omega)
    have c' : ¬ hi y4.toNatClampNeg < nI j := by rw [hyt]; exact c
    obtain ⟨l1, g1, hG1, pX, pY⟩ := tr_pair hk hx (show j ≤ 127 by omega) hG lo hi
    obtain ⟨l2, g2, hG2, hX, hY⟩ := ih (j + 1) (by omega) l1 g1 hG1
    refine ⟨l2, g2, hG2, fun post J h => br_f c (pX _ ?_), fun post J h => ⟨hy, br_f c' (pY _ ?_)⟩⟩
    · exact nm_r (nI_1 j) (hX post J h)
    · exact nm_r (nI_1 j) (hY post J h)
theorem tr_out {k s q t jd : Nat} (hk : k ≤ 10) (hq : q ≤ 127) (hst : s ≤ t) (ht : t ≤ 127) (hd : jd < 6) {lo hi : Nat → Int32} (hO : tr_OK lo hi) (y3 y4 : Int32) (h3 : vp_in y3 6) (h4 : vp_in y4 6) (hq3 : hi y3.toNatClampNeg = nI q) (hs4 : lo y4.toNatClampNeg = nI s) (ht4 : hi y4.toNatClampNeg = nI t) : ∀ d j : Nat, j + d = q + 1 → ∀ l g : Int32, tr_G l g → ∃ (r l' g' : Int32) (lo' hi' : Nat → Int32), tr_OK lo' hi' ∧ (∀ post : Int32 → SX → Prop, post r (l', g', lo', hi') → wX_combine_65 post (nI jd) (nI k) y4 (nI q) (nI t) (d + 1) (nI j) l g lo hi) ∧ (∀ post : Int32 → SY → Prop, post r (l', g', lo', hi') → wY_combine_54 post (nI jd) (nI k) y3 y4 (d + 1) (nI j) l g lo hi) := by
  intro d
  induction d with
  | zero =>
    intro j hj l g hG
    have c : nI q < nI j := nI_lt (by omega) (by omega)
    have c' : hi y3.toNatClampNeg < nI j := by rw [hq3]; exact c
    obtain ⟨r, lo', hi', hO', kX, kY⟩ := tr_keep hG hO hd
    exact ⟨r, l, g, lo', hi', hO', fun post h => br_t c (kX _ h), fun post h => ⟨h3, br_t c' (kY _ h)⟩⟩
  | succ d ih =>
    intro j hj l g hG
    have c : ¬ nI q < nI j := nI_nlt (by omega) (by omega)
    have c' : ¬ hi y3.toNatClampNeg < nI j := by rw [hq3]; exact c
    obtain ⟨l1, g1, hG1, iX, iY⟩ := tr_in hk (show j ≤ 127 by omega) ht lo hi (nI jd) y4 (nI q) (nI jd) y3 y4 h4 ht4 (t + 1 - s) s (by omega) l g hG
    obtain ⟨r, l2, g2, lo', hi', hO', oX, oY⟩ := ih (j + 1) (by omega) l1 g1 hG1
    refine ⟨r, l2, g2, lo', hi', hO', fun post h => br_f c ⟨h4, nm_r hs4 ⟨t + 1 - s + 1, ?_⟩⟩, fun post h => ⟨h3, br_f c' ⟨h4, nm_r hs4 ⟨t + 1 - s + 1, ?_⟩⟩⟩⟩
    · exact iX post _ (oX post h)
    · exact iY post _ (oY post h)
theorem tr_combine {l g : Int32} {lo hi : Nat → Int32} (hO : tr_OK lo hi) (v1 v2 v3 v4 : Int32) : ∃ (r l' g' : Int32) (lo' hi' : Nat → Int32), tr_OK lo' hi' ∧ (∀ post : Int32 → SX → Prop, post r (l', g', lo', hi') → wpX_combine post (l, g, lo, hi) v1 v2 v3 v4) ∧ (∀ post : Int32 → SY → Prop, post r (l', g', lo', hi') → wpY_combine post (l, g, lo, hi) v1 v2 v3 v4) := by
  have n1 : ¬ (1 : Int32) = 0 := by decide
  unfold wpX_combine wpY_combine
  dsimp only
  rcases tr_reg v1 with ⟨X1, Y1⟩ | ⟨j1, h1, rfl, X1, Y1⟩
  · exact ⟨-1, l, g, lo, hi, hO, fun post h => X1 _ (br_t rfl h), fun post h => Y1 _ (br_f n1 h)⟩
  rcases tr_reg v3 with ⟨X3, Y3⟩ | ⟨j3, h3, rfl, X3, Y3⟩
  · exact ⟨-1, l, g, lo, hi, hO, fun post h => X1 _ (br_f n1 (X3 _ (br_t rfl h))), fun post h => Y1 _ (br_t rfl (Y3 _ (br_f n1 h)))⟩
  rcases tr_reg v4 with ⟨X4, Y4⟩ | ⟨j4, h4, rfl, X4, Y4⟩
  · exact ⟨-1, l, g, lo, hi, hO, fun post h => X1 _ (br_f n1 (X3 _ (br_f n1 (X4 _ (br_t rfl h))))), fun post h => Y1 _ (br_t rfl (Y3 _ (br_t rfl (Y4 _ (br_f n1 h)))))⟩
  by_cases k0 : v2 < 0
  · exact ⟨-1, l, g, lo, hi, hO, fun post h => X1 _ (br_f n1 (X3 _ (br_f n1 (X4 _ (br_f n1 (br_t k0 h)))))), fun post h => Y1 _ (br_t rfl (Y3 _ (br_t rfl (Y4 _ (br_t rfl (br_t k0 h))))))⟩
  by_cases k1 : v2 ≤ 10
  · obtain ⟨k, hk, rfl⟩ := nI_of k0
    have hk10 : k ≤ 10 := (nI_leI (b := 10) hk (by omega)).mp k1
    have i3 : vp_in (nI j3) 6 := vp_in_nI h3 (by omega)
    have i4 : vp_in (nI j4) 6 := vp_in_nI h4 (by omega)
    obtain ⟨p, q, ep, eq, hpq, hq⟩ := tr_at hO h3
    obtain ⟨s, t, es, et, hst, ht⟩ := tr_at hO h4
    obtain ⟨r, l', g', lo', hi', hO', oX, oY⟩ := tr_out hk10 hq hst ht h1 hO (nI j3) (nI j4) i3 i4 eq es et (q + 1 - p) p (by omega) 128 (-1) (Or.inl ⟨rfl, rfl⟩)
    refine ⟨r, l', g', lo', hi', hO', fun post h => X1 _ (br_f n1 (X3 _ (br_f n1 (X4 _ (br_f n1 (br_f k0 (br_t k1 ?_))))))), fun post h => Y1 _ (br_t rfl (Y3 _ (br_t rfl (Y4 _ (br_t rfl (br_f k0 (br_t k1 ?_)))))))⟩
    · exact ⟨i3, nm_r eq ⟨i4, nm_r et ⟨i3, nm_r ep ⟨_, oX post h⟩⟩⟩⟩
    · exact ⟨i3, nm_r ep ⟨_, oY post h⟩⟩
  · exact ⟨-1, l, g, lo, hi, hO, fun post h => X1 _ (br_f n1 (X3 _ (br_f n1 (X4 _ (br_f n1 (br_f k0 (br_f k1 h))))))), fun post h => Y1 _ (br_t rfl (Y3 _ (br_t rfl (Y4 _ (br_t rfl (br_f k0 (br_f k1 h)))))))⟩
