theorem tr_lin {x t : Nat} (hx : x ≤ 127) (ht : t ≤ 127) (f1 f2 : Int32) (lo hi : Nat → Int32) (y1 y2 : Int32) (h2 : vp_in y2 6) (ht2 : hi y2.toNatClampNeg = nI t) (post : Int32 → Prop) (J : Int32 → Int32 → Int32 → Prop) : ∀ (d j : Nat), j + d = t + 1 → ∀ a s : Int32, J (if j ≤ x ∧ j ≤ t then 0 else a) (if x < t ∧ j ≤ t then 1 else s) (nI (x + 1)) → wY_less_48 post J y1 y2 (nI x) f1 f2 lo hi (d + 1) a s (nI j) := by
  intro d
  induction d with
  | zero =>
    intro j hj a s h
    have c : nI t < nI j := nI_lt (by omega) (by omega)
    have c' : hi y2.toNatClampNeg < nI j := by rw [ht2]; exact c
    rw [if_neg (by omega), if_neg (by omega)] at h
    exact ⟨h2, br_t c' (nm_r (nI_1 x) h)⟩
  | succ d ih =>
    intro j hj a s h
    have c : ¬ nI t < nI j := nI_nlt (by omega) (by omega)
    have c' : ¬ hi y2.toNatClampNeg < nI j := by rw [ht2]; exact c
    by_cases z : j ≤ x
    · have z' : nI j ≤ nI x := nI_le z (by omega)
      refine ⟨h2, br_f c' (br_t z' (nm_r (nI_1 j) (ih (j + 1) (by omega) 0 s ?_)))⟩
      have e1 : (if j ≤ x ∧ j ≤ t then (0 : Int32) else a) = (if j + 1 ≤ x ∧ j + 1 ≤ t then 0 else 0) := by
        rw [if_pos (by omega)]; split <;> rfl
      have e2 : (if x < t ∧ j ≤ t then (1 : Int32) else s) = (if x < t ∧ j + 1 ≤ t then 1 else s) := by
        by_cases w : x < t
        · rw [if_pos (by omega), if_pos (by omega)]
        · rw [if_neg (by omega), if_neg (by omega)]
      rw [← e1, ← e2]
      exact h
    · have z' : ¬ nI j ≤ nI x := nI_ge (by omega) (by omega)
      refine ⟨h2, br_f c' (br_f z' (nm_r (nI_1 j) (ih (j + 1) (by omega) a 1 ?_)))⟩
      have e1 : (if j ≤ x ∧ j ≤ t then (0 : Int32) else a) = (if j + 1 ≤ x ∧ j + 1 ≤ t then 0 else a) := by
        rw [if_neg (by omega), if_neg (by omega)]
      have e2 : (if x < t ∧ j ≤ t then (1 : Int32) else s) = (if x < t ∧ j + 1 ≤ t then 1 else 1) := by
        rw [if_pos (by omega)]; split <;> rfl
      rw [← e1, ← e2]
      exact h
def tr_lans (a s : Int32) : Int32 := if a = 0 then (if s = 0 then 0 else 2) else 1
theorem tr_lout {q s t : Nat} (hq : q ≤ 127) (hst : s ≤ t) (ht : t ≤ 127) (f1 f2 : Int32) (lo hi : Nat → Int32) (y1 y2 : Int32) (h1 : vp_in y1 6) (h2 : vp_in y2 6) (hq1 : hi y1.toNatClampNeg = nI q) (hs2 : lo y2.toNatClampNeg = nI s) (ht2 : hi y2.toNatClampNeg = nI t) (post : Int32 → Prop) : ∀ (d j : Nat), j + d = q + 1 → ∀ a b : Int32, post (tr_lans (if s ≤ q ∧ j ≤ q then 0 else a) (if j < t ∧ j ≤ q then 1 else b)) → wY_less_29 post y1 y2 f1 f2 lo hi (d + 1) a b (nI j) := by
  intro d
  induction d with
  | zero =>
    intro j hj a b h
    have c : nI q < nI j := nI_lt (by omega) (by omega)
    have c' : hi y1.toNatClampNeg < nI j := by rw [hq1]; exact c
    rw [if_neg (by omega), if_neg (by omega)] at h
    unfold tr_lans at h
    refine ⟨h1, br_t c' ?_⟩
    by_cases z : a = 0
    · rw [if_pos z] at h
      by_cases w : b = 0
      · rw [if_pos w] at h
        exact br_t z (br_t w h)
      · rw [if_neg w] at h
        exact br_t z (br_f w h)
    · rw [if_neg z] at h
      exact br_f z h
  | succ d ih =>
    intro j hj a b h
    have c : ¬ nI q < nI j := nI_nlt (by omega) (by omega)
    have c' : ¬ hi y1.toNatClampNeg < nI j := by rw [hq1]; exact c
    refine ⟨h1, br_f c' ⟨h2, nm_r hs2 ⟨t + 1 - s + 1, tr_lin (show j ≤ 127 by omega) ht f1 f2 lo hi y1 y2 h2 ht2 post _ (t + 1 - s) s (by omega) a b (ih (j + 1) (by omega) _ _ ?_)⟩⟩⟩
    have e1 : (if s ≤ q ∧ j ≤ q then (0 : Int32) else a) = (if s ≤ q ∧ j + 1 ≤ q then 0 else (if s ≤ j ∧ s ≤ t then 0 else a)) := by
      by_cases w : s ≤ q
      · rw [if_pos (by omega)]
        by_cases w2 : j + 1 ≤ q
        · rw [if_pos (by omega)]
        · rw [if_neg (by omega), if_pos (by omega)]
      · rw [if_neg (by omega), if_neg (by omega), if_neg (by omega)]
    have e2 : (if j < t ∧ j ≤ q then (1 : Int32) else b) = (if j + 1 < t ∧ j + 1 ≤ q then 1 else (if j < t ∧ s ≤ t then 1 else b)) := by
      by_cases w : j < t
      · rw [if_pos (by omega)]
        by_cases w2 : j + 1 < t ∧ j + 1 ≤ q
        · rw [if_pos w2]
        · rw [if_neg w2, if_pos (by omega)]
      · rw [if_neg (by omega), if_neg (by omega), if_neg (by omega)]
    rw [← e1, ← e2]
    exact h
theorem tr_less {l g : Int32} {lo hi : Nat → Int32} (hO : tr_OK lo hi) (v1 v2 : Int32) : ∃ r : Int32, (∀ post : Int32 → Prop, post r → wpX_less post (l, g, lo, hi) v1 v2) ∧ (∀ post : Int32 → Prop, post r → wpY_less post (l, g, lo, hi) v1 v2) := by
  have n1 : ¬ (1 : Int32) = 0 := by decide
  unfold wpX_less wpY_less
  dsimp only
  rcases tr_reg v1 with ⟨X1, Y1⟩ | ⟨j1, h1, rfl, X1, Y1⟩
  · exact ⟨-1, fun post h => X1 _ (br_t rfl h), fun post h => Y1 _ (br_f n1 h)⟩
  rcases tr_reg v2 with ⟨X2, Y2⟩ | ⟨j2, h2, rfl, X2, Y2⟩
  · exact ⟨-1, fun post h => X1 _ (br_f n1 (X2 _ (br_t rfl h))), fun post h => Y1 _ (br_t rfl (Y2 _ (br_f n1 h)))⟩
  have i1 : vp_in (nI j1) 6 := vp_in_nI h1 (by omega)
  have i2 : vp_in (nI j2) 6 := vp_in_nI h2 (by omega)
  obtain ⟨p, q, ep, eq, hpq, hq⟩ := tr_at hO h1
  obtain ⟨s, t, es, et, hst, ht⟩ := tr_at hO h2
  refine ⟨tr_lans (if s ≤ q ∧ p ≤ q then 0 else 1) (if p < t ∧ p ≤ q then 1 else 0), fun post h => X1 _ (br_f n1 (X2 _ (br_f n1 ⟨i1, i2, ?_⟩))), fun post h => Y1 _ (br_t rfl (Y2 _ (br_t rfl ⟨i1, nm_r ep ⟨q + 1 - p + 1, tr_lout hq hst ht l g lo hi (nI j1) (nI j2) i1 i2 eq es et post (q + 1 - p) p (by omega) 1 0 h⟩⟩)))⟩
  rw [ep, eq, es, et]
  by_cases z : s ≤ q
  · refine br_t (nI_le z (by omega)) ⟨i1, i2, ?_⟩
    rw [if_pos (by omega)] at h
    by_cases w : p < t
    · rw [if_pos (by omega)] at h
      exact br_t (nI_lt w (by omega)) h
    · rw [if_neg (by omega)] at h
      exact br_f (nI_nlt (by omega) (by omega)) h
  · refine br_f (nI_ge (by omega) (by omega)) ?_
    rw [if_neg (by omega)] at h
    exact h
theorem tr_pin {x t : Nat} (hx : x ≤ 127) (ht : t ≤ 127) (f1 f2 : Int32) (lo hi : Nat → Int32) (x2 x4 y1 y2 : Int32) (h2 : vp_in y2 6) (ht2 : hi y2.toNatClampNeg = nI t) : ∀ (d j : Nat), j + d = t + 1 → ∀ c : Int32, ∃ c' : Int32, (∀ (post : Int32 → Prop) (J : Int32 → Int32 → Prop), J c' (nI (x + 1)) → wX_apart_57 post J x2 x4 (nI t) (nI x) f1 f2 lo hi (d + 1) c (nI j)) ∧ (∀ (post : Int32 → Prop) (J : Int32 → Int32 → Prop), J c' (nI (x + 1)) → wY_apart_45 post J y1 y2 (nI x) f1 f2 lo hi (d + 1) c (nI j)) := by
  intro d
  induction d with
  | zero =>
    intro j hj c
    have k : nI t < nI j := nI_lt (by omega) (by omega)
    have k' : hi y2.toNatClampNeg < nI j := by rw [ht2]; exact k
    exact ⟨c, fun post J h => br_t k (nm_r (nI_1 x) h), fun post J h => ⟨h2, br_t k' (nm_r (nI_1 x) h)⟩⟩
  | succ d ih =>
    intro j hj c
    have k : ¬ nI t < nI j := nI_nlt (by omega) (by omega)
    have k' : ¬ hi y2.toNatClampNeg < nI j := by rw [ht2]; exact k
    by_cases z : nI x &&& nI j = 0
    · obtain ⟨c', hX, hY⟩ := ih (j + 1) (by omega) (c + 1)
      exact ⟨c', fun post J h => br_f k (br_t z (nm_e (nm_r (nI_1 j) (hX post J h)))), fun post J h => ⟨h2, br_f k' (br_t z (nm_e (nm_r (nI_1 j) (hY post J h))))⟩⟩
    · obtain ⟨c', hX, hY⟩ := ih (j + 1) (by omega) c
      exact ⟨c', fun post J h => br_f k (br_f z (nm_r (nI_1 j) (hX post J h))), fun post J h => ⟨h2, br_f k' (br_f z (nm_r (nI_1 j) (hY post J h)))⟩⟩
theorem tr_pout {q s t : Nat} (hq : q ≤ 127) (hst : s ≤ t) (ht : t ≤ 127) (f1 f2 : Int32) (lo hi : Nat → Int32) (y1 y2 : Int32) (h1 : vp_in y1 6) (h2 : vp_in y2 6) (hq1 : hi y1.toNatClampNeg = nI q) (hs2 : lo y2.toNatClampNeg = nI s) (ht2 : hi y2.toNatClampNeg = nI t) : ∀ (d j : Nat), j + d = q + 1 → ∀ c : Int32, ∃ c' : Int32, (∀ post : Int32 → Prop, post c' → wX_apart_42 post y2 (nI q) (nI t) f1 f2 lo hi (d + 1) c (nI j)) ∧ (∀ post : Int32 → Prop, post c' → wY_apart_26 post y1 y2 f1 f2 lo hi (d + 1) c (nI j)) := by
  intro d
  induction d with
  | zero =>
    intro j hj c
    have k : nI q < nI j := nI_lt (by omega) (by omega)
    have k' : hi y1.toNatClampNeg < nI j := by rw [hq1]; exact k
    exact ⟨c, fun post h => br_t k h, fun post h => ⟨h1, br_t k' h⟩⟩
  | succ d ih =>
    intro j hj c
    have k : ¬ nI q < nI j := nI_nlt (by omega) (by omega)
    have k' : ¬ hi y1.toNatClampNeg < nI j := by rw [hq1]; exact k
    obtain ⟨c1, iX, iY⟩ := tr_pin (show j ≤ 127 by omega) ht f1 f2 lo hi y2 (nI q) y1 y2 h2 ht2 (t + 1 - s) s (by omega) c
    obtain ⟨c2, oX, oY⟩ := ih (j + 1) (by omega) c1
    exact ⟨c2, fun post h => br_f k ⟨h2, nm_r hs2 ⟨t + 1 - s + 1, iX post _ (oX post h)⟩⟩, fun post h => ⟨h1, br_f k' ⟨h2, nm_r hs2 ⟨t + 1 - s + 1, iY post _ (oY post h)⟩⟩⟩⟩
theorem tr_apart {l g : Int32} {lo hi : Nat → Int32} (hO : tr_OK lo hi) (v1 v2 : Int32) : ∃ r : Int32, (∀ post : Int32 → Prop, post r → wpX_apart post (l, g, lo, hi) v1 v2) ∧ (∀ post : Int32 → Prop, post r → wpY_apart post (l, g, lo, hi) v1 v2) := by
  have n1 : ¬ (1 : Int32) = 0 := by decide
  unfold wpX_apart wpY_apart
  dsimp only
  rcases tr_reg v1 with ⟨X1, Y1⟩ | ⟨j1, h1, rfl, X1, Y1⟩
  · exact ⟨-1, fun post h => X1 _ (br_t rfl h), fun post h => Y1 _ (br_f n1 h)⟩
  rcases tr_reg v2 with ⟨X2, Y2⟩ | ⟨j2, h2, rfl, X2, Y2⟩
  · exact ⟨-1, fun post h => X1 _ (br_f n1 (X2 _ (br_t rfl h))), fun post h => Y1 _ (br_t rfl (Y2 _ (br_f n1 h)))⟩
  have i1 : vp_in (nI j1) 6 := vp_in_nI h1 (by omega)
  have i2 : vp_in (nI j2) 6 := vp_in_nI h2 (by omega)
  obtain ⟨p, q, ep, eq, hpq, hq⟩ := tr_at hO h1
  obtain ⟨s, t, es, et, hst, ht⟩ := tr_at hO h2
  obtain ⟨c, oX, oY⟩ := tr_pout hq hst ht l g lo hi (nI j1) (nI j2) i1 i2 eq es et (q + 1 - p) p (by omega) 0
  refine ⟨c, fun post h => X1 _ (br_f n1 (X2 _ (br_f n1 ?_))), fun post h => Y1 _ (br_t rfl (Y2 _ (br_t rfl ?_)))⟩
  · exact ⟨i1, nm_r eq ⟨i2, nm_r et ⟨i1, nm_r ep ⟨_, oX post h⟩⟩⟩⟩
  · exact ⟨i1, nm_r ep ⟨_, oY post h⟩⟩
