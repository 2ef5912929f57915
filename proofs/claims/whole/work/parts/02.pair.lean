theorem tr_128 : nI 128 = 128 := rfl
theorem tr_v0 {x y : Nat} (hx : x ≤ 127) (hy : y ≤ 127) : (nI x + nI y) - (nI x + nI y) / 128 * 128 = nI ((x + y) % 128) := by
  rw [nI_add]
  exact pk_rem (d := 128) (by omega) (by omega) (by omega)
theorem tr_v1 {x y : Nat} (hx : x ≤ 127) (hy : y ≤ 127) : ((nI x - nI y) + 128) - ((nI x - nI y) + 128) / 128 * 128 = nI ((x + 128 - y) % 128) := by
  have e : (nI x - nI y) + 128 = nI (x + 128 - y) := by
    rw [← pk_sub (show y ≤ x + 128 by omega), ← nI_add, tr_128]
    grind
  rw [e]
  exact pk_rem (d := 128) (by omega) (by omega) (by omega)
theorem tr_v5 {x y : Nat} (hx : x ≤ 127) (hy : y ≤ 127) : (nI x * nI y) / 128 = nI (x * y / 128) ∧ x * y / 128 ≤ 127 := by
  have h : x * y ≤ 127 * 127 := Nat.mul_le_mul hx hy
  rw [pk_mul]
  generalize x * y = z at h
  exact ⟨pk_div (d := 128) (by omega) (by omega) (by omega), by omega⟩
theorem tr_res {k x y : Nat} (hk : k ≤ 8) (hx : x ≤ 127) (hy : y ≤ 127) : ∃ r : Nat, r ≤ 127 ∧ (∀ post : Int32 → Prop, post (nI r) → wpX_resultOfPair post (nI k) (nI x) (nI y)) ∧ (∀ post : Int32 → Prop, post (nI r) → wpY_worked post (nI k) (nI x) (nI y)) := by
  have d0 : ¬ (128 : Int32) = 0 := by decide
  match k, hk with
  | 0, _ =>
    refine ⟨(x + y) % 128, by omega, fun post h => ?_, fun post h => ?_⟩
    · rw [← tr_v0 hx hy] at h
      exact br_f (by decide) (br_f (by decide) (br_t (by decide) ⟨d0, h⟩))
    · rw [← tr_v0 hx hy] at h
      exact br_t (by decide) ⟨d0, h⟩
  | 1, _ =>
    refine ⟨(x + 128 - y) % 128, by omega, fun post h => ?_, fun post h => ?_⟩
    · rw [← tr_v1 hx hy] at h
      exact br_f (by decide) (br_f (by decide) (br_f (by decide) (br_t (by decide) ⟨d0, h⟩)))
    · rw [← tr_v1 hx hy] at h
      exact br_f (by decide) (br_t (by decide) ⟨d0, h⟩)
  | 2, _ =>
    refine ⟨x &&& y, Nat.le_trans Nat.and_le_left hx, fun post h => ?_, fun post h => ?_⟩
    · rw [← nx_and] at h
      exact br_f (by decide) (br_f (by decide) (br_f (by decide) (br_f (by decide) (br_t (by decide) h))))
    · rw [← nx_and] at h
      exact br_f (by decide) (br_f (by decide) (br_t (by decide) h))
  | 3, _ =>
    have hr : x ||| y < 2 ^ 7 := Nat.or_lt_two_pow (by omega) (by omega)
    refine ⟨x ||| y, by omega, fun post h => ?_, fun post h => ?_⟩
    · rw [← tr_or] at h
      exact br_f (by decide) (br_f (by decide) (br_f (by decide) (br_f (by decide) (br_f (by decide) (br_t (by decide) h)))))
    · rw [← tr_or] at h
      exact br_f (by decide) (br_f (by decide) (br_f (by decide) (br_t (by decide) h)))
  | 4, _ =>
    have hr : x ^^^ y < 2 ^ 7 := Nat.xor_lt_two_pow (by omega) (by omega)
    refine ⟨x ^^^ y, by omega, fun post h => ?_, fun post h => ?_⟩
    · rw [← nx_xor] at h
      exact br_f (by decide) (br_f (by decide) (br_f (by decide) (br_f (by decide) (br_f (by decide) (br_f (by decide) (br_t (by decide) h))))))
    · rw [← nx_xor] at h
      exact br_f (by decide) (br_f (by decide) (br_f (by decide) (br_f (by decide) (br_t (by decide) h))))
  | 5, _ =>
    obtain ⟨e, hr⟩ := tr_v5 hx hy
    refine ⟨x * y / 128, hr, fun post h => ?_, fun post h => ?_⟩
    · rw [← e] at h
      exact br_f (by decide) (br_f (by decide) (br_f (by decide) (br_f (by decide) (br_f (by decide) (br_f (by decide) (br_f (by decide) (br_t (by decide) ⟨d0, h⟩)))))))
    · rw [← e] at h
      exact br_f (by decide) (br_f (by decide) (br_f (by decide) (br_f (by decide) (br_f (by decide) (br_t (by decide) ⟨d0, h⟩)))))
  | 6, _ =>
    by_cases z : y = 0
    · have z' : nI y = 0 := by rw [z]; rfl
      refine ⟨127, by omega, fun post h => ?_, fun post h => ?_⟩
      · exact br_f (by decide) (br_f (by decide) (br_f (by decide) (br_f (by decide) (br_f (by decide) (br_f (by decide) (br_f (by decide) (br_f (by decide) (br_t (by decide) (br_t z' h)))))))))
      · exact br_f (by decide) (br_f (by decide) (br_f (by decide) (br_f (by decide) (br_f (by decide) (br_f (by decide) (br_t (by decide) (br_t z' h)))))))
    · have z' : ¬ nI y = 0 := nI_ne0 (by omega) (by omega)
      have e : nI x / nI y = nI (x / y) := pk_div (by omega) (by omega) (by omega)
      refine ⟨x / y, Nat.le_trans (Nat.div_le_self x y) hx, fun post h => ?_, fun post h => ?_⟩
      · rw [← e] at h
        exact br_f (by decide) (br_f (by decide) (br_f (by decide) (br_f (by decide) (br_f (by decide) (br_f (by decide) (br_f (by decide) (br_f (by decide) (br_t (by decide) (br_f z' ⟨z', h⟩)))))))))
      · rw [← e] at h
        exact br_f (by decide) (br_f (by decide) (br_f (by decide) (br_f (by decide) (br_f (by decide) (br_f (by decide) (br_t (by decide) (br_f z' ⟨z', h⟩)))))))
  | 7, _ =>
    by_cases z : x ≤ y
    · have z' : nI x ≤ nI y := nI_le z (by omega)
      refine ⟨y, hy, fun post h => ?_, fun post h => ?_⟩
      · exact br_f (by decide) (br_f (by decide) (br_f (by decide) (br_f (by decide) (br_f (by decide) (br_f (by decide) (br_f (by decide) (br_f (by decide) (br_f (by decide) (br_t (by decide) (br_t z' h))))))))))
      · exact br_f (by decide) (br_f (by decide) (br_f (by decide) (br_f (by decide) (br_f (by decide) (br_f (by decide) (br_f (by decide) (br_t (by decide) (br_t z' h))))))))
    · have z' : ¬ nI x ≤ nI y := nI_ge (by omega) (by omega)
      refine ⟨x, hx, fun post h => ?_, fun post h => ?_⟩
      · exact br_f (by decide) (br_f (by decide) (br_f (by decide) (br_f (by decide) (br_f (by decide) (br_f (by decide) (br_f (by decide) (br_f (by decide) (br_f (by decide) (br_t (by decide) (br_f z' h))))))))))
      · exact br_f (by decide) (br_f (by decide) (br_f (by decide) (br_f (by decide) (br_f (by decide) (br_f (by decide) (br_f (by decide) (br_t (by decide) (br_f z' h))))))))
  | 8, _ =>
    by_cases z : x ≤ y
    · have z' : nI x ≤ nI y := nI_le z (by omega)
      refine ⟨y - x, by omega, fun post h => ?_, fun post h => ?_⟩
      · rw [← pk_sub z] at h
        exact br_f (by decide) (br_f (by decide) (br_f (by decide) (br_f (by decide) (br_f (by decide) (br_f (by decide) (br_f (by decide) (br_f (by decide) (br_f (by decide) (br_f (by decide) (br_t (by decide) (br_t z' h)))))))))))
      · rw [← pk_sub z] at h
        exact br_f (by decide) (br_f (by decide) (br_f (by decide) (br_f (by decide) (br_f (by decide) (br_f (by decide) (br_f (by decide) (br_f (by decide) (br_t z' h))))))))
    · have z' : ¬ nI x ≤ nI y := nI_ge (by omega) (by omega)
      refine ⟨x - y, by omega, fun post h => ?_, fun post h => ?_⟩
      · rw [← pk_sub (show y ≤ x by omega)] at h
        exact br_f (by decide) (br_f (by decide) (br_f (by decide) (br_f (by decide) (br_f (by decide) (br_f (by decide) (br_f (by decide) (br_f (by decide) (br_f (by decide) (br_f (by decide) (br_t (by decide) (br_f z' h)))))))))))
      · rw [← pk_sub (show y ≤ x by omega)] at h
        exact br_f (by decide) (br_f (by decide) (br_f (by decide) (br_f (by decide) (br_f (by decide) (br_f (by decide) (br_f (by decide) (br_f (by decide) (br_f z' h))))))))
theorem tr_pair {k x y : Nat} (hk : k ≤ 10) (hx : x ≤ 127) (hy : y ≤ 127) {l g : Int32} (hG : tr_G l g) (a b : Nat → Int32) : ∃ l' g' : Int32, tr_G l' g' ∧ (∀ post : SX → Prop, post (l', g', a, b) → wpX_gatherResultsOfPair post (l, g, a, b) (nI k) (nI x) (nI y)) ∧ (∀ post : SY → Prop, post (l', g', a, b) → wpY_pair post (l, g, a, b) (nI k) (nI x) (nI y)) := by
  by_cases h9 : k = 9
  · subst h9
    refine ⟨_, _, tr_G_go (tr_G_go hG hx) hy, fun post h => br_t (by decide) ?_, fun post h => br_t (by decide) (br_t (by decide) ?_)⟩
    · exact tr_gX _ l g a b (nI x) (tr_gX _ _ _ a b (nI y) h)
    · exact tr_gY _ l g a b (nI x) (tr_gY _ _ _ a b (nI y) h)
  by_cases h10 : k = 10
  · subst h10
    by_cases z : x = y
    · have z' : nI x = nI y := by rw [z]
      refine ⟨_, _, tr_G_go hG hx, fun post h => br_f (by decide) (br_t (by decide) (br_t z' ?_)), fun post h => br_t (by decide) (br_f (by decide) (br_t z' ?_))⟩
      · exact tr_gX _ l g a b (nI x) h
      · exact tr_gY _ l g a b (nI x) h
    · have z' : ¬ nI x = nI y := fun e => z ((nI_eq (by omega) (by omega)).mp e)
      exact ⟨l, g, hG, fun post h => br_f (by decide) (br_t (by decide) (br_f z' h)), fun post h => br_t (by decide) (br_f (by decide) (br_f z' h))⟩
  have n9 : ¬ nI k = 9 := fun e => h9 ((nI_eq (b := 9) (by omega) (by omega)).mp e)
  have n10 : ¬ nI k = 10 := fun e => h10 ((nI_eq (b := 10) (by omega) (by omega)).mp e)
  have n8 : ¬ (8 : Int32) < nI k := nI_nlt (a := 8) (by omega) (by omega)
  obtain ⟨r, hr, rX, rY⟩ := tr_res (k := k) (by omega) hx hy
  refine ⟨_, _, tr_G_go hG hr, fun post h => br_f n9 (br_f n10 (rX _ ?_)), fun post h => br_f n8 (rY _ ?_)⟩
  · exact tr_gX _ l g a b (nI r) h
  · exact tr_gY _ l g a b (nI r) h
