section
theorem pk_us {f : Nat → Int32} {k : Nat} {x : Int32} : upd f k x k = x := if_pos rfl
theorem pk_un {f : Nat → Int32} {k j : Nat} {x : Int32} (h : j ≠ k) : upd f k x j = f j := if_neg h
theorem pk_sub {a b : Nat} (h : b ≤ a) : nI a - nI b = nI (a - b) := by
  obtain ⟨c, rfl⟩ : ∃ c, a = c + b := ⟨a - b, by omega⟩
  rw [← nI_add, Int32.add_sub_cancel, Nat.add_sub_cancel]
theorem pk_mul (a b : Nat) : nI a * nI b = nI (a * b) := (Int32.ofNat_mul a b).symm
theorem pk_div {a d : Nat} (ha : a < 2 ^ 31) (h0 : 0 < d) (hd : d < 2 ^ 31) : nI a / nI d = nI (a / d) := by
  apply Int32.toInt_inj.mp
  rw [lg_idiv_nonneg (by rw [nI_toInt ha]; omega) (by rw [nI_toInt hd]; omega), nI_toInt ha, nI_toInt hd, nI_toInt (Nat.lt_of_le_of_lt (Nat.div_le_self a d) ha)]
  first | rfl | exact (Int.natCast_ediv _ _).symm
theorem pk_rem {a d : Nat} (ha : a < 2 ^ 31) (h0 : 0 < d) (hd : d < 2 ^ 31) : nI a - nI a / nI d * nI d = nI (a % d) := by
  rw [pk_div ha h0 hd, pk_mul, pk_sub (Nat.div_mul_le_self a d)]
  exact congrArg nI (by have := Nat.div_add_mod' a d; omega)
theorem nx_and (a b : Nat) : nI a &&& nI b = nI (a &&& b) := by
  apply Int32.toBitVec_inj.1
  show BitVec.ofNat 32 a &&& BitVec.ofNat 32 b = BitVec.ofNat 32 (a &&& b)
  apply BitVec.eq_of_getLsbD_eq
  intro i hi
  simp [hi]
theorem nx_xor (a b : Nat) : nI a ^^^ nI b = nI (a ^^^ b) := by
  apply Int32.toBitVec_inj.1
  show BitVec.ofNat 32 a ^^^ BitVec.ofNat 32 b = BitVec.ofNat 32 (a ^^^ b)
  apply BitVec.eq_of_getLsbD_eq
  intro i hi
  simp [hi]
theorem tr_or (a b : Nat) : nI a ||| nI b = nI (a ||| b) := by
  apply Int32.toBitVec_inj.1
  show BitVec.ofNat 32 a ||| BitVec.ofNat 32 b = BitVec.ofNat 32 (a ||| b)
  apply BitVec.eq_of_getLsbD_eq
  intro i hi
  simp [BitVec.getLsbD_ofNat, hi]
/-- every register holds a range of numbers from 0 to 127 -/
def tr_OK (lo hi : Nat → Int32) : Prop := ∀ j, j < 6 → ∃ p q : Nat, lo j = nI p ∧ hi j = nI q ∧ p ≤ q ∧ q ≤ 127
/-- the two sides hold the same fields and the same registers -/
def i_Rel (_ : Nat) (u : SX) (v : SY) : Prop := u = v ∧ tr_OK u.2.2.1 u.2.2.2
theorem i_up {k : Nat} {u : SX} {v : SY} (h : i_Rel k u v) : i_Rel (k + 5) u v := h
theorem tr_upd {lo hi : Nat → Int32} (h : tr_OK lo hi) (k : Nat) {p q : Nat} (hpq : p ≤ q) (hq : q ≤ 127) : tr_OK (upd lo k (nI p)) (upd hi k (nI q)) := by
  intro j hj
  by_cases e : j = k
  · subst e
    exact ⟨p, q, pk_us, pk_us, hpq, hq⟩
  · rw [pk_un e, pk_un e]
    exact h j hj
theorem tr_at {lo hi : Nat → Int32} (h : tr_OK lo hi) {j : Nat} (hj : j < 6) : ∃ p q : Nat, lo (nI j).toNatClampNeg = nI p ∧ hi (nI j).toNatClampNeg = nI q ∧ p ≤ q ∧ q ≤ 127 := by
  rw [nI_clamp (by omega)]
  exact h j hj
theorem tr_reg (x : Int32) : ((∀ post : Int32 → Prop, post 0 → wpX_isRegister post x) ∧ (∀ post : Int32 → Prop, post 1 → wpY_bad post x)) ∨ (∃ j : Nat, j < 6 ∧ x = nI j ∧ (∀ post : Int32 → Prop, post 1 → wpX_isRegister post x) ∧ (∀ post : Int32 → Prop, post 0 → wpY_bad post x)) := by
  by_cases h0 : x < 0
  · exact Or.inl ⟨fun _ h => br_t h0 h, fun _ h => br_t h0 h⟩
  · obtain ⟨j, hj, rfl⟩ := nI_of h0
    by_cases h6 : j < 6
    · exact Or.inr ⟨j, h6, rfl, fun _ h => br_f h0 (br_f (nI_ge (b := 6) h6 (by decide)) h), fun _ h => br_f h0 (br_t (nI_le (b := 5) (by omega) (by decide)) h)⟩
    · exact Or.inl ⟨fun _ h => br_f h0 (br_t (nI_le (a := 6) (by omega) hj) h), fun _ h => br_f h0 (br_f (nI_ge (a := 5) (by omega) hj) h)⟩
/-- the least and the greatest result so far: none yet, or both from 0 to 127 -/
def tr_G (l g : Int32) : Prop := (l = 128 ∧ g = -1) ∨ ∃ p q : Nat, l = nI p ∧ g = nI q ∧ p ≤ q ∧ q ≤ 127
def tr_mn (l v : Int32) : Int32 := if l ≤ v then l else v
def tr_mx (g v : Int32) : Int32 := if v ≤ g then g else v
theorem tr_G_go {l g : Int32} (h : tr_G l g) {r : Nat} (hr : r ≤ 127) : tr_G (tr_mn l (nI r)) (tr_mx g (nI r)) := by
  rcases h with ⟨rfl, rfl⟩ | ⟨p, q, rfl, rfl, hpq, hq⟩
  · have h1 : ¬ (128 : Int32) ≤ nI r := nI_ge (b := 128) (by omega) (by decide)
    have h2 : ¬ nI r ≤ (-1 : Int32) := by
      rw [Int32.le_iff_toInt_le, nI_toInt (by omega), show (-1 : Int32).toInt = -1 from by decide]
      omega
    exact Or.inr ⟨r, r, if_neg h1, if_neg h2, Nat.le_refl _, hr⟩
  · refine Or.inr ⟨if p ≤ r then p else r, if r ≤ q then q else r, ?_, ?_, ?_, ?_⟩
    · unfold tr_mn
      simp only [nI_leI (show p < 2 ^ 31 by omega) (show r < 2 ^ 31 by omega)]
      split <;> rfl
    · unfold tr_mx
      simp only [nI_leI (show r < 2 ^ 31 by omega) (show q < 2 ^ 31 by omega)]
      split <;> rfl
    · split <;> split <;> omega
    · split <;> omega
theorem tr_gX (post : SX → Prop) (l g : Int32) (a b : Nat → Int32) (v : Int32) (h : post (tr_mn l v, tr_mx g v, a, b)) : wpX_gather post (l, g, a, b) v := by
  unfold tr_mn tr_mx at h
  by_cases h1 : l ≤ v
  · rw [if_pos h1] at h
    refine br_t h1 ?_
    by_cases h2 : v ≤ g
    · rw [if_pos h2] at h
      exact br_t h2 h
    · rw [if_neg h2] at h
      exact br_f h2 h
  · rw [if_neg h1] at h
    refine br_f h1 ?_
    by_cases h2 : v ≤ g
    · rw [if_pos h2] at h
      exact br_t h2 h
    · rw [if_neg h2] at h
      exact br_f h2 h
theorem tr_gY (post : SY → Prop) (l g : Int32) (a b : Nat → Int32) (v : Int32) (h : post (tr_mn l v, tr_mx g v, a, b)) : wpY_result post (l, g, a, b) v := by
  unfold tr_mn tr_mx at h
  by_cases h1 : l ≤ v
  · rw [if_pos h1] at h
    refine br_t h1 ?_
    by_cases h2 : v ≤ g
    · rw [if_pos h2] at h
      exact br_t h2 h
    · rw [if_neg h2] at h
      exact br_f h2 h
  · rw [if_neg h1] at h
    refine br_f h1 ?_
    by_cases h2 : v ≤ g
    · rw [if_pos h2] at h
      exact br_t h2 h
    · rw [if_neg h2] at h
      exact br_f h2 h
theorem tr_keep {l g : Int32} {lo hi : Nat → Int32} (hG : tr_G l g) (hO : tr_OK lo hi) {j : Nat} (hj : j < 6) : ∃ (r : Int32) (lo' hi' : Nat → Int32), tr_OK lo' hi' ∧ (∀ post : Int32 → SX → Prop, post r (l, g, lo', hi') → wpX_keepGathered post (l, g, lo, hi) (nI j)) ∧ (∀ post : Int32 → SY → Prop, post r (l, g, lo', hi') → wpY_keep post (l, g, lo, hi) (nI j)) := by
  have hi6 : vp_in (nI j) 6 := vp_in_nI hj (by decide)
  rcases hG with ⟨rfl, rfl⟩ | ⟨p, q, rfl, rfl, hpq, hq⟩
  · have h1 : ¬ (128 : Int32) ≤ (-1 : Int32) := by decide
    exact ⟨-2, lo, hi, hO, fun _ h => br_f h1 h, fun _ h => br_f h1 h⟩
  · have h1 : nI p ≤ nI q := nI_le hpq (by omega)
    exact ⟨0, _, _, tr_upd hO (nI j).toNatClampNeg hpq hq, fun _ h => br_t h1 ⟨hi6, nm_e ⟨hi6, nm_e h⟩⟩, fun _ h => br_t h1 ⟨hi6, nm_e ⟨hi6, nm_e h⟩⟩⟩
end
section
theorem tr_128 : nI 128 = 128 := rfl
theorem tr_v0 {x y : Nat} (hx : x ≤ 127) (hy : y ≤ 127) : (nI x + nI y) - (nI x + nI y) / 128 * 128 = nI ((x + y) % 128) := by
  rw [nI_add]
  exact pk_rem (d := 128) (by omega) (by omega) (by omega)
theorem tr_v1 {x y : Nat} (hx : x ≤ 127) (hy : y ≤ 127) : ((nI x - nI y) + 128) - ((nI x - nI y) + 128) / 128 * 128 = nI ((x + 128 - y) % 128) := by
  have e : (nI x - nI y) + 128 = nI (x + 128 - y) := by
    rw [← pk_sub (show y ≤ x + 128 by omega), ← nI_add, tr_128]
    grind
  rw [e]
  exact pk_rem (d := 128) (by omega) (by omega) (by omega)
theorem tr_v5 {x y : Nat} (hx : x ≤ 127) (hy : y ≤ 127) : (nI x * nI y) / 128 = nI (x * y / 128) ∧ x * y / 128 ≤ 127 := by
  have h : x * y ≤ 127 * 127 := Nat.mul_le_mul hx hy
  rw [pk_mul]
  generalize x * y = z at h
  exact ⟨pk_div (d := 128) (by omega) (by omega) (by omega), by omega⟩
theorem tr_res {k x y : Nat} (hk : k ≤ 8) (hx : x ≤ 127) (hy : y ≤ 127) : ∃ r : Nat, r ≤ 127 ∧ (∀ post : Int32 → Prop, post (nI r) → wpX_resultOfPair post (nI k) (nI x) (nI y)) ∧ (∀ post : Int32 → Prop, post (nI r) → wpY_worked post (nI k) (nI x) (nI y)) := by
  have d0 : ¬ (128 : Int32) = 0 := by decide
  match k, hk with
  | 0, _ =>
    refine ⟨(x + y) % 128, by omega, fun post h => ?_, fun post h => ?_⟩
    · rw [← tr_v0 hx hy] at h
      exact br_f (by decide) (br_f (by decide) (br_t (by decide) ⟨d0, h⟩))
    · rw [← tr_v0 hx hy] at h
      exact br_t (by decide) ⟨d0, h⟩
  | 1, _ =>
    refine ⟨(x + 128 - y) % 128, by omega, fun post h => ?_, fun post h => ?_⟩
    · rw [← tr_v1 hx hy] at h
      exact br_f (by decide) (br_f (by decide) (br_f (by decide) (br_t (by decide) ⟨d0, h⟩)))
    · rw [← tr_v1 hx hy] at h
      exact br_f (by decide) (br_t (by decide) ⟨d0, h⟩)
  | 2, _ =>
    refine ⟨x &&& y, Nat.le_trans Nat.and_le_left hx, fun post h => ?_, fun post h => ?_⟩
    · rw [← nx_and] at h
      exact br_f (by decide) (br_f (by decide) (br_f (by decide) (br_f (by decide) (br_t (by decide) h))))
    · rw [← nx_and] at h
      exact br_f (by decide) (br_f (by decide) (br_t (by decide) h))
  | 3, _ =>
    have hr : x ||| y < 2 ^ 7 := Nat.or_lt_two_pow (by omega) (by omega)
    refine ⟨x ||| y, by omega, fun post h => ?_, fun post h => ?_⟩
    · rw [← tr_or] at h
      exact br_f (by decide) (br_f (by decide) (br_f (by decide) (br_f (by decide) (br_f (by decide) (br_t (by decide) h)))))
    · rw [← tr_or] at h
      exact br_f (by decide) (br_f (by decide) (br_f (by decide) (br_t (by decide) h)))
  | 4, _ =>
    have hr : x ^^^ y < 2 ^ 7 := Nat.xor_lt_two_pow (by omega) (by omega)
    refine ⟨x ^^^ y, by omega, fun post h => ?_, fun post h => ?_⟩
    · rw [← nx_xor] at h
      exact br_f (by decide) (br_f (by decide) (br_f (by decide) (br_f (by decide) (br_f (by decide) (br_f (by decide) (br_t (by decide) h))))))
    · rw [← nx_xor] at h
      exact br_f (by decide) (br_f (by decide) (br_f (by decide) (br_f (by decide) (br_t (by decide) h))))
  | 5, _ =>
    obtain ⟨e, hr⟩ := tr_v5 hx hy
    refine ⟨x * y / 128, hr, fun post h => ?_, fun post h => ?_⟩
    · rw [← e] at h
      exact br_f (by decide) (br_f (by decide) (br_f (by decide) (br_f (by decide) (br_f (by decide) (br_f (by decide) (br_f (by decide) (br_t (by decide) ⟨d0, h⟩)))))))
    · rw [← e] at h
      exact br_f (by decide) (br_f (by decide) (br_f (by decide) (br_f (by decide) (br_f (by decide) (br_t (by decide) ⟨d0, h⟩)))))
  | 6, _ =>
    by_cases z : y = 0
    · have z' : nI y = 0 := by rw [z]; rfl
      refine ⟨127, by omega, fun post h => ?_, fun post h => ?_⟩
      · exact br_f (by decide) (br_f (by decide) (br_f (by decide) (br_f (by decide) (br_f (by decide) (br_f (by decide) (br_f (by decide) (br_f (by decide) (br_t (by decide) (br_t z' h)))))))))
      · exact br_f (by decide) (br_f (by decide) (br_f (by decide) (br_f (by decide) (br_f (by decide) (br_f (by decide) (br_t (by decide) (br_t z' h)))))))
    · have z' : ¬ nI y = 0 := nI_ne0 (by omega) (by omega)
      have e : nI x / nI y = nI (x / y) := pk_div (by omega) (by omega) (by omega)
      refine ⟨x / y, Nat.le_trans (Nat.div_le_self x y) hx, fun post h => ?_, fun post h => ?_⟩
      · rw [← e] at h
        exact br_f (by decide) (br_f (by decide) (br_f (by decide) (br_f (by decide) (br_f (by decide) (br_f (by decide) (br_f (by decide) (br_f (by decide) (br_t (by decide) (br_f z' ⟨z', h⟩)))))))))
      · rw [← e] at h
        exact br_f (by decide) (br_f (by decide) (br_f (by decide) (br_f (by decide) (br_f (by decide) (br_f (by decide) (br_t (by decide) (br_f z' ⟨z', h⟩)))))))
  | 7, _ =>
    by_cases z : x ≤ y
    · have z' : nI x ≤ nI y := nI_le z (by omega)
      refine ⟨y, hy, fun post h => ?_, fun post h => ?_⟩
      · exact br_f (by decide) (br_f (by decide) (br_f (by decide) (br_f (by decide) (br_f (by decide) (br_f (by decide) (br_f (by decide) (br_f (by decide) (br_f (by decide) (br_t (by decide) (br_t z' h))))))))))
      · exact br_f (by decide) (br_f (by decide) (br_f (by decide) (br_f (by decide) (br_f (by decide) (br_f (by decide) (br_f (by decide) (br_t (by decide) (br_t z' h))))))))
    · have z' : ¬ nI x ≤ nI y := nI_ge (by omega) (by omega)
      refine ⟨x, hx, fun post h => ?_, fun post h => ?_⟩
      · exact br_f (by decide) (br_f (by decide) (br_f (by decide) (br_f (by decide) (br_f (by decide) (br_f (by decide) (br_f (by decide) (br_f (by decide) (br_f (by decide) (br_t (by decide) (br_f z' h))))))))))
      · exact br_f (by decide) (br_f (by decide) (br_f (by decide) (br_f (by decide) (br_f (by decide) (br_f (by decide) (br_f (by decide) (br_t (by decide) (br_f z' h))))))))
  | 8, _ =>
    by_cases z : x ≤ y
    · have z' : nI x ≤ nI y := nI_le z (by omega)
      refine ⟨y - x, by omega, fun post h => ?_, fun post h => ?_⟩
      · rw [← pk_sub z] at h
        exact br_f (by decide) (br_f (by decide) (br_f (by decide) (br_f (by decide) (br_f (by decide) (br_f (by decide) (br_f (by decide) (br_f (by decide) (br_f (by decide) (br_f (by decide) (br_t (by decide) (br_t z' h)))))))))))
      · rw [← pk_sub z] at h
        exact br_f (by decide) (br_f (by decide) (br_f (by decide) (br_f (by decide) (br_f (by decide) (br_f (by decide) (br_f (by decide) (br_f (by decide) (br_t z' h))))))))
    · have z' : ¬ nI x ≤ nI y := nI_ge (by omega) (by omega)
      refine ⟨x - y, by omega, fun post h => ?_, fun post h => ?_⟩
      · rw [← pk_sub (show y ≤ x by omega)] at h
        exact br_f (by decide) (br_f (by decide) (br_f (by decide) (br_f (by decide) (br_f (by decide) (br_f (by decide) (br_f (by decide) (br_f (by decide) (br_f (by decide) (br_f (by decide) (br_t (by decide) (br_f z' h)))))))))))
      · rw [← pk_sub (show y ≤ x by omega)] at h
        exact br_f (by decide) (br_f (by decide) (br_f (by decide) (br_f (by decide) (br_f (by decide) (br_f (by decide) (br_f (by decide) (br_f (by decide) (br_f z' h))))))))
theorem tr_pair {k x y : Nat} (hk : k ≤ 10) (hx : x ≤ 127) (hy : y ≤ 127) {l g : Int32} (hG : tr_G l g) (a b : Nat → Int32) : ∃ l' g' : Int32, tr_G l' g' ∧ (∀ post : SX → Prop, post (l', g', a, b) → wpX_gatherResultsOfPair post (l, g, a, b) (nI k) (nI x) (nI y)) ∧ (∀ post : SY → Prop, post (l', g', a, b) → wpY_pair post (l, g, a, b) (nI k) (nI x) (nI y)) := by
  by_cases h9 : k = 9
  · subst h9
    refine ⟨_, _, tr_G_go (tr_G_go hG hx) hy, fun post h => br_t (by decide) ?_, fun post h => br_t (by decide) (br_t (by decide) ?_)⟩
    · exact tr_gX _ l g a b (nI x) (tr_gX _ _ _ a b (nI y) h)
    · exact tr_gY _ l g a b (nI x) (tr_gY _ _ _ a b (nI y) h)
  by_cases h10 : k = 10
  · subst h10
    by_cases z : x = y
    · have z' : nI x = nI y := by rw [z]
      refine ⟨_, _, tr_G_go hG hx, fun post h => br_f (by decide) (br_t (by decide) (br_t z' ?_)), fun post h => br_t (by decide) (br_f (by decide) (br_t z' ?_))⟩
      · exact tr_gX _ l g a b (nI x) h
      · exact tr_gY _ l g a b (nI x) h
    · have z' : ¬ nI x = nI y := fun e => z ((nI_eq (by omega) (by omega)).mp e)
      exact ⟨l, g, hG, fun post h => br_f (by decide) (br_t (by decide) (br_f z' h)), fun post h => br_t (by decide) (br_f (by decide) (br_f z' h))⟩
  have n9 : ¬ nI k = 9 := fun e => h9 ((nI_eq (b := 9) (by omega) (by omega)).mp e)
  have n10 : ¬ nI k = 10 := fun e => h10 ((nI_eq (b := 10) (by omega) (by omega)).mp e)
  have n8 : ¬ (8 : Int32) < nI k := nI_nlt (a := 8) (by omega) (by omega)
  obtain ⟨r, hr, rX, rY⟩ := tr_res (k := k) (by omega) hx hy
  refine ⟨_, _, tr_G_go hG hr, fun post h => br_f n9 (br_f n10 (rX _ ?_)), fun post h => br_f n8 (rY _ ?_)⟩
  · exact tr_gX _ l g a b (nI r) h
  · exact tr_gY _ l g a b (nI r) h
end
section
theorem tr_in {k x t : Nat} (hk : k ≤ 10) (hx : x ≤ 127) (ht : t ≤ 127) (lo hi : Nat → Int32) (x1 x4 x5 y1 y3 y4 : Int32) (hy : vp_in y4 6) (hyt : hi y4.toNatClampNeg = nI t) : ∀ d j : Nat, j + d = t + 1 → ∀ l g : Int32, tr_G l g → ∃ l' g' : Int32, tr_G l' g' ∧ (∀ (post : Int32 → SX → Prop) (J : Int32 → Int32 → Int32 → (Nat → Int32) → (Nat → Int32) → Prop), J (nI (x + 1)) l' g' lo hi → wX_combine_81 post J x1 (nI k) x4 x5 (nI t) (nI x) (d + 1) (nI j) l g lo hi) ∧ (∀ (post : Int32 → SY → Prop) (J : Int32 → Int32 → Int32 → (Nat → Int32) → (Nat → Int32) → Prop), J (nI (x + 1)) l' g' lo hi → wY_combine_74 post J y1 (nI k) y3 y4 (nI x) (d + 1) (nI j) l g lo hi) := by
  intro d
  induction d with
  | zero =>
    intro j hj l g hG
    have c : nI t < nI j := nI_lt (by omega) (by omega)
    have c' : hi y4.toNatClampNeg < nI j := by rw [hyt]; exact c
    exact ⟨l, g, hG, fun post J h => br_t c (nm_r (nI_1 x) h), fun post J h => ⟨hy, br_t c' (nm_r (nI_1 x) h)⟩⟩
  | succ d ih =>
    intro j hj l g hG
    have c : ¬ nI t < nI j := nI_nlt (by omega) (by omega)
    have c' : ¬ hi y4.toNatClampNeg < nI j := by rw [hyt]; exact c
    obtain ⟨l1, g1, hG1, pX, pY⟩ := tr_pair hk hx (show j ≤ 127 by omega) hG lo hi
    obtain ⟨l2, g2, hG2, hX, hY⟩ := ih (j + 1) (by omega) l1 g1 hG1
    refine ⟨l2, g2, hG2, fun post J h => br_f c (pX _ ?_), fun post J h => ⟨hy, br_f c' (pY _ ?_)⟩⟩
    · exact nm_r (nI_1 j) (hX post J h)
    · exact nm_r (nI_1 j) (hY post J h)
theorem tr_out {k s q t jd : Nat} (hk : k ≤ 10) (hq : q ≤ 127) (hst : s ≤ t) (ht : t ≤ 127) (hd : jd < 6) {lo hi : Nat → Int32} (hO : tr_OK lo hi) (y3 y4 : Int32) (h3 : vp_in y3 6) (h4 : vp_in y4 6) (hq3 : hi y3.toNatClampNeg = nI q) (hs4 : lo y4.toNatClampNeg = nI s) (ht4 : hi y4.toNatClampNeg = nI t) : ∀ d j : Nat, j + d = q + 1 → ∀ l g : Int32, tr_G l g → ∃ (r l' g' : Int32) (lo' hi' : Nat → Int32), tr_OK lo' hi' ∧ (∀ post : Int32 → SX → Prop, post r (l', g', lo', hi') → wX_combine_65 post (nI jd) (nI k) y4 (nI q) (nI t) (d + 1) (nI j) l g lo hi) ∧ (∀ post : Int32 → SY → Prop, post r (l', g', lo', hi') → wY_combine_54 post (nI jd) (nI k) y3 y4 (d + 1) (nI j) l g lo hi) := by
  intro d
  induction d with
  | zero =>
    intro j hj l g hG
    have c : nI q < nI j := nI_lt (by omega) (by omega)
    have c' : hi y3.toNatClampNeg < nI j := by rw [hq3]; exact c
    obtain ⟨r, lo', hi', hO', kX, kY⟩ := tr_keep hG hO hd
    exact ⟨r, l, g, lo', hi', hO', fun post h => br_t c (kX _ h), fun post h => ⟨h3, br_t c' (kY _ h)⟩⟩
  | succ d ih =>
    intro j hj l g hG
    have c : ¬ nI q < nI j := nI_nlt (by omega) (by omega)
    have c' : ¬ hi y3.toNatClampNeg < nI j := by rw [hq3]; exact c
    obtain ⟨l1, g1, hG1, iX, iY⟩ := tr_in hk (show j ≤ 127 by omega) ht lo hi (nI jd) y4 (nI q) (nI jd) y3 y4 h4 ht4 (t + 1 - s) s (by omega) l g hG
    obtain ⟨r, l2, g2, lo', hi', hO', oX, oY⟩ := ih (j + 1) (by omega) l1 g1 hG1
    refine ⟨r, l2, g2, lo', hi', hO', fun post h => br_f c ⟨h4, nm_r hs4 ⟨t + 1 - s + 1, ?_⟩⟩, fun post h => ⟨h3, br_f c' ⟨h4, nm_r hs4 ⟨t + 1 - s + 1, ?_⟩⟩⟩⟩
    · exact iX post _ (oX post h)
    · exact iY post _ (oY post h)
theorem tr_combine {l g : Int32} {lo hi : Nat → Int32} (hO : tr_OK lo hi) (v1 v2 v3 v4 : Int32) : ∃ (r l' g' : Int32) (lo' hi' : Nat → Int32), tr_OK lo' hi' ∧ (∀ post : Int32 → SX → Prop, post r (l', g', lo', hi') → wpX_combine post (l, g, lo, hi) v1 v2 v3 v4) ∧ (∀ post : Int32 → SY → Prop, post r (l', g', lo', hi') → wpY_combine post (l, g, lo, hi) v1 v2 v3 v4) := by
  have n1 : ¬ (1 : Int32) = 0 := by decide
  unfold wpX_combine wpY_combine
  dsimp only
  rcases tr_reg v1 with ⟨X1, Y1⟩ | ⟨j1, h1, rfl, X1, Y1⟩
  · exact ⟨-1, l, g, lo, hi, hO, fun post h => X1 _ (br_t rfl h), fun post h => Y1 _ (br_f n1 h)⟩
  rcases tr_reg v3 with ⟨X3, Y3⟩ | ⟨j3, h3, rfl, X3, Y3⟩
  · exact ⟨-1, l, g, lo, hi, hO, fun post h => X1 _ (br_f n1 (X3 _ (br_t rfl h))), fun post h => Y1 _ (br_t rfl (Y3 _ (br_f n1 h)))⟩
  rcases tr_reg v4 with ⟨X4, Y4⟩ | ⟨j4, h4, rfl, X4, Y4⟩
  · exact ⟨-1, l, g, lo, hi, hO, fun post h => X1 _ (br_f n1 (X3 _ (br_f n1 (X4 _ (br_t rfl h))))), fun post h => Y1 _ (br_t rfl (Y3 _ (br_t rfl (Y4 _ (br_f n1 h)))))⟩
  by_cases k0 : v2 < 0
  · exact ⟨-1, l, g, lo, hi, hO, fun post h => X1 _ (br_f n1 (X3 _ (br_f n1 (X4 _ (br_f n1 (br_t k0 h)))))), fun post h => Y1 _ (br_t rfl (Y3 _ (br_t rfl (Y4 _ (br_t rfl (br_t k0 h))))))⟩
  by_cases k1 : v2 ≤ 10
  · obtain ⟨k, hk, rfl⟩ := nI_of k0
    have hk10 : k ≤ 10 := (nI_leI (b := 10) hk (by omega)).mp k1
    have i3 : vp_in (nI j3) 6 := vp_in_nI h3 (by omega)
    have i4 : vp_in (nI j4) 6 := vp_in_nI h4 (by omega)
    obtain ⟨p, q, ep, eq, hpq, hq⟩ := tr_at hO h3
    obtain ⟨s, t, es, et, hst, ht⟩ := tr_at hO h4
    obtain ⟨r, l', g', lo', hi', hO', oX, oY⟩ := tr_out hk10 hq hst ht h1 hO (nI j3) (nI j4) i3 i4 eq es et (q + 1 - p) p (by omega) 128 (-1) (Or.inl ⟨rfl, rfl⟩)
    refine ⟨r, l', g', lo', hi', hO', fun post h => X1 _ (br_f n1 (X3 _ (br_f n1 (X4 _ (br_f n1 (br_f k0 (br_t k1 ?_))))))), fun post h => Y1 _ (br_t rfl (Y3 _ (br_t rfl (Y4 _ (br_t rfl (br_f k0 (br_t k1 ?_)))))))⟩
    · exact ⟨i3, nm_r eq ⟨i4, nm_r et ⟨i3, nm_r ep ⟨_, oX post h⟩⟩⟩⟩
    · exact ⟨i3, nm_r ep ⟨_, oY post h⟩⟩
  · exact ⟨-1, l, g, lo, hi, hO, fun post h => X1 _ (br_f n1 (X3 _ (br_f n1 (X4 _ (br_f n1 (br_f k0 (br_f k1 h))))))), fun post h => Y1 _ (br_t rfl (Y3 _ (br_t rfl (Y4 _ (br_t rfl (br_f k0 (br_f k1 h)))))))⟩
end
section
def tr_on (x0 : Int32) : Nat → Int32 → Nat → Int32
  | 0, c, _ => c
  | d + 1, c, j => tr_on x0 d (c + ((x0 >>> (nI j &&& 31)) &&& 1)) (j + 1)
def tr_rx (x0 : Int32) : Nat → Int32 → Nat → Int32
  | 0, c, _ => c
  | d + 1, c, j => tr_rx x0 d ((c <<< ((1 : Int32) &&& 31)) ||| ((x0 >>> (nI j &&& 31)) &&& 1)) (j + 1)
def tr_ry (x0 : Int32) : Nat → Int32 → Nat → Int32
  | 0, c, _ => c
  | d + 1, c, j => tr_ry x0 d (c ||| (((x0 >>> (nI j &&& 31)) &&& 1) <<< ((6 - nI j) &&& 31))) (j + 1)
def tr_sx (x0 : Int32) : Nat → Int32 → Nat → Int32
  | 0, c, _ => c
  | d + 1, c, j => tr_sx x0 d (if x0 < nI j * nI j then c else nI j) (j + 1)
def tr_sy (x0 : Int32) : Nat → Nat → Option Int32
  | 0, _ => none
  | d + 1, j => if x0 < (nI j + 1) * (nI j + 1) then some (nI j) else if 12 ≤ nI j then some (nI j) else tr_sy x0 d (j + 1)
theorem tr_onX (x0 : Int32) (post : Int32 → Prop) : ∀ (d j : Nat) (c : Int32), j + d = 7 → post (tr_on x0 d c j) → wX_onesOf_4 post x0 (d + 1) c (nI j) := by
  intro d
  induction d with
  | zero =>
    intro j c hj h
    exact br_t (nI_le (a := 7) (by omega) (by omega)) h
  | succ d ih =>
    intro j c hj h
    exact br_f (nI_ge (b := 7) (by omega) (by omega)) (nm_e (nm_r (nI_1 j) (ih (j + 1) _ (by omega) h)))
theorem tr_onY (x0 : Int32) (post : Int32 → Prop) : ∀ (d j : Nat) (c : Int32), j + d = 7 → post (tr_on x0 d c j) → wY_ones_4 post x0 (d + 1) c (nI j) := by
  intro d
  induction d with
  | zero =>
    intro j c hj h
    exact br_t (nI_le (a := 7) (by omega) (by omega)) h
  | succ d ih =>
    intro j c hj h
    exact br_f (nI_ge (b := 7) (by omega) (by omega)) (nm_e (nm_r (nI_1 j) (ih (j + 1) _ (by omega) h)))
theorem tr_rvX (x0 : Int32) (post : Int32 → Prop) : ∀ (d j : Nat) (c : Int32), j + d = 7 → post (tr_rx x0 d c j) → wX_reverseOf_4 post x0 (d + 1) c (nI j) := by
  intro d
  induction d with
  | zero =>
    intro j c hj h
    exact br_t (nI_le (a := 7) (by omega) (by omega)) h
  | succ d ih =>
    intro j c hj h
    exact br_f (nI_ge (b := 7) (by omega) (by omega)) (nm_e (nm_r (nI_1 j) (ih (j + 1) _ (by omega) h)))
theorem tr_rvY (x0 : Int32) (post : Int32 → Prop) : ∀ (d j : Nat) (c : Int32), j + d = 7 → post (tr_ry x0 d c j) → wY_reversed_4 post x0 (d + 1) c (nI j) := by
  intro d
  induction d with
  | zero =>
    intro j c hj h
    exact br_t (nI_le (a := 7) (by omega) (by omega)) h
  | succ d ih =>
    intro j c hj h
    exact br_f (nI_ge (b := 7) (by omega) (by omega)) (nm_e (nm_r (nI_1 j) (ih (j + 1) _ (by omega) h)))
theorem tr_rtX (x0 : Int32) (post : Int32 → Prop) : ∀ (d j : Nat) (c : Int32), j + d = 12 → post (tr_sx x0 d c j) → wX_rootOf_4 post x0 (d + 1) c (nI j) := by
  intro d
  induction d with
  | zero =>
    intro j c hj h
    exact br_t (nI_lt (a := 11) (by omega) (by omega)) h
  | succ d ih =>
    intro j c hj h
    refine br_f (nI_nlt (a := 11) (by omega) (by omega)) ?_
    by_cases z : x0 < nI j * nI j
    · have h' : post (tr_sx x0 d c (j + 1)) := by
        have e : tr_sx x0 (d + 1) c j = tr_sx x0 d c (j + 1) := by rw [tr_sx, if_pos z]
        rw [← e]; exact h
      exact br_t z (nm_r (nI_1 j) (ih (j + 1) c (by omega) h'))
    · have h' : post (tr_sx x0 d (nI j) (j + 1)) := by
        have e : tr_sx x0 (d + 1) c j = tr_sx x0 d (nI j) (j + 1) := by rw [tr_sx, if_neg z]
        rw [← e]; exact h
      exact br_f z (nm_r (nI_1 j) (ih (j + 1) (nI j) (by omega) h'))
theorem tr_rtY (x0 : Int32) (post : Int32 → Prop) : ∀ (d j : Nat) (r : Int32), tr_sy x0 d j = some r → post r → wY_root_2 post x0 d (nI j) := by
  intro d
  induction d with
  | zero =>
    intro j r e h
    exact nomatch e
  | succ d ih =>
    intro j r e h
    by_cases z : x0 < (nI j + 1) * (nI j + 1)
    · rw [tr_sy, if_pos z] at e
      cases e
      exact br_t z h
    · rw [tr_sy, if_neg z] at e
      refine br_f z ?_
      by_cases w : (12 : Int32) ≤ nI j
      · rw [if_pos w] at e
        cases e
        exact br_t w h
      · rw [if_neg w] at e
        exact br_f w (nm_r (nI_1 j) (ih (j + 1) r e h))
theorem tr_onT : ∀ x, x < 128 → tr_on (nI x) 7 0 0 = nI (tr_on (nI x) 7 0 0).toNatClampNeg ∧ (tr_on (nI x) 7 0 0).toNatClampNeg ≤ 127 := by decide +kernel
theorem tr_rvT : ∀ x, x < 128 → tr_rx (nI x) 7 0 0 = nI (tr_rx (nI x) 7 0 0).toNatClampNeg ∧ (tr_rx (nI x) 7 0 0).toNatClampNeg ≤ 127 ∧ tr_ry (nI x) 7 0 0 = tr_rx (nI x) 7 0 0 := by decide +kernel
theorem tr_rtT : ∀ x, x < 128 → tr_sx (nI x) 11 0 1 = nI (tr_sx (nI x) 11 0 1).toNatClampNeg ∧ (tr_sx (nI x) 11 0 1).toNatClampNeg ≤ 127 ∧ tr_sy (nI x) 13 0 = some (tr_sx (nI x) 11 0 1) := by decide +kernel
theorem tr_w4 {x : Nat} (hx : x ≤ 127) : (2 * nI x) - (2 * nI x) / 128 * 128 = nI ((2 * x) % 128) := by
  have e : 2 * nI x = nI (2 * x) := pk_mul 2 x
  rw [e]
  exact pk_rem (d := 128) (by omega) (by omega) (by omega)
theorem tr_num {k x : Nat} (hk : k ≤ 4) (hx : x ≤ 127) : ∃ r : Nat, r ≤ 127 ∧ (∀ post : Int32 → Prop, post (nI r) → wpX_resultOfNumber post (nI k) (nI x)) ∧ (∀ post : Int32 → Prop, post (nI r) → wpY_single post (nI k) (nI x)) := by
  have d0 : ¬ (128 : Int32) = 0 := by decide
  match k, hk with
  | 0, _ =>
    have e : (127 : Int32) - nI x = nI (127 - x) := pk_sub (a := 127) hx
    refine ⟨127 - x, by omega, fun post h => ?_, fun post h => ?_⟩
    · rw [← e] at h
      exact br_f (by decide) (br_f (by decide) (br_t (by decide) h))
    · rw [← e] at h
      exact br_t (by decide) h
  | 1, _ =>
    obtain ⟨e, hr⟩ := tr_onT x (by omega)
    refine ⟨_, hr, fun post h => ?_, fun post h => ?_⟩
    · rw [← e] at h
      exact br_f (by decide) (br_f (by decide) (br_f (by decide) (br_t (by decide) ⟨8, tr_onX (nI x) post 7 0 0 rfl h⟩)))
    · rw [← e] at h
      exact br_f (by decide) (br_t (by decide) ⟨8, tr_onY (nI x) post 7 0 0 rfl h⟩)
  | 2, _ =>
    obtain ⟨e, hr, e2⟩ := tr_rvT x (by omega)
    refine ⟨_, hr, fun post h => ?_, fun post h => ?_⟩
    · rw [← e] at h
      exact br_f (by decide) (br_f (by decide) (br_f (by decide) (br_f (by decide) (br_t (by decide) ⟨8, tr_rvX (nI x) post 7 0 0 rfl h⟩))))
    · rw [← e, ← e2] at h
      exact br_f (by decide) (br_f (by decide) (br_t (by decide) ⟨8, tr_rvY (nI x) post 7 0 0 rfl h⟩))
  | 3, _ =>
    obtain ⟨e, hr, e2⟩ := tr_rtT x (by omega)
    refine ⟨_, hr, fun post h => ?_, fun post h => ?_⟩
    · rw [← e] at h
      exact br_f (by decide) (br_f (by decide) (br_f (by decide) (br_f (by decide) (br_f (by decide) (br_t (by decide) ⟨12, tr_rtX (nI x) post 11 1 0 rfl h⟩)))))
    · rw [← e] at h
      exact br_f (by decide) (br_f (by decide) (br_f (by decide) (br_t (by decide) ⟨13, tr_rtY (nI x) post 13 0 _ e2 h⟩)))
  | 4, _ =>
    refine ⟨(2 * x) % 128, by omega, fun post h => ?_, fun post h => ?_⟩
    · rw [← tr_w4 hx] at h
      exact br_f (by decide) (br_f (by decide) (br_f (by decide) (br_f (by decide) (br_f (by decide) (br_f (by decide) (br_t (by decide) ⟨d0, h⟩))))))
    · rw [← tr_w4 hx] at h
      exact br_f (by decide) (br_f (by decide) (br_f (by decide) (br_f (by decide) ⟨d0, h⟩)))
theorem tr_aloop {k q jd : Nat} (hk : k ≤ 4) (hq : q ≤ 127) (hd : jd < 6) {lo hi : Nat → Int32} (hO : tr_OK lo hi) (y3 : Int32) (h3 : vp_in y3 6) (hq3 : hi y3.toNatClampNeg = nI q) : ∀ d j : Nat, j + d = q + 1 → ∀ l g : Int32, tr_G l g → ∃ (r l' g' : Int32) (lo' hi' : Nat → Int32), tr_OK lo' hi' ∧ (∀ post : Int32 → SX → Prop, post r (l', g', lo', hi') → wX_apply_47 post (nI jd) (nI k) (nI q) (d + 1) (nI j) l g lo hi) ∧ (∀ post : Int32 → SY → Prop, post r (l', g', lo', hi') → wY_apply_45 post (nI jd) (nI k) y3 (d + 1) (nI j) l g lo hi) := by
  intro d
  induction d with
  | zero =>
    intro j hj l g hG
    have c : nI q < nI j := nI_lt (by omega) (by omega)
    have c' : hi y3.toNatClampNeg < nI j := by rw [hq3]; exact c
    obtain ⟨r, lo', hi', hO', kX, kY⟩ := tr_keep hG hO hd
    exact ⟨r, l, g, lo', hi', hO', fun post h => br_t c (kX _ h), fun post h => ⟨h3, br_t c' (kY _ h)⟩⟩
  | succ d ih =>
    intro j hj l g hG
    have c : ¬ nI q < nI j := nI_nlt (by omega) (by omega)
    have c' : ¬ hi y3.toNatClampNeg < nI j := by rw [hq3]; exact c
    obtain ⟨v, hv, nX, nY⟩ := tr_num hk (show j ≤ 127 by omega)
    obtain ⟨r, l2, g2, lo', hi', hO', oX, oY⟩ := ih (j + 1) (by omega) _ _ (tr_G_go hG hv)
    refine ⟨r, l2, g2, lo', hi', hO', fun post h => br_f c (nX _ ?_), fun post h => ⟨h3, br_f c' (nY _ ?_)⟩⟩
    · exact tr_gX _ l g lo hi (nI v) (nm_r (nI_1 j) (oX post h))
    · exact tr_gY _ l g lo hi (nI v) (nm_r (nI_1 j) (oY post h))
theorem tr_apply {l g : Int32} {lo hi : Nat → Int32} (hO : tr_OK lo hi) (v1 v2 v3 : Int32) : ∃ (r l' g' : Int32) (lo' hi' : Nat → Int32), tr_OK lo' hi' ∧ (∀ post : Int32 → SX → Prop, post r (l', g', lo', hi') → wpX_apply post (l, g, lo, hi) v1 v2 v3) ∧ (∀ post : Int32 → SY → Prop, post r (l', g', lo', hi') → wpY_apply post (l, g, lo, hi) v1 v2 v3) := by
  have n1 : ¬ (1 : Int32) = 0 := by decide
  unfold wpX_apply wpY_apply
  dsimp only
  rcases tr_reg v1 with ⟨X1, Y1⟩ | ⟨j1, h1, rfl, X1, Y1⟩
  · exact ⟨-1, l, g, lo, hi, hO, fun post h => X1 _ (br_t rfl h), fun post h => Y1 _ (br_f n1 h)⟩
  rcases tr_reg v3 with ⟨X3, Y3⟩ | ⟨j3, h3, rfl, X3, Y3⟩
  · exact ⟨-1, l, g, lo, hi, hO, fun post h => X1 _ (br_f n1 (X3 _ (br_t rfl h))), fun post h => Y1 _ (br_t rfl (Y3 _ (br_f n1 h)))⟩
  by_cases k0 : v2 < 0
  · exact ⟨-1, l, g, lo, hi, hO, fun post h => X1 _ (br_f n1 (X3 _ (br_f n1 (br_t k0 h)))), fun post h => Y1 _ (br_t rfl (Y3 _ (br_t rfl (br_t k0 h))))⟩
  by_cases k1 : v2 ≤ 4
  · obtain ⟨k, hk, rfl⟩ := nI_of k0
    have hk4 : k ≤ 4 := (nI_leI (b := 4) hk (by omega)).mp k1
    have i3 : vp_in (nI j3) 6 := vp_in_nI h3 (by omega)
    obtain ⟨p, q, ep, eq, hpq, hq⟩ := tr_at hO h3
    obtain ⟨r, l', g', lo', hi', hO', oX, oY⟩ := tr_aloop hk4 hq h1 hO (nI j3) i3 eq (q + 1 - p) p (by omega) 128 (-1) (Or.inl ⟨rfl, rfl⟩)
    refine ⟨r, l', g', lo', hi', hO', fun post h => X1 _ (br_f n1 (X3 _ (br_f n1 (br_f k0 (br_t k1 ?_))))), fun post h => Y1 _ (br_t rfl (Y3 _ (br_t rfl (br_f k0 (br_t k1 ?_)))))⟩
    · exact ⟨i3, nm_r eq ⟨i3, nm_r ep ⟨_, oX post h⟩⟩⟩
    · exact ⟨i3, nm_r ep ⟨_, oY post h⟩⟩
  · exact ⟨-1, l, g, lo, hi, hO, fun post h => X1 _ (br_f n1 (X3 _ (br_f n1 (br_f k0 (br_f k1 h))))), fun post h => Y1 _ (br_t rfl (Y3 _ (br_t rfl (br_f k0 (br_f k1 h)))))⟩
end
section
theorem tr_lin {x t : Nat} (hx : x ≤ 127) (ht : t ≤ 127) (f1 f2 : Int32) (lo hi : Nat → Int32) (y1 y2 : Int32) (h2 : vp_in y2 6) (ht2 : hi y2.toNatClampNeg = nI t) (post : Int32 → Prop) (J : Int32 → Int32 → Int32 → Prop) : ∀ (d j : Nat), j + d = t + 1 → ∀ a s : Int32, J (if j ≤ x ∧ j ≤ t then 0 else a) (if x < t ∧ j ≤ t then 1 else s) (nI (x + 1)) → wY_less_48 post J y1 y2 (nI x) f1 f2 lo hi (d + 1) a s (nI j) := by
  intro d
  induction d with
  | zero =>
    intro j hj a s h
    have c : nI t < nI j := nI_lt (by omega) (by omega)
    have c' : hi y2.toNatClampNeg < nI j := by rw [ht2]; exact c
    rw [if_neg (by omega), if_neg (by omega)] at h
    exact ⟨h2, br_t c' (nm_r (nI_1 x) h)⟩
  | succ d ih =>
    intro j hj a s h
    have c : ¬ nI t < nI j := nI_nlt (by omega) (by omega)
    have c' : ¬ hi y2.toNatClampNeg < nI j := by rw [ht2]; exact c
    by_cases z : j ≤ x
    · have z' : nI j ≤ nI x := nI_le z (by omega)
      refine ⟨h2, br_f c' (br_t z' (nm_r (nI_1 j) (ih (j + 1) (by omega) 0 s ?_)))⟩
      have e1 : (if j ≤ x ∧ j ≤ t then (0 : Int32) else a) = (if j + 1 ≤ x ∧ j + 1 ≤ t then 0 else 0) := by
        rw [if_pos (by omega)]; split <;> rfl
      have e2 : (if x < t ∧ j ≤ t then (1 : Int32) else s) = (if x < t ∧ j + 1 ≤ t then 1 else s) := by
        by_cases w : x < t
        · rw [if_pos (by omega), if_pos (by omega)]
        · rw [if_neg (by omega), if_neg (by omega)]
      rw [← e1, ← e2]
      exact h
    · have z' : ¬ nI j ≤ nI x := nI_ge (by omega) (by omega)
      refine ⟨h2, br_f c' (br_f z' (nm_r (nI_1 j) (ih (j + 1) (by omega) a 1 ?_)))⟩
      have e1 : (if j ≤ x ∧ j ≤ t then (0 : Int32) else a) = (if j + 1 ≤ x ∧ j + 1 ≤ t then 0 else a) := by
        rw [if_neg (by omega), if_neg (by omega)]
      have e2 : (if x < t ∧ j ≤ t then (1 : Int32) else s) = (if x < t ∧ j + 1 ≤ t then 1 else 1) := by
        rw [if_pos (by omega)]; split <;> rfl
      rw [← e1, ← e2]
      exact h
def tr_lans (a s : Int32) : Int32 := if a = 0 then (if s = 0 then 0 else 2) else 1
theorem tr_lout {q s t : Nat} (hq : q ≤ 127) (hst : s ≤ t) (ht : t ≤ 127) (f1 f2 : Int32) (lo hi : Nat → Int32) (y1 y2 : Int32) (h1 : vp_in y1 6) (h2 : vp_in y2 6) (hq1 : hi y1.toNatClampNeg = nI q) (hs2 : lo y2.toNatClampNeg = nI s) (ht2 : hi y2.toNatClampNeg = nI t) (post : Int32 → Prop) : ∀ (d j : Nat), j + d = q + 1 → ∀ a b : Int32, post (tr_lans (if s ≤ q ∧ j ≤ q then 0 else a) (if j < t ∧ j ≤ q then 1 else b)) → wY_less_29 post y1 y2 f1 f2 lo hi (d + 1) a b (nI j) := by
  intro d
  induction d with
  | zero =>
    intro j hj a b h
    have c : nI q < nI j := nI_lt (by omega) (by omega)
    have c' : hi y1.toNatClampNeg < nI j := by rw [hq1]; exact c
    rw [if_neg (by omega), if_neg (by omega)] at h
    unfold tr_lans at h
    refine ⟨h1, br_t c' ?_⟩
    by_cases z : a = 0
    · rw [if_pos z] at h
      by_cases w : b = 0
      · rw [if_pos w] at h
        exact br_t z (br_t w h)
      · rw [if_neg w] at h
        exact br_t z (br_f w h)
    · rw [if_neg z] at h
      exact br_f z h
  | succ d ih =>
    intro j hj a b h
    have c : ¬ nI q < nI j := nI_nlt (by omega) (by omega)
    have c' : ¬ hi y1.toNatClampNeg < nI j := by rw [hq1]; exact c
    refine ⟨h1, br_f c' ⟨h2, nm_r hs2 ⟨t + 1 - s + 1, tr_lin (show j ≤ 127 by omega) ht f1 f2 lo hi y1 y2 h2 ht2 post _ (t + 1 - s) s (by omega) a b (ih (j + 1) (by omega) _ _ ?_)⟩⟩⟩
    have e1 : (if s ≤ q ∧ j ≤ q then (0 : Int32) else a) = (if s ≤ q ∧ j + 1 ≤ q then 0 else (if s ≤ j ∧ s ≤ t then 0 else a)) := by
      by_cases w : s ≤ q
      · rw [if_pos (by omega)]
        by_cases w2 : j + 1 ≤ q
        · rw [if_pos (by omega)]
        · rw [if_neg (by omega), if_pos (by omega)]
      · rw [if_neg (by omega), if_neg (by omega), if_neg (by omega)]
    have e2 : (if j < t ∧ j ≤ q then (1 : Int32) else b) = (if j + 1 < t ∧ j + 1 ≤ q then 1 else (if j < t ∧ s ≤ t then 1 else b)) := by
      by_cases w : j < t
      · rw [if_pos (by omega)]
        by_cases w2 : j + 1 < t ∧ j + 1 ≤ q
        · rw [if_pos w2]
        · rw [if_neg w2, if_pos (by omega)]
      · rw [if_neg (by omega), if_neg (by omega), if_neg (by omega)]
    rw [← e1, ← e2]
    exact h
theorem tr_less {l g : Int32} {lo hi : Nat → Int32} (hO : tr_OK lo hi) (v1 v2 : Int32) : ∃ r : Int32, (∀ post : Int32 → Prop, post r → wpX_less post (l, g, lo, hi) v1 v2) ∧ (∀ post : Int32 → Prop, post r → wpY_less post (l, g, lo, hi) v1 v2) := by
  have n1 : ¬ (1 : Int32) = 0 := by decide
  unfold wpX_less wpY_less
  dsimp only
  rcases tr_reg v1 with ⟨X1, Y1⟩ | ⟨j1, h1, rfl, X1, Y1⟩
  · exact ⟨-1, fun post h => X1 _ (br_t rfl h), fun post h => Y1 _ (br_f n1 h)⟩
  rcases tr_reg v2 with ⟨X2, Y2⟩ | ⟨j2, h2, rfl, X2, Y2⟩
  · exact ⟨-1, fun post h => X1 _ (br_f n1 (X2 _ (br_t rfl h))), fun post h => Y1 _ (br_t rfl (Y2 _ (br_f n1 h)))⟩
  have i1 : vp_in (nI j1) 6 := vp_in_nI h1 (by omega)
  have i2 : vp_in (nI j2) 6 := vp_in_nI h2 (by omega)
  obtain ⟨p, q, ep, eq, hpq, hq⟩ := tr_at hO h1
  obtain ⟨s, t, es, et, hst, ht⟩ := tr_at hO h2
  refine ⟨tr_lans (if s ≤ q ∧ p ≤ q then 0 else 1) (if p < t ∧ p ≤ q then 1 else 0), fun post h => X1 _ (br_f n1 (X2 _ (br_f n1 ⟨i1, i2, ?_⟩))), fun post h => Y1 _ (br_t rfl (Y2 _ (br_t rfl ⟨i1, nm_r ep ⟨q + 1 - p + 1, tr_lout hq hst ht l g lo hi (nI j1) (nI j2) i1 i2 eq es et post (q + 1 - p) p (by omega) 1 0 h⟩⟩)))⟩
  rw [ep, eq, es, et]
  by_cases z : s ≤ q
  · refine br_t (nI_le z (by omega)) ⟨i1, i2, ?_⟩
    rw [if_pos (by omega)] at h
    by_cases w : p < t
    · rw [if_pos (by omega)] at h
      exact br_t (nI_lt w (by omega)) h
    · rw [if_neg (by omega)] at h
      exact br_f (nI_nlt (by omega) (by omega)) h
  · refine br_f (nI_ge (by omega) (by omega)) ?_
    rw [if_neg (by omega)] at h
    exact h
theorem tr_pin {x t : Nat} (hx : x ≤ 127) (ht : t ≤ 127) (f1 f2 : Int32) (lo hi : Nat → Int32) (x2 x4 y1 y2 : Int32) (h2 : vp_in y2 6) (ht2 : hi y2.toNatClampNeg = nI t) : ∀ (d j : Nat), j + d = t + 1 → ∀ c : Int32, ∃ c' : Int32, (∀ (post : Int32 → Prop) (J : Int32 → Int32 → Prop), J c' (nI (x + 1)) → wX_apart_57 post J x2 x4 (nI t) (nI x) f1 f2 lo hi (d + 1) c (nI j)) ∧ (∀ (post : Int32 → Prop) (J : Int32 → Int32 → Prop), J c' (nI (x + 1)) → wY_apart_45 post J y1 y2 (nI x) f1 f2 lo hi (d + 1) c (nI j)) := by
  intro d
  induction d with
  | zero =>
    intro j hj c
    have k : nI t < nI j := nI_lt (by omega) (by omega)
    have k' : hi y2.toNatClampNeg < nI j := by rw [ht2]; exact k
    exact ⟨c, fun post J h => br_t k (nm_r (nI_1 x) h), fun post J h => ⟨h2, br_t k' (nm_r (nI_1 x) h)⟩⟩
  | succ d ih =>
    intro j hj c
    have k : ¬ nI t < nI j := nI_nlt (by omega) (by omega)
    have k' : ¬ hi y2.toNatClampNeg < nI j := by rw [ht2]; exact k
    by_cases z : nI x &&& nI j = 0
    · obtain ⟨c', hX, hY⟩ := ih (j + 1) (by omega) (c + 1)
      exact ⟨c', fun post J h => br_f k (br_t z (nm_e (nm_r (nI_1 j) (hX post J h)))), fun post J h => ⟨h2, br_f k' (br_t z (nm_e (nm_r (nI_1 j) (hY post J h))))⟩⟩
    · obtain ⟨c', hX, hY⟩ := ih (j + 1) (by omega) c
      exact ⟨c', fun post J h => br_f k (br_f z (nm_r (nI_1 j) (hX post J h))), fun post J h => ⟨h2, br_f k' (br_f z (nm_r (nI_1 j) (hY post J h)))⟩⟩
theorem tr_pout {q s t : Nat} (hq : q ≤ 127) (hst : s ≤ t) (ht : t ≤ 127) (f1 f2 : Int32) (lo hi : Nat → Int32) (y1 y2 : Int32) (h1 : vp_in y1 6) (h2 : vp_in y2 6) (hq1 : hi y1.toNatClampNeg = nI q) (hs2 : lo y2.toNatClampNeg = nI s) (ht2 : hi y2.toNatClampNeg = nI t) : ∀ (d j : Nat), j + d = q + 1 → ∀ c : Int32, ∃ c' : Int32, (∀ post : Int32 → Prop, post c' → wX_apart_42 post y2 (nI q) (nI t) f1 f2 lo hi (d + 1) c (nI j)) ∧ (∀ post : Int32 → Prop, post c' → wY_apart_26 post y1 y2 f1 f2 lo hi (d + 1) c (nI j)) := by
  intro d
  induction d with
  | zero =>
    intro j hj c
    have k : nI q < nI j := nI_lt (by omega) (by omega)
    have k' : hi y1.toNatClampNeg < nI j := by rw [hq1]; exact k
    exact ⟨c, fun post h => br_t k h, fun post h => ⟨h1, br_t k' h⟩⟩
  | succ d ih =>
    intro j hj c
    have k : ¬ nI q < nI j := nI_nlt (by omega) (by omega)
    have k' : ¬ hi y1.toNatClampNeg < nI j := by rw [hq1]; exact k
    obtain ⟨c1, iX, iY⟩ := tr_pin (show j ≤ 127 by omega) ht f1 f2 lo hi y2 (nI q) y1 y2 h2 ht2 (t + 1 - s) s (by omega) c
    obtain ⟨c2, oX, oY⟩ := ih (j + 1) (by omega) c1
    exact ⟨c2, fun post h => br_f k ⟨h2, nm_r hs2 ⟨t + 1 - s + 1, iX post _ (oX post h)⟩⟩, fun post h => ⟨h1, br_f k' ⟨h2, nm_r hs2 ⟨t + 1 - s + 1, iY post _ (oY post h)⟩⟩⟩⟩
theorem tr_apart {l g : Int32} {lo hi : Nat → Int32} (hO : tr_OK lo hi) (v1 v2 : Int32) : ∃ r : Int32, (∀ post : Int32 → Prop, post r → wpX_apart post (l, g, lo, hi) v1 v2) ∧ (∀ post : Int32 → Prop, post r → wpY_apart post (l, g, lo, hi) v1 v2) := by
  have n1 : ¬ (1 : Int32) = 0 := by decide
  unfold wpX_apart wpY_apart
  dsimp only
  rcases tr_reg v1 with ⟨X1, Y1⟩ | ⟨j1, h1, rfl, X1, Y1⟩
  · exact ⟨-1, fun post h => X1 _ (br_t rfl h), fun post h => Y1 _ (br_f n1 h)⟩
  rcases tr_reg v2 with ⟨X2, Y2⟩ | ⟨j2, h2, rfl, X2, Y2⟩
  · exact ⟨-1, fun post h => X1 _ (br_f n1 (X2 _ (br_t rfl h))), fun post h => Y1 _ (br_t rfl (Y2 _ (br_f n1 h)))⟩
  have i1 : vp_in (nI j1) 6 := vp_in_nI h1 (by omega)
  have i2 : vp_in (nI j2) 6 := vp_in_nI h2 (by omega)
  obtain ⟨p, q, ep, eq, hpq, hq⟩ := tr_at hO h1
  obtain ⟨s, t, es, et, hst, ht⟩ := tr_at hO h2
  obtain ⟨c, oX, oY⟩ := tr_pout hq hst ht l g lo hi (nI j1) (nI j2) i1 i2 eq es et (q + 1 - p) p (by omega) 0
  refine ⟨c, fun post h => X1 _ (br_f n1 (X2 _ (br_f n1 ?_))), fun post h => Y1 _ (br_t rfl (Y2 _ (br_t rfl ?_)))⟩
  · exact ⟨i1, nm_r eq ⟨i2, nm_r et ⟨i1, nm_r ep ⟨_, oX post h⟩⟩⟩⟩
  · exact ⟨i1, nm_r ep ⟨_, oY post h⟩⟩
end
section
def tr_h (j : Nat) : Nat → Int32 := fun i => if i < j then 127 else 0
theorem tr_h0 : tr_h 0 = fun _ => 0 := by
  funext i
  exact if_neg (Nat.not_lt_zero i)
theorem tr_hs (j : Nat) : upd (tr_h j) j 127 = tr_h (j + 1) := by
  funext i
  unfold upd tr_h
  by_cases e : i = j
  · rw [if_pos e, if_pos (by omega)]
  · rw [if_neg e]
    by_cases f : i < j
    · rw [if_pos f, if_pos (by omega)]
    · rw [if_neg f, if_neg (by omega)]
theorem tr_l0 (j : Nat) : upd (fun _ => 0) j 0 = fun _ => 0 := by
  funext i
  exact ite_self _
theorem tr_iX (post : SX → Prop) (h : post (0, 0, (fun _ => 0), tr_h 6)) : ∀ d j : Nat, j + d = 6 → wX_init_22 post 0 0 (d + 1) (nI j) (fun _ => 0) (tr_h j) := by
  intro d
  induction d with
  | zero =>
    intro j hj
    have e : j = 6 := by omega
    subst e
    exact br_t (by decide) h
  | succ d ih =>
    intro j hj
    have hi : vp_in (nI j) 6 := vp_in_nI (by omega) (by omega)
    have cl : (nI j).toNatClampNeg = j := nI_clamp (by omega)
    exact br_f (nI_ge (b := 6) (by omega) (by omega)) ⟨hi, nm_r (tr_l0 _) ⟨hi, nm_r (by rw [cl]; exact tr_hs j) (nm_r (nI_1 j) (ih (j + 1) (by omega)))⟩⟩
theorem tr_iY (post : SY → Prop) (h : post (0, 0, (fun _ => 0), tr_h 6)) : ∀ d j : Nat, j + d = 6 → wY_init_22 post 0 0 (d + 1) (nI j) (fun _ => 0) (tr_h j) := by
  intro d
  induction d with
  | zero =>
    intro j hj
    have e : j = 6 := by omega
    subst e
    exact br_t (by decide) h
  | succ d ih =>
    intro j hj
    have hi : vp_in (nI j) 6 := vp_in_nI (by omega) (by omega)
    have cl : (nI j).toNatClampNeg = j := nI_clamp (by omega)
    exact br_f (nI_ge (b := 6) (by omega) (by omega)) ⟨hi, nm_r (by rw [cl]; exact tr_hs j) (nm_r (nI_1 j) (ih (j + 1) (by omega)))⟩
theorem i_vc0 : wpX_init (fun u => wpY_init (fun v => i_Rel 0 u v)) := by
  have hO : tr_OK (fun _ => 0) (tr_h 6) := fun j hj => ⟨0, 127, rfl, if_pos hj, by omega, by omega⟩
  have hX := fun post h => tr_iX post h 6 0 rfl
  have hY := fun post h => tr_iY post h 6 0 rfl
  rw [tr_h0] at hX hY
  exact ⟨7, hX _ ⟨7, hY _ ⟨rfl, hO⟩⟩⟩
theorem tr_set {l g : Int32} {lo hi : Nat → Int32} (hO : tr_OK lo hi) (v1 v2 v3 : Int32) : ∃ (r l' g' : Int32) (lo' hi' : Nat → Int32), tr_OK lo' hi' ∧ (∀ post : Int32 → SX → Prop, post r (l', g', lo', hi') → wpX_set post (l, g, lo, hi) v1 v2 v3) ∧ (∀ post : Int32 → SY → Prop, post r (l', g', lo', hi') → wpY_set post (l, g, lo, hi) v1 v2 v3) := by
  have n1 : ¬ (1 : Int32) = 0 := by decide
  unfold wpX_set wpY_set
  dsimp only
  rcases tr_reg v1 with ⟨X1, Y1⟩ | ⟨j1, h1, rfl, X1, Y1⟩
  · exact ⟨-1, l, g, lo, hi, hO, fun post h => X1 _ (br_t rfl h), fun post h => Y1 _ (br_f n1 h)⟩
  by_cases a0 : v2 < 0
  · exact ⟨-1, l, g, lo, hi, hO, fun post h => X1 _ (br_f n1 (br_t a0 h)), fun post h => Y1 _ (br_t rfl (br_t a0 h))⟩
  by_cases a1 : v3 < v2
  · exact ⟨-1, l, g, lo, hi, hO, fun post h => X1 _ (br_f n1 (br_f a0 (br_t a1 h))), fun post h => Y1 _ (br_t rfl (br_f a0 (br_t a1 h)))⟩
  by_cases a2 : v3 ≤ 127
  · have i1 : vp_in (nI j1) 6 := vp_in_nI h1 (by omega)
    have b0 : ¬ v3 < 0 := fun z => a0 (Int32.lt_of_le_of_lt (Int32.not_lt.mp a1) z)
    obtain ⟨p, hp, rfl⟩ := nI_of a0
    obtain ⟨q, hq, rfl⟩ := nI_of b0
    have hq' : q ≤ 127 := (nI_leI (b := 127) hq (by omega)).mp a2
    have hpq : p ≤ q := by
      have z : ¬ q < p := fun w => a1 ((nI_ltI hq hp).mpr w)
      omega
    exact ⟨0, l, g, _, _, tr_upd hO (nI j1).toNatClampNeg hpq hq', fun post h => X1 _ (br_f n1 (br_f a0 (br_f a1 (br_t a2 ⟨i1, nm_e ⟨i1, nm_e h⟩⟩)))), fun post h => Y1 _ (br_t rfl (br_f a0 (br_f a1 (br_t a2 ⟨i1, nm_e ⟨i1, nm_e h⟩⟩))))⟩
  · exact ⟨-1, l, g, lo, hi, hO, fun post h => X1 _ (br_f n1 (br_f a0 (br_f a1 (br_f a2 h)))), fun post h => Y1 _ (br_t rfl (br_f a0 (br_f a1 (br_f a2 h))))⟩
theorem tr_low {l g : Int32} {lo hi : Nat → Int32} (v1 : Int32) : ∃ r : Int32, (∀ post : Int32 → Prop, post r → wpX_low post (l, g, lo, hi) v1) ∧ (∀ post : Int32 → Prop, post r → wpY_low post (l, g, lo, hi) v1) := by
  have n1 : ¬ (1 : Int32) = 0 := by decide
  unfold wpX_low wpY_low
  dsimp only
  rcases tr_reg v1 with ⟨X1, Y1⟩ | ⟨j1, h1, rfl, X1, Y1⟩
  · exact ⟨-1, fun post h => X1 _ (br_t rfl h), fun post h => Y1 _ (br_f n1 h)⟩
  · have i1 : vp_in (nI j1) 6 := vp_in_nI h1 (by omega)
    exact ⟨_, fun post h => X1 _ (br_f n1 ⟨i1, h⟩), fun post h => Y1 _ (br_t rfl ⟨i1, h⟩)⟩
theorem tr_high {l g : Int32} {lo hi : Nat → Int32} (v1 : Int32) : ∃ r : Int32, (∀ post : Int32 → Prop, post r → wpX_high post (l, g, lo, hi) v1) ∧ (∀ post : Int32 → Prop, post r → wpY_high post (l, g, lo, hi) v1) := by
  have n1 : ¬ (1 : Int32) = 0 := by decide
  unfold wpX_high wpY_high
  dsimp only
  rcases tr_reg v1 with ⟨X1, Y1⟩ | ⟨j1, h1, rfl, X1, Y1⟩
  · exact ⟨-1, fun post h => X1 _ (br_t rfl h), fun post h => Y1 _ (br_f n1 h)⟩
  · have i1 : vp_in (nI j1) 6 := vp_in_nI h1 (by omega)
    exact ⟨_, fun post h => X1 _ (br_f n1 ⟨i1, h⟩), fun post h => Y1 _ (br_t rfl ⟨i1, h⟩)⟩
end
section
theorem i_vc_set {k : Nat} {u : SX} {v : SY} (I : i_Rel k u v) (hk : k + 5 ≤ 2560) (v1 : Int32) (v2 : Int32) (v3 : Int32) : wpX_set (fun r u' => wpY_set (fun r' v' => r' = r ∧ i_Rel (k + 5) u' v') v v1 v2 v3) u v1 v2 v3 := by
  obtain ⟨e, hO⟩ := I
  subst e
  obtain ⟨l, g, lo, hi⟩ := u
  obtain ⟨r, l', g', lo', hi', hO', hX, hY⟩ := tr_set (l := l) (g := g) hO v1 v2 v3
  exact hX _ (hY _ ⟨rfl, rfl, hO'⟩)
theorem i_vc_combine {k : Nat} {u : SX} {v : SY} (I : i_Rel k u v) (hk : k + 5 ≤ 2560) (v1 : Int32) (v2 : Int32) (v3 : Int32) (v4 : Int32) : wpX_combine (fun r u' => wpY_combine (fun r' v' => r' = r ∧ i_Rel (k + 5) u' v') v v1 v2 v3 v4) u v1 v2 v3 v4 := by
  obtain ⟨e, hO⟩ := I
  subst e
  obtain ⟨l, g, lo, hi⟩ := u
  obtain ⟨r, l', g', lo', hi', hO', hX, hY⟩ := tr_combine (l := l) (g := g) hO v1 v2 v3 v4
  exact hX _ (hY _ ⟨rfl, rfl, hO'⟩)
theorem i_vc_apply {k : Nat} {u : SX} {v : SY} (I : i_Rel k u v) (hk : k + 5 ≤ 2560) (v1 : Int32) (v2 : Int32) (v3 : Int32) : wpX_apply (fun r u' => wpY_apply (fun r' v' => r' = r ∧ i_Rel (k + 5) u' v') v v1 v2 v3) u v1 v2 v3 := by
  obtain ⟨e, hO⟩ := I
  subst e
  obtain ⟨l, g, lo, hi⟩ := u
  obtain ⟨r, l', g', lo', hi', hO', hX, hY⟩ := tr_apply (l := l) (g := g) hO v1 v2 v3
  exact hX _ (hY _ ⟨rfl, rfl, hO'⟩)
theorem i_vc_low {k : Nat} {u : SX} {v : SY} (I : i_Rel k u v) (hk : k + 5 ≤ 2560) (v1 : Int32) : wpX_low (fun r => wpY_low (fun r' => r' = r ∧ i_Rel (k + 5) u v) v v1) u v1 := by
  obtain ⟨e, hO⟩ := I
  subst e
  obtain ⟨l, g, lo, hi⟩ := u
  obtain ⟨r, hX, hY⟩ := tr_low (l := l) (g := g) (lo := lo) (hi := hi) v1
  exact hX _ (hY _ ⟨rfl, rfl, hO⟩)
theorem i_vc_high {k : Nat} {u : SX} {v : SY} (I : i_Rel k u v) (hk : k + 5 ≤ 2560) (v1 : Int32) : wpX_high (fun r => wpY_high (fun r' => r' = r ∧ i_Rel (k + 5) u v) v v1) u v1 := by
  obtain ⟨e, hO⟩ := I
  subst e
  obtain ⟨l, g, lo, hi⟩ := u
  obtain ⟨r, hX, hY⟩ := tr_high (l := l) (g := g) (lo := lo) (hi := hi) v1
  exact hX _ (hY _ ⟨rfl, rfl, hO⟩)
theorem i_vc_less {k : Nat} {u : SX} {v : SY} (I : i_Rel k u v) (hk : k + 5 ≤ 2560) (v1 : Int32) (v2 : Int32) : wpX_less (fun r => wpY_less (fun r' => r' = r ∧ i_Rel (k + 5) u v) v v1 v2) u v1 v2 := by
  obtain ⟨e, hO⟩ := I
  subst e
  obtain ⟨l, g, lo, hi⟩ := u
  obtain ⟨r, hX, hY⟩ := tr_less (l := l) (g := g) hO v1 v2
  exact hX _ (hY _ ⟨rfl, rfl, hO⟩)
theorem i_vc_apart {k : Nat} {u : SX} {v : SY} (I : i_Rel k u v) (hk : k + 5 ≤ 2560) (v1 : Int32) (v2 : Int32) : wpX_apart (fun r => wpY_apart (fun r' => r' = r ∧ i_Rel (k + 5) u v) v v1 v2) u v1 v2 := by
  obtain ⟨e, hO⟩ := I
  subst e
  obtain ⟨l, g, lo, hi⟩ := u
  obtain ⟨r, hX, hY⟩ := tr_apart (l := l) (g := g) hO v1 v2
  exact hX _ (hY _ ⟨rfl, rfl, hO⟩)
end
