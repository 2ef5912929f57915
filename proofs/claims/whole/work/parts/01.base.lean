theorem pk_us {f : Nat → Int32} {k : Nat} {x : Int32} : upd f k x k = x := if_pos rfl
theorem pk_un {f : Nat → Int32} {k j : Nat} {x : Int32} (h : j ≠ k) : upd f k x j = f j := if_neg h
theorem pk_sub {a b : Nat} (h : b ≤ a) : nI a - nI b = nI (a - b) := by
  obtain ⟨c, rfl⟩ : ∃ c, a = c + b := ⟨a - b, by omega⟩
  rw [← nI_add, Int32.add_sub_cancel, Nat.add_sub_cancel]
theorem pk_mul (a b : Nat) : nI a * nI b = nI (a * b) := (Int32.ofNat_mul a b).symm
theorem pk_div {a d : Nat} (ha : a < 2 ^ 31) (h0 : 0 < d) (hd : d < 2 ^ 31) : nI a / nI d = nI (a / d) := by
  apply Int32.toInt_inj.mp
  rw [lg_idiv_nonneg (by rw [nI_toInt ha]; omega) (by rw [nI_toInt hd]; omega), nI_toInt ha, nI_toInt hd, nI_toInt (Nat.lt_of_le_of_lt (Nat.div_le_self a d) ha)]
  first | rfl | exact (Int.natCast_ediv _ _).symm
theorem pk_rem {a d : Nat} (ha : a < 2 ^ 31) (h0 : 0 < d) (hd : d < 2 ^ 31) : nI a - nI a / nI d * nI d = nI (a % d) := by
  rw [pk_div ha h0 hd, pk_mul, pk_sub (Nat.div_mul_le_self a d)]
  exact congrArg nI (by have := Nat.div_add_mod' a d; omega)
theorem nx_and (a b : Nat) : nI a &&& nI b = nI (a &&& b) := by
  apply Int32.toBitVec_inj.1
  show BitVec.ofNat 32 a &&& BitVec.ofNat 32 b = BitVec.ofNat 32 (a &&& b)
  apply BitVec.eq_of_getLsbD_eq
  intro i hi
  simp [hi]
theorem nx_xor (a b : Nat) : nI a ^^^ nI b = nI (a ^^^ b) := by
  apply Int32.toBitVec_inj.1
  show BitVec.ofNat 32 a ^^^ BitVec.ofNat 32 b = BitVec.ofNat 32 (a ^^^ b)
  apply BitVec.eq_of_getLsbD_eq
  intro i hi
  simp [hi]
theorem tr_or (a b : Nat) : nI a ||| nI b = nI (a ||| b) := by
  apply Int32.toBitVec_inj.1
  show BitVec.ofNat 32 a ||| BitVec.ofNat 32 b = BitVec.ofNat 32 (a ||| b)
  apply BitVec.eq_of_getLsbD_eq
  intro i hi
  simp [BitVec.getLsbD_ofNat, hi]
/-- every register holds a range of numbers from 0 to 127 -/
def tr_OK (lo hi : Nat → Int32) : Prop := ∀ j, j < 6 → ∃ p q : Nat, lo j = nI p ∧ hi j = nI q ∧ p ≤ q ∧ q ≤ 127
/-- the two sides hold the same fields and the same registers -/
def i_Rel (_ : Nat) (u : SX) (v : SY) : Prop := u = v ∧ tr_OK u.2.2.1 u.2.2.2
theorem i_up {k : Nat} {u : SX} {v : SY} (h : i_Rel k u v) : i_Rel (k + 5) u v := h
theorem tr_upd {lo hi : Nat → Int32} (h : tr_OK lo hi) (k : Nat) {p q : Nat} (hpq : p ≤ q) (hq : q ≤ 127) : tr_OK (upd lo k (nI p)) (upd hi k (nI q)) := by
  intro j hj
  by_cases e : j = k
  · subst e
    exact ⟨p, q, pk_us, pk_us, hpq, hq⟩
  · rw [pk_un e, pk_un e]
    exact h j hj
theorem tr_at {lo hi : Nat → Int32} (h : tr_OK lo hi) {j : Nat} (hj : j < 6) : ∃ p q : Nat, lo (nI j).toNatClampNeg = nI p ∧ hi (nI j).toNatClampNeg = nI q ∧ p ≤ q ∧ q ≤ 127 := by
  rw [nI_clamp (by omega)]
  exact h j hj
theorem tr_reg (x : Int32) : ((∀ post : Int32 → Prop, post 0 → wpX_isRegister post x) ∧ (∀ post : Int32 → Prop, post 1 → wpY_bad post x)) ∨ (∃ j : Nat, j < 6 ∧ x = nI j ∧ (∀ post : Int32 → Prop, post 1 → wpX_isRegister post x) ∧ (∀ post : Int32 → Prop, post 0 → wpY_bad post x)) := by
  by_cases h0 : x < 0
  · exact Or.inl ⟨fun _ h => br_t h0 h, fun _ h => br_t h0 h⟩
  · obtain ⟨j, hj, rfl⟩ := nI_of h0
    by_cases h6 : j < 6
    · exact Or.inr ⟨j, h6, rfl, fun _ h => br_f h0 (br_f (nI_ge (b := 6) h6 (by decide)) h), fun _ h => br_f h0 (br_t (nI_le (b := 5) (by omega) (by decide)) h)⟩
    · exact Or.inl ⟨fun _ h => br_f h0 (br_t (nI_le (a := 6) (by omega) hj) h), fun _ h => br_f h0 (br_f (nI_ge (a := 5) (by omega) hj) h)⟩
/-- the least and the greatest result so far: none yet, or both from 0 to 127 -/
def tr_G (l g : Int32) : Prop := (l = 128 ∧ g = -1) ∨ ∃ p q : Nat, l = nI p ∧ g = nI q ∧ p ≤ q ∧ q ≤ 127
def tr_mn (l v : Int32) : Int32 := if l ≤ v then l else v
def tr_mx (g v : Int32) : Int32 := if v ≤ g then g else v
theorem tr_G_go {l g : Int32} (h : tr_G l g) {r : Nat} (hr : r ≤ 127) : tr_G (tr_mn l (nI r)) (tr_mx g (nI r)) := by
  rcases h with ⟨rfl, rfl⟩ | ⟨p, q, rfl, rfl, hpq, hq⟩
  · have h1 : ¬ (128 : Int32) ≤ nI r := nI_ge (b := 128) (by omega) (by decide)
    have h2 : ¬ nI r ≤ (-1 : Int32) := by
      rw [Int32.le_iff_toInt_le, nI_toInt (by omega), show (-1 : Int32).toInt = -1 from by decide]
      omega
    exact Or.inr ⟨r, r, if_neg h1, if_neg h2, Nat.le_refl _, hr⟩
  · refine Or.inr ⟨if p ≤ r then p else r, if r ≤ q then q else r, ?_, ?_, ?_, ?_⟩
    · unfold tr_mn
      simp only [nI_leI (show p < 2 ^ 31 by omega) (show r < 2 ^ 31 by omega)]
      split <;> rfl
    · unfold tr_mx
      simp only [nI_leI (show r < 2 ^ 31 by omega) (show q < 2 ^ 31 by omega)]
      split <;> rfl
    · split <;> split <;> omega
    · split <;> omega
theorem tr_gX (post : SX → Prop) (l g : Int32) (a b : Nat → Int32) (v : Int32) (h : post (tr_mn l v, tr_mx g v, a, b)) : wpX_gather post (l, g, a, b) v := by
  unfold tr_mn tr_mx at h
  by_cases h1 : l ≤ v
  · rw [if_pos h1] at h
    refine br_t h1 ?_
    by_cases h2 : v ≤ g
    · rw [if_pos h2] at h
      exact br_t h2 h
    · rw [if_neg h2] at h
      exact br_f h2 h
  · rw [if_neg h1] at h
    refine br_f h1 ?_
    by_cases h2 : v ≤ g
    · rw [if_pos h2] at h
      exact br_t h2 h
    · rw [if_neg h2] at h
      exact br_f h2 h
theorem tr_gY (post : SY → Prop) (l g : Int32) (a b : Nat → Int32) (v : Int32) (h : post (tr_mn l v, tr_mx g v, a, b)) : wpY_result post (l, g, a, b) v := by
  unfold tr_mn tr_mx at h
  by_cases h1 : l ≤ v
  · rw [if_pos h1] at h
    refine br_t h1 ?_
    by_cases h2 : v ≤ g
    · rw [if_pos h2] at h
      exact br_t h2 h
    · rw [if_neg h2] at h
      exact br_f h2 h
  · rw [if_neg h1] at h
    refine br_f h1 ?_
    by_cases h2 : v ≤ g
    · rw [if_pos h2] at h
      exact br_t h2 h
    · rw [if_neg h2] at h
      exact br_f h2 h
theorem tr_keep {l g : Int32} {lo hi : Nat → Int32} (hG : tr_G l g) (hO : tr_OK lo hi) {j : Nat} (hj : j < 6) : ∃ (r : Int32) (lo' hi' : Nat → Int32), tr_OK lo' hi' ∧ (∀ post : Int32 → SX → Prop, post r (l, g, lo', hi') → wpX_keepGathered post (l, g, lo, hi) (nI j)) ∧ (∀ post : Int32 → SY → Prop, post r (l, g, lo', hi') → wpY_keep post (l, g, lo, hi) (nI j)) := by
  have hi6 : vp_in (nI j) 6 := vp_in_nI hj (by decide)
  rcases hG with ⟨rfl, rfl⟩ | ⟨p, q, rfl, rfl, hpq, hq⟩
  · have h1 : ¬ (128 : Int32) ≤ (-1 : Int32) := by decide
    exact ⟨-2, lo, hi, hO, fun _ h => br_f h1 h, fun _ h => br_f h1 h⟩
  · have h1 : nI p ≤ nI q := nI_le hpq (by omega)
    exact ⟨0, _, _, tr_upd hO (nI j).toNatClampNeg hpq hq, fun _ h => br_t h1 ⟨hi6, nm_e ⟨hi6, nm_e h⟩⟩, fun _ h => br_t h1 ⟨hi6, nm_e ⟨hi6, nm_e h⟩⟩⟩
