theorem i_vc_set {k : Nat} {u : SX} {v : SY} (I : i_Rel k u v) (hk : k + 5 ≤ 2560) (v1 : Int32) (v2 : Int32) (v3 : Int32) : wpX_set (fun r u' => wpY_set (fun r' v' => r' = r ∧ i_Rel (k + 5) u' v') v v1 v2 v3) u v1 v2 v3 := by
  obtain ⟨e, hO⟩ := I
  subst e
  obtain ⟨l, g, lo, hi⟩ := u
  obtain ⟨r, l', g', lo', hi', hO', hX, hY⟩ := tr_set (l := l) (g := g) hO v1 v2 v3
  exact hX _ (hY _ ⟨rfl, rfl, hO'⟩)
theorem i_vc_combine {k : Nat} {u : SX} {v : SY} (I : i_Rel k u v) (hk : k + 5 ≤ 2560) (v1 : Int32) (v2 : Int32) (v3 : Int32) (v4 : Int32) : wpX_combine (fun r u' => wpY_combine (fun r' v' => r' = r ∧ i_Rel (k + 5) u' v') v v1 v2 v3 v4) u v1 v2 v3 v4 := by
  obtain ⟨e, hO⟩ := I
  subst e
  obtain ⟨l, g, lo, hi⟩ := u
  obtain ⟨r, l', g', lo', hi', hO', hX, hY⟩ := tr_combine (l := l) (g := g) hO v1 v2 v3 v4
  exact hX _ (hY _ ⟨rfl, rfl, hO'⟩)
theorem i_vc_apply {k : Nat} {u : SX} {v : SY} (I : i_Rel k u v) (hk : k + 5 ≤ 2560) (v1 : Int32) (v2 : Int32) (v3 : Int32) : wpX_apply (fun r u' => wpY_apply (fun r' v' => r' = r ∧ i_Rel (k + 5) u' v') v v1 v2 v3) u v1 v2 v3 := by
  obtain ⟨e, hO⟩ := I
  subst e
  obtain ⟨l, g, lo, hi⟩ := u
  obtain ⟨r, l', g', lo', hi', hO', hX, hY⟩ := tr_apply (l := l) (g := g) hO v1 v2 v3
  exact hX _ (hY _ ⟨rfl, rfl, hO'⟩)
theorem i_vc_low {k : Nat} {u : SX} {v : SY} (I : i_Rel k u v) (hk : k + 5 ≤ 2560) (v1 : Int32) : wpX_low (fun r => wpY_low (fun r' => r' = r ∧ i_Rel (k + 5) u v) v v1) u v1 := by
  obtain ⟨e, hO⟩ := I
  subst e
  obtain ⟨l, g, lo, hi⟩ := u
  obtain ⟨r, hX, hY⟩ := tr_low (l := l) (g := g) (lo := lo) (hi := hi) v1
  exact hX _ (hY _ ⟨rfl, rfl, hO⟩)
theorem i_vc_high {k : Nat} {u : SX} {v : SY} (I : i_Rel k u v) (hk : k + 5 ≤ 2560) (v1 : Int32) : wpX_high (fun r => wpY_high (fun r' => r' = r ∧ i_Rel (k + 5) u v) v v1) u v1 := by
  obtain ⟨e, hO⟩ := I
  subst e
  obtain ⟨l, g, lo, hi⟩ := u
  obtain ⟨r, hX, hY⟩ := tr_high (l := l) (g := g) (lo := lo) (hi := hi) v1
  exact hX _ (hY _ ⟨rfl, rfl, hO⟩)
theorem i_vc_less {k : Nat} {u : SX} {v : SY} (I : i_Rel k u v) (hk : k + 5 ≤ 2560) (v1 : Int32) (v2 : Int32) : wpX_less (fun r => wpY_less (fun r' => r' = r ∧ i_Rel (k + 5) u v) v v1 v2) u v1 v2 := by
  obtain ⟨e, hO⟩ := I
  subst e
  obtain ⟨l, g, lo, hi⟩ := u
  obtain ⟨r, hX, hY⟩ := tr_less (l := l) (g := g) hO v1 v2
  exact hX _ (hY _ ⟨rfl, rfl, hO⟩)
theorem i_vc_apart {k : Nat} {u : SX} {v : SY} (I : i_Rel k u v) (hk : k + 5 ≤ 2560) (v1 : Int32) (v2 : Int32) : wpX_apart (fun r => wpY_apart (fun r' => r' = r ∧ i_Rel (k + 5) u v) v v1 v2) u v1 v2 := by
  obtain ⟨e, hO⟩ := I
  subst e
  obtain ⟨l, g, lo, hi⟩ := u
  obtain ⟨r, hX, hY⟩ := tr_apart (l := l) (g := g) hO v1 v2
  exact hX _ (hY _ ⟨rfl, rfl, hO⟩)
