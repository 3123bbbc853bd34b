/-- the two states are the same, and the count lies between 0 and 64 -/
def i_Rel (_ : Nat) (u : SX) (v : SY) : Prop := v = u ∧ tx_ok u
theorem i_up {k : Nat} {u : SX} {v : SY} (h : i_Rel k u v) : i_Rel (k + 5) u v := h
theorem i_vc0 : wpX_init (fun u => wpY_init (fun v => i_Rel 0 u v)) := ⟨rfl, tx_mk (n := 0) (by omega) 0 _ _ _ _⟩
theorem i_vc_type {k : Nat} {u : SX} {v : SY} (I : i_Rel k u v) (hk : k + 5 ≤ 2560) (v1 : Int32) (v2 : Int32) : wpX_type (fun r u' => wpY_type (fun r' v' => r' = r ∧ i_Rel (k + 5) u' v') v v1 v2) u v1 v2 := by
  obtain ⟨rfl, n, f, L, S, A, B, hn, rfl⟩ := I
  obtain ⟨r, u, hX, hY, ok⟩ := tx_type n f L S A B hn v1 v2
  exact hX _ (hY _ ⟨rfl, rfl, ok⟩)
theorem i_vc_put {k : Nat} {u : SX} {v : SY} (I : i_Rel k u v) (hk : k + 5 ≤ 2560) (v1 : Int32) (v2 : Int32) (v3 : Int32) (v4 : Int32) : wpX_put (fun r u' => wpY_put (fun r' v' => r' = r ∧ i_Rel (k + 5) u' v') v v1 v2 v3 v4) u v1 v2 v3 v4 := by
  obtain ⟨rfl, n, f, L, S, A, B, hn, rfl⟩ := I
  obtain ⟨r, u, hX, hY, ok⟩ := tx_put n f L S A B hn v1 v2 v3 v4
  exact hX _ (hY _ ⟨rfl, rfl, ok⟩)
theorem i_vc_remove {k : Nat} {u : SX} {v : SY} (I : i_Rel k u v) (hk : k + 5 ≤ 2560) (v1 : Int32) (v2 : Int32) : wpX_remove (fun r u' => wpY_remove (fun r' v' => r' = r ∧ i_Rel (k + 5) u' v') v v1 v2) u v1 v2 := by
  obtain ⟨rfl, n, f, L, S, A, B, hn, rfl⟩ := I
  obtain ⟨r, u, hX, hY, ok⟩ := tx_remove n f L S A B hn v1 v2
  exact hX _ (hY _ ⟨rfl, rfl, ok⟩)
theorem i_vc_move {k : Nat} {u : SX} {v : SY} (I : i_Rel k u v) (hk : k + 5 ≤ 2560) (v1 : Int32) (v2 : Int32) (v3 : Int32) : wpX_move (fun r u' => wpY_move (fun r' v' => r' = r ∧ i_Rel (k + 5) u' v') v v1 v2 v3) u v1 v2 v3 := by
  obtain ⟨rfl, n, f, L, S, A, B, hn, rfl⟩ := I
  obtain ⟨r, u, hX, hY, ok⟩ := tx_move n f L S A B hn v1 v2 v3
  exact hX _ (hY _ ⟨rfl, rfl, ok⟩)
theorem i_vc_copy {k : Nat} {u : SX} {v : SY} (I : i_Rel k u v) (hk : k + 5 ≤ 2560) (v1 : Int32) (v2 : Int32) (v3 : Int32) : wpX_copy (fun r u' => wpY_copy (fun r' v' => r' = r ∧ i_Rel (k + 5) u' v') v v1 v2 v3) u v1 v2 v3 := by
  obtain ⟨rfl, n, f, L, S, A, B, hn, rfl⟩ := I
  obtain ⟨r, u, hX, hY, ok⟩ := tx_copy n f L S A B hn v1 v2 v3
  exact hX _ (hY _ ⟨rfl, rfl, ok⟩)
theorem i_vc_style {k : Nat} {u : SX} {v : SY} (I : i_Rel k u v) (hk : k + 5 ≤ 2560) (v1 : Int32) (v2 : Int32) (v3 : Int32) (v4 : Int32) : wpX_style (fun r u' => wpY_style (fun r' v' => r' = r ∧ i_Rel (k + 5) u' v') v v1 v2 v3 v4) u v1 v2 v3 v4 := by
  obtain ⟨rfl, n, f, L, S, A, B, hn, rfl⟩ := I
  obtain ⟨r, u, hX, hY, ok⟩ := tx_style n f L S A B hn v1 v2 v3 v4
  exact hX _ (hY _ ⟨rfl, rfl, ok⟩)
theorem i_vc_toggle {k : Nat} {u : SX} {v : SY} (I : i_Rel k u v) (hk : k + 5 ≤ 2560) (v1 : Int32) (v2 : Int32) (v3 : Int32) : wpX_toggle (fun r u' => wpY_toggle (fun r' v' => r' = r ∧ i_Rel (k + 5) u' v') v v1 v2 v3) u v1 v2 v3 := by
  obtain ⟨rfl, n, f, L, S, A, B, hn, rfl⟩ := I
  obtain ⟨r, u, hX, hY, ok⟩ := tx_toggle n f L S A B hn v1 v2 v3
  exact hX _ (hY _ ⟨rfl, rfl, ok⟩)
theorem i_vc_replace {k : Nat} {u : SX} {v : SY} (I : i_Rel k u v) (hk : k + 5 ≤ 2560) (v1 : Int32) (v2 : Int32) : wpX_replace (fun r u' => wpY_replace (fun r' v' => r' = r ∧ i_Rel (k + 5) u' v') v v1 v2) u v1 v2 := by
  obtain ⟨rfl, n, f, L, S, A, B, hn, rfl⟩ := I
  obtain ⟨r, u, hX, hY, ok⟩ := tx_replace n f L S A B hn v1 v2
  exact hX _ (hY _ ⟨rfl, rfl, ok⟩)
theorem i_vc_length {k : Nat} {u : SX} {v : SY} (I : i_Rel k u v) (hk : k + 5 ≤ 2560) : wpX_length (fun r => wpY_length (fun r' => r' = r ∧ i_Rel (k + 5) u v) v) u := by
  obtain ⟨rfl, n, f, L, S, A, B, hn, rfl⟩ := I
  exact ⟨rfl, rfl, tx_mk hn f L S A B⟩
theorem i_vc_letter {k : Nat} {u : SX} {v : SY} (I : i_Rel k u v) (hk : k + 5 ≤ 2560) (v1 : Int32) : wpX_letter (fun r => wpY_letter (fun r' => r' = r ∧ i_Rel (k + 5) u v) v v1) u v1 := by
  obtain ⟨rfl, n, f, L, S, A, B, hn, rfl⟩ := I
  obtain ⟨r, hX, hY⟩ := tx_ltr n f L S A B hn v1
  exact hX _ (hY _ ⟨rfl, rfl, tx_mk hn f L S A B⟩)
theorem i_vc_styleAt {k : Nat} {u : SX} {v : SY} (I : i_Rel k u v) (hk : k + 5 ≤ 2560) (v1 : Int32) : wpX_styleAt (fun r => wpY_styleAt (fun r' => r' = r ∧ i_Rel (k + 5) u v) v v1) u v1 := by
  obtain ⟨rfl, n, f, L, S, A, B, hn, rfl⟩ := I
  obtain ⟨r, hX, hY⟩ := tx_stl n f L S A B hn v1
  exact hX _ (hY _ ⟨rfl, rfl, tx_mk hn f L S A B⟩)
theorem i_vc_runs {k : Nat} {u : SX} {v : SY} (I : i_Rel k u v) (hk : k + 5 ≤ 2560) : wpX_runs (fun r => wpY_runs (fun r' => r' = r ∧ i_Rel (k + 5) u v) v) u := by
  obtain ⟨rfl, n, f, L, S, A, B, hn, rfl⟩ := I
  obtain ⟨r, hX, hY⟩ := tx_rns n f L S A B hn
  exact hX _ (hY _ ⟨rfl, rfl, tx_mk hn f L S A B⟩)
theorem i_vc_runBegin {k : Nat} {u : SX} {v : SY} (I : i_Rel k u v) (hk : k + 5 ≤ 2560) (v1 : Int32) : wpX_runBegin (fun r => wpY_runBegin (fun r' => r' = r ∧ i_Rel (k + 5) u v) v v1) u v1 := by
  obtain ⟨rfl, n, f, L, S, A, B, hn, rfl⟩ := I
  obtain ⟨r, hX, hY⟩ := tx_rbg n f L S A B hn v1
  exact hX _ (hY _ ⟨rfl, rfl, tx_mk hn f L S A B⟩)
theorem i_vc_runStyle {k : Nat} {u : SX} {v : SY} (I : i_Rel k u v) (hk : k + 5 ≤ 2560) (v1 : Int32) : wpX_runStyle (fun r => wpY_runStyle (fun r' => r' = r ∧ i_Rel (k + 5) u v) v v1) u v1 := by
  obtain ⟨rfl, n, f, L, S, A, B, hn, rfl⟩ := I
  obtain ⟨r, hX, hY⟩ := tx_rst n f L S A B hn v1
  exact hX _ (hY _ ⟨rfl, rfl, tx_mk hn f L S A B⟩)
theorem i_vc_runOf {k : Nat} {u : SX} {v : SY} (I : i_Rel k u v) (hk : k + 5 ≤ 2560) (v1 : Int32) : wpX_runOf (fun r => wpY_runOf (fun r' => r' = r ∧ i_Rel (k + 5) u v) v v1) u v1 := by
  obtain ⟨rfl, n, f, L, S, A, B, hn, rfl⟩ := I
  obtain ⟨r, hX, hY⟩ := tx_rof n f L S A B hn v1
  exact hX _ (hY _ ⟨rfl, rfl, tx_mk hn f L S A B⟩)
theorem i_vc_having {k : Nat} {u : SX} {v : SY} (I : i_Rel k u v) (hk : k + 5 ≤ 2560) (v1 : Int32) : wpX_having (fun r => wpY_having (fun r' => r' = r ∧ i_Rel (k + 5) u v) v v1) u v1 := by
  obtain ⟨rfl, n, f, L, S, A, B, hn, rfl⟩ := I
  obtain ⟨r, hX, hY⟩ := tx_hav n f L S A B hn v1
  exact hX _ (hY _ ⟨rfl, rfl, tx_mk hn f L S A B⟩)
theorem i_vc_setFlag {k : Nat} {u : SX} {v : SY} (I : i_Rel k u v) (hk : k + 5 ≤ 2560) (v1 : Int32) : wpX_setFlag (fun r u' => wpY_setFlag (fun r' v' => r' = r ∧ i_Rel (k + 5) u' v') v v1) u v1 := by
  obtain ⟨rfl, n, f, L, S, A, B, hn, rfl⟩ := I
  obtain ⟨r, u, hX, hY, ok⟩ := tx_setFlag n f L S A B hn v1
  exact hX _ (hY _ ⟨rfl, rfl, ok⟩)
theorem i_vc_flag {k : Nat} {u : SX} {v : SY} (I : i_Rel k u v) (hk : k + 5 ≤ 2560) : wpX_flag (fun r => wpY_flag (fun r' => r' = r ∧ i_Rel (k + 5) u v) v) u := by
  obtain ⟨rfl, n, f, L, S, A, B, hn, rfl⟩ := I
  exact ⟨rfl, rfl, tx_mk hn f L S A B⟩
theorem i_vc_digest {k : Nat} {u : SX} {v : SY} (I : i_Rel k u v) (hk : k + 5 ≤ 2560) : wpX_digest (fun r => wpY_digest (fun r' => r' = r ∧ i_Rel (k + 5) u v) v) u := by
  obtain ⟨rfl, n, f, L, S, A, B, hn, rfl⟩ := I
  obtain ⟨r, hX, hY⟩ := tx_dig n f L S A B hn
  exact hX _ (hY _ ⟨rfl, rfl, tx_mk hn f L S A B⟩)
