theorem tx_ltr (n : Nat) (f : Int32) (L S A B : Nat → Int32) (hn : n ≤ 64) (v1 : Int32) : tx_one (fun post => wpX_letter post (nI n, f, L, S, A, B) v1) (fun post => wpY_letter post (nI n, f, L, S, A, B) v1) := by
  unfold wpX_letter wpY_letter
  rcases tx_place1 n f L S A B hn v1 with ⟨h0, gX⟩ | ⟨h0, h1, gX⟩ | ⟨p, hpn, rfl, gX⟩
  · exact ⟨-4, fun post hp => gX _ (br_t rfl hp), fun post hp => br_t h0 hp⟩
  · exact ⟨-4, fun post hp => gX _ (br_t rfl hp), fun post hp => br_f h0 (br_t h1 hp)⟩
  · have hi : vp_in (nI p) 64 := vp_in_nI (by omega) (by omega)
    exact ⟨L (nI p).toNatClampNeg, fun post hp => gX _ (br_f tx_10 ⟨hi, hp⟩), fun post hp => br_f (nI_pos (by omega)) (br_f (nI_ge hpn (by omega)) ⟨hi, hp⟩)⟩
theorem tx_stl (n : Nat) (f : Int32) (L S A B : Nat → Int32) (hn : n ≤ 64) (v1 : Int32) : tx_one (fun post => wpX_styleAt post (nI n, f, L, S, A, B) v1) (fun post => wpY_styleAt post (nI n, f, L, S, A, B) v1) := by
  unfold wpX_styleAt wpY_styleAt
  rcases tx_place1 n f L S A B hn v1 with ⟨h0, gX⟩ | ⟨h0, h1, gX⟩ | ⟨p, hpn, rfl, gX⟩
  · exact ⟨-4, fun post hp => gX _ (br_t rfl hp), fun post hp => br_t h0 hp⟩
  · exact ⟨-4, fun post hp => gX _ (br_t rfl hp), fun post hp => br_f h0 (br_t h1 hp)⟩
  · have hi : vp_in (nI p) 64 := vp_in_nI (by omega) (by omega)
    exact ⟨S (nI p).toNatClampNeg, fun post hp => gX _ (br_f tx_10 ⟨hi, hp⟩), fun post hp => br_f (nI_pos (by omega)) (br_f (nI_ge hpn (by omega)) ⟨hi, hp⟩)⟩
theorem tx_rns (n : Nat) (f : Int32) (L S A B : Nat → Int32) (hn : n ≤ 64) : tx_one (fun post => wpX_runs post (nI n, f, L, S, A, B)) (fun post => wpY_runs post (nI n, f, L, S, A, B)) := by
  unfold wpX_runs wpY_runs
  obtain ⟨r, hX, hY⟩ := tx_runs n f L S A B hn n 0 0 (by omega)
  rw [nI_0] at hX hY
  exact ⟨r, fun post hp => ⟨_, hX _ hp⟩, fun post hp => ⟨_, hY _ hp⟩⟩
theorem tx_rbg (n : Nat) (f : Int32) (L S A B : Nat → Int32) (hn : n ≤ 64) (v1 : Int32) : tx_one (fun post => wpX_runBegin post (nI n, f, L, S, A, B) v1) (fun post => wpY_runBegin post (nI n, f, L, S, A, B) v1) := by
  unfold wpX_runBegin wpY_runBegin
  obtain ⟨r, _, hX, hY⟩ := tx_place v1 n f L S A B hn n 0 0 (by omega)
  rw [nI_0] at hX hY
  exact ⟨r, fun post hp => ⟨_, hX _ hp⟩, fun post hp => ⟨_, hY _ hp⟩⟩
theorem tx_m4 : (-4 : Int32) < 0 := by decide
theorem tx_m4' : ¬ (0 : Int32) ≤ -4 := by decide
theorem tx_rst (n : Nat) (f : Int32) (L S A B : Nat → Int32) (hn : n ≤ 64) (v1 : Int32) : tx_one (fun post => wpX_runStyle post (nI n, f, L, S, A, B) v1) (fun post => wpY_runStyle post (nI n, f, L, S, A, B) v1) := by
  unfold wpX_runStyle wpY_runStyle
  obtain ⟨r, hr, hX, hY⟩ := tx_place v1 n f L S A B hn n 0 0 (by omega)
  rw [nI_0] at hX hY
  rcases hr with rfl | ⟨q, hq, rfl⟩
  · exact ⟨-4, fun post hp => ⟨_, hX _ (br_t tx_m4 (br_t rfl hp))⟩, fun post hp => ⟨_, hY _ (br_f tx_m4' hp)⟩⟩
  · have hi : vp_in (nI q) 64 := vp_in_nI (by omega) (by omega)
    have h0 : ¬ nI q < 0 := nI_pos (by omega)
    have h1 : ¬ nI n ≤ nI q := nI_ge hq (by omega)
    have h2 : 0 ≤ nI q := nI_pos' (by omega)
    exact ⟨S (nI q).toNatClampNeg, fun post hp => ⟨_, hX _ (br_f h0 (br_f h1 (br_f tx_10 ⟨hi, hp⟩)))⟩, fun post hp => ⟨_, hY _ (br_t h2 ⟨hi, hp⟩)⟩⟩
theorem tx_rof (n : Nat) (f : Int32) (L S A B : Nat → Int32) (hn : n ≤ 64) (v1 : Int32) : tx_one (fun post => wpX_runOf post (nI n, f, L, S, A, B) v1) (fun post => wpY_runOf post (nI n, f, L, S, A, B) v1) := by
  unfold wpX_runOf wpY_runOf
  rcases tx_place1 n f L S A B hn v1 with ⟨h0, gX⟩ | ⟨h0, h1, gX⟩ | ⟨p, hpn, rfl, gX⟩
  · exact ⟨-4, fun post hp => gX _ (br_t rfl hp), fun post hp => br_t h0 hp⟩
  · exact ⟨-4, fun post hp => gX _ (br_t rfl hp), fun post hp => br_f h0 (br_f (Int32.not_lt.mpr h1) hp)⟩
  · obtain ⟨r, hX, hY⟩ := tx_runOf p n f L S A B (by omega) (p + 1) 0 0 (by omega)
    rw [nI_0] at hX hY
    refine ⟨r - 1, fun post hp => gX _ (br_f tx_10 ?_), fun post hp => br_f (nI_pos (by omega)) (br_t (nI_lt hpn (by omega)) ⟨_, hY _ hp⟩)⟩
    rw [nI_1 p]
    exact ⟨_, hX _ hp⟩
theorem tx_hav (n : Nat) (f : Int32) (L S A B : Nat → Int32) (hn : n ≤ 64) (v1 : Int32) : tx_one (fun post => wpX_having post (nI n, f, L, S, A, B) v1) (fun post => wpY_having post (nI n, f, L, S, A, B) v1) := by
  unfold wpX_having wpY_having
  obtain ⟨r, hX, hY⟩ := tx_having v1 n f L S A B hn n 0 0 (by omega)
  rw [nI_0] at hX hY
  by_cases h0 : v1 < 0
  · exact ⟨-1, fun post hp => br_t h0 hp, fun post hp => br_t h0 hp⟩
  · by_cases h1 : v1 ≤ 7
    · exact ⟨r, fun post hp => br_f h0 (br_t h1 ⟨_, hX _ hp⟩), fun post hp => br_f h0 (br_t h1 ⟨_, hY _ hp⟩)⟩
    · exact ⟨-1, fun post hp => br_f h0 (br_f h1 hp), fun post hp => br_f h0 (br_f h1 hp)⟩
theorem tx_dig (n : Nat) (f : Int32) (L S A B : Nat → Int32) (hn : n ≤ 64) : tx_one (fun post => wpX_digest post (nI n, f, L, S, A, B)) (fun post => wpY_digest post (nI n, f, L, S, A, B)) := by
  unfold wpX_digest wpY_digest
  obtain ⟨r, hX, hY⟩ := tx_digest n f L S A B hn n 0 0 (by omega)
  rw [nI_0] at hX hY
  exact ⟨r, fun post hp => ⟨_, hX _ hp⟩, fun post hp => ⟨_, hY _ hp⟩⟩
