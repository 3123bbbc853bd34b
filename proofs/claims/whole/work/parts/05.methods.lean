theorem tx_out (i j n : Nat) (f : Int32) (L S A B : Nat → Int32) (hij : i ≤ j) (hj : j ≤ n) (hn : n ≤ 64) : ∃ (f' : Int32) (L' S' : Nat → Int32), (∀ post : SX → Prop, post (nI (n - (j - i)), f', L', S', A, B) → wpX_takeOut post (nI n, f, L, S, A, B) (nI i) (nI j)) ∧ (∀ post : Int32 → SY → Prop, post (nI (n - (j - i))) (nI (n - (j - i)), f', L', S', A, B) → wpY_remove post (nI n, f, L, S, A, B) (nI i) (nI j)) := by
  obtain ⟨f', L', S', hX, hY⟩ := tx_out7 i j n f A B hij hn (n - j) j L S (by omega) (Nat.le_refl _)
  have h0 : ¬ nI i < 0 := nI_pos (by omega)
  have h1 : ¬ nI j < nI i := nI_nlt hij (by omega)
  have h2 : ¬ nI n < nI j := nI_nlt hj (by omega)
  refine ⟨f', L', S', fun post hp => nm_e ⟨_, hX post hp⟩, fun post hp => ?_⟩
  unfold wpY_remove
  exact br_f h0 (br_f h1 (br_f h2 (br_f tx_10 ⟨_, hY post hp⟩)))
theorem tx_remove (n : Nat) (f : Int32) (L S A B : Nat → Int32) (hn : n ≤ 64) (v1 v2 : Int32) : tx_two (fun post => wpX_remove post (nI n, f, L, S, A, B) v1 v2) (fun post => wpY_remove post (nI n, f, L, S, A, B) v1 v2) := by
  rcases tx_stretch n f L S A B hn v1 v2 with ⟨aX, aY⟩ | ⟨i, j, hij, hj, rfl, rfl, aX, aY⟩
  · unfold wpX_remove wpY_remove
    exact ⟨-1, _, fun post hp => aX _ (br_t rfl hp), fun post hp => aY _ (br_t rfl hp), tx_mk hn f L S A B⟩
  · obtain ⟨f', L', S', hX, hY⟩ := tx_out i j n f L S A B hij hj hn
    unfold wpX_remove
    exact ⟨nI (n - (j - i)), _, fun post hp => aX _ (br_f tx_10 (hX _ hp)), hY, tx_mk (by omega) f' L' S' A B⟩
theorem tx_move (n : Nat) (f : Int32) (L S A B : Nat → Int32) (hn : n ≤ 64) (v1 v2 v3 : Int32) : tx_two (fun post => wpX_move post (nI n, f, L, S, A, B) v1 v2 v3) (fun post => wpY_move post (nI n, f, L, S, A, B) v1 v2 v3) := by
  unfold wpX_move wpY_move
  rcases tx_stretch n f L S A B hn v1 v2 with ⟨aX, aY⟩ | ⟨i, j, hij, hj, rfl, rfl, aX, aY⟩
  · exact ⟨-1, _, fun post hp => aX _ (br_t rfl hp), fun post hp => aY _ (br_t rfl hp), tx_mk hn f L S A B⟩
  · by_cases h0 : v3 < 0
    · exact ⟨-1, _, fun post hp => aX _ (br_f tx_10 (br_t h0 hp)), fun post hp => aY _ (br_f tx_10 (br_t h0 hp)), tx_mk hn f L S A B⟩
    · by_cases h1 : v3 ≤ nI n - (nI j - nI i)
      · obtain ⟨p, hp, rfl⟩ := nI_of h0
        have em : nI j - nI i = nI (j - i) := pk_sub hij
        have hp' : p ≤ n - (j - i) := by
          have h := h1
          rw [em, pk_sub (by omega), nI_leI hp (by omega)] at h
          exact h
        obtain ⟨A', B', kX, kY⟩ := tx_hold i j (nI n) f L S A B hij (by omega)
        obtain ⟨f1, L1, S1, oX, oY⟩ := tx_out i j n f L S A' B' hij hj hn
        obtain ⟨f2, L2, S2, hX, hY⟩ := tx_held p (j - i) (n - (j - i)) _ f1 L1 S1 A' B' hp' (by omega) em
        exact ⟨0, _, fun post hp => aX _ (br_f tx_10 (br_f h0 (br_t h1 (kX _ (oX _ (hX _ hp)))))), fun post hp => aY _ (br_f tx_10 (br_f h0 (br_t h1 (kY _ (oY _ (hY _ hp)))))), tx_mk (by omega) f2 L2 S2 A' B'⟩
      · exact ⟨-1, _, fun post hp => aX _ (br_f tx_10 (br_f h0 (br_f h1 hp))), fun post hp => aY _ (br_f tx_10 (br_f h0 (br_f h1 hp))), tx_mk hn f L S A B⟩
theorem tx_copy (n : Nat) (f : Int32) (L S A B : Nat → Int32) (hn : n ≤ 64) (v1 v2 v3 : Int32) : tx_two (fun post => wpX_copy post (nI n, f, L, S, A, B) v1 v2 v3) (fun post => wpY_copy post (nI n, f, L, S, A, B) v1 v2 v3) := by
  unfold wpX_copy wpY_copy
  rcases tx_stretch n f L S A B hn v1 v2 with ⟨aX, aY⟩ | ⟨i, j, hij, hj, rfl, rfl, aX, aY⟩
  · exact ⟨-1, _, fun post hp => aX _ (br_t rfl hp), fun post hp => aY _ (br_t rfl hp), tx_mk hn f L S A B⟩
  · rcases tx_gap n f L S A B hn v3 with ⟨h0, gX⟩ | ⟨h0, h1, gX⟩ | ⟨p, hpn, rfl, gX⟩
    · exact ⟨-1, _, fun post hp => aX _ (br_f tx_10 (gX _ (br_t rfl hp))), fun post hp => aY _ (br_f tx_10 (br_t h0 hp)), tx_mk hn f L S A B⟩
    · exact ⟨-1, _, fun post hp => aX _ (br_f tx_10 (gX _ (br_t rfl hp))), fun post hp => aY _ (br_f tx_10 (br_f h0 (br_f (tx_nle h1) hp))), tx_mk hn f L S A B⟩
    · have g0 : ¬ nI p < 0 := nI_pos (by omega)
      have g1 : nI p ≤ nI n := nI_le hpn (by omega)
      have em : nI j - nI i = nI (j - i) := pk_sub hij
      have e64 : (64 : Int32) - nI n = nI (64 - n) := pk_sub (a := 64) hn
      have es : nI n + nI j - nI i = nI (n + j - i) := by rw [nI_add, pk_sub (by omega)]
      by_cases hf : n + (j - i) ≤ 64
      · have c : ¬ (64 - nI n) < nI j - nI i := by rw [e64, em]; exact nI_nlt (by omega) (by omega)
        have cY : nI n + nI j - nI i ≤ 64 := by rw [es]; exact nI_le (b := 64) (by omega) (by decide)
        obtain ⟨A', B', kX, kY⟩ := tx_hold i j (nI n) f L S A B hij (by omega)
        obtain ⟨f2, L2, S2, hX, hY⟩ := tx_held p (j - i) n _ f L S A' B' hpn hf em
        exact ⟨nI (n + (j - i)), _, fun post hp => aX _ (br_f tx_10 (gX _ (br_f tx_10 (br_f c (br_f tx_10 (kX _ (hX _ hp))))))), fun post hp => aY _ (br_f tx_10 (br_f g0 (br_t g1 (br_t cY (kY _ (hY _ hp)))))), tx_mk hf f2 L2 S2 A' B'⟩
      · have c : (64 - nI n) < nI j - nI i := by rw [e64, em]; exact nI_lt (by omega) (by omega)
        have cY : ¬ nI n + nI j - nI i ≤ 64 := by rw [es]; exact nI_ge (a := 64) (by omega) (by omega)
        exact ⟨-2, _, fun post hp => aX _ (br_f tx_10 (gX _ (br_f tx_10 (br_t c (br_t rfl hp))))), fun post hp => aY _ (br_f tx_10 (br_f g0 (br_t g1 (br_f cY hp)))), tx_mk hn f L S A B⟩
theorem tx_style (n : Nat) (f : Int32) (L S A B : Nat → Int32) (hn : n ≤ 64) (v1 v2 v3 v4 : Int32) : tx_two (fun post => wpX_style post (nI n, f, L, S, A, B) v1 v2 v3 v4) (fun post => wpY_style post (nI n, f, L, S, A, B) v1 v2 v3 v4) := by
  unfold wpX_style wpY_style
  rcases tx_stretch n f L S A B hn v1 v2 with ⟨aX, aY⟩ | ⟨i, j, hij, hj, rfl, rfl, aX, aY⟩
  · exact ⟨-1, _, fun post hp => aX _ (br_t rfl hp), fun post hp => aY _ (br_t rfl hp), tx_mk hn f L S A B⟩
  · by_cases h0 : v3 < 0
    · exact ⟨-1, _, fun post hp => aX _ (br_f tx_10 (br_t h0 hp)), fun post hp => aY _ (br_f tx_10 (br_t h0 hp)), tx_mk hn f L S A B⟩
    · obtain ⟨m, hm, rfl⟩ := nI_of h0
      by_cases h : 16 ≤ m
      · have c : (16 : Int32) ≤ nI m := nI_le (a := 16) h hm
        have cY : (15 : Int32) < nI m := nI_lt (a := 15) h hm
        exact ⟨-1, _, fun post hp => aX _ (br_f tx_10 (br_f h0 (br_t c hp))), fun post hp => aY _ (br_f tx_10 (br_f h0 (br_t cY hp))), tx_mk hn f L S A B⟩
      · have c : ¬ (16 : Int32) ≤ nI m := nI_ge (b := 16) (by omega) (by decide)
        have cY : ¬ (15 : Int32) < nI m := nI_nlt (a := 15) (by omega) (by decide)
        rcases tx_style0 v4 (nI n) f L S A B with ⟨s0, sX⟩ | ⟨s0, s1, sX⟩ | ⟨s0, s1, sX⟩
        · exact ⟨-1, _, fun post hp => aX _ (br_f tx_10 (br_f h0 (br_f c (sX _ (br_t rfl hp))))), fun post hp => aY _ (br_f tx_10 (br_f h0 (br_f cY (br_t s0 hp)))), tx_mk hn f L S A B⟩
        · exact ⟨-1, _, fun post hp => aX _ (br_f tx_10 (br_f h0 (br_f c (sX _ (br_t rfl hp))))), fun post hp => aY _ (br_f tx_10 (br_f h0 (br_f cY (br_f s0 (br_f s1 hp))))), tx_mk hn f L S A B⟩
        · rcases tx_mask m (by omega) with ⟨m1, m2, m3⟩ | ⟨m1, m2, m3⟩
          · obtain ⟨r, S', lX, lY⟩ := tx_style43 j v4 (nI m) (nI n) f L A B (by omega) (j - i) i 0 S (by omega)
            exact ⟨r, _, fun post hp => aX _ (br_f tx_10 (br_f h0 (br_f c (sX _ (br_f tx_10 (nm_r m3 (br_t m1 ⟨_, lX post hp⟩))))))), fun post hp => aY _ (br_f tx_10 (br_f h0 (br_f cY (br_f s0 (br_t s1 (br_f m2 ⟨_, lY _ hp⟩)))))), tx_mk hn f L S' A B⟩
          · obtain ⟨r, S', lX, lY⟩ := tx_style43 j v4 ((nI m &&& 7) + 56) (nI n) f L A B (by omega) (j - i) i 0 S (by omega)
            refine ⟨r, _, fun post hp => aX _ (br_f tx_10 (br_f h0 (br_f c (sX _ (br_f tx_10 (nm_e (br_f m1 ⟨j - i + 1, ?_⟩))))))), fun post hp => aY _ (br_f tx_10 (br_f h0 (br_f cY (br_f s0 (br_t s1 (br_t m2 ⟨_, lY _ hp⟩)))))), tx_mk hn f L S' A B⟩
            rw [m3]
            exact lX post hp
theorem tx_toggle (n : Nat) (f : Int32) (L S A B : Nat → Int32) (hn : n ≤ 64) (v1 v2 v3 : Int32) : tx_two (fun post => wpX_toggle post (nI n, f, L, S, A, B) v1 v2 v3) (fun post => wpY_toggle post (nI n, f, L, S, A, B) v1 v2 v3) := by
  unfold wpX_toggle wpY_toggle
  rcases tx_stretch n f L S A B hn v1 v2 with ⟨aX, aY⟩ | ⟨i, j, hij, hj, rfl, rfl, aX, aY⟩
  · exact ⟨-1, _, fun post hp => aX _ (br_t rfl hp), fun post hp => aY _ (br_t rfl hp), tx_mk hn f L S A B⟩
  · have main : ((∃ S' : Nat → Int32, (∀ post : Int32 → SX → Prop, post 1 (nI n, f, L, S', A, B) → ∃ k, wX_toggle_39 post (nI j) v3 1 (nI n) f k (nI i) L S A B) ∧ (∀ post : Int32 → SY → Prop, post 1 (nI n, f, L, S', A, B) → ∃ k, wY_toggle_32 post (nI i) (nI j) v3 (nI n) f L S A B k 1 (nI i))) ∧ (∀ post : Int32 → Prop, post 0 → wpX_allHave post (nI n, f, L, S, A, B) (nI i) (nI j) v3)) ∨ ((∃ S' : Nat → Int32, (∀ post : Int32 → SX → Prop, post 0 (nI n, f, L, S', A, B) → ∃ k, wX_toggle_39 post (nI j) v3 0 (nI n) f k (nI i) L S A B) ∧ (∀ post : Int32 → SY → Prop, post 0 (nI n, f, L, S', A, B) → ∃ k, wY_toggle_32 post (nI i) (nI j) v3 (nI n) f L S A B k 1 (nI i))) ∧ (∀ post : Int32 → Prop, post 1 → wpX_allHave post (nI n, f, L, S, A, B) (nI i) (nI j) v3)) := by
      rcases tx_all (nI i) j v3 (nI n) f L S A B (by omega) (j - i) i (by omega) with ⟨wX, wY⟩ | ⟨wX, wY⟩
      · obtain ⟨r, S', lX, lY⟩ := tx_tog1 j v3 (nI n) f L A B (by omega) (j - i) i 0 S (by omega)
        exact Or.inl ⟨⟨S', fun post hp => ⟨_, lX post hp⟩, fun post hp => ⟨_, wY post ⟨_, lY _ (br_t rfl hp)⟩⟩⟩, fun post hp => ⟨_, wX post hp⟩⟩
      · obtain ⟨r, S', lX, lY⟩ := tx_tog0 j v3 (nI n) f L A B (by omega) (j - i) i 0 S (by omega)
        exact Or.inr ⟨⟨S', fun post hp => ⟨_, lX post hp⟩, fun post hp => ⟨_, wY post ⟨_, lY _ (br_f tx_10 hp)⟩⟩⟩, fun post hp => ⟨_, wX post hp⟩⟩
    have mark : (¬ v3 = 1 ∧ ¬ v3 = 2 ∧ ¬ v3 = 4 ∧ (∀ post : Int32 → Prop, post 0 → wpX_isMark post (nI n, f, L, S, A, B) v3)) ∨ ((∀ post : Int32 → Prop, post 1 → wpX_isMark post (nI n, f, L, S, A, B) v3) ∧ (∀ P Q : Prop, P → ((v3 = 1 → P) ∧ (¬ v3 = 1 → ((v3 = 2 → P) ∧ (¬ v3 = 2 → ((v3 = 4 → P) ∧ (¬ v3 = 4 → Q))))))) ) := by
      by_cases b1 : v3 = 1
      · exact Or.inr ⟨fun _ hp => br_t b1 hp, fun _ _ hp => br_t b1 hp⟩
      · by_cases b2 : v3 = 2
        · exact Or.inr ⟨fun _ hp => br_f b1 (br_t b2 hp), fun _ _ hp => br_f b1 (br_t b2 hp)⟩
        · by_cases b4 : v3 = 4
          · exact Or.inr ⟨fun _ hp => br_f b1 (br_f b2 (br_t b4 hp)), fun _ _ hp => br_f b1 (br_f b2 (br_t b4 hp))⟩
          · exact Or.inl ⟨b1, b2, b4, fun _ hp => br_f b1 (br_f b2 (br_f b4 hp))⟩
    rcases mark with ⟨b1, b2, b4, mX⟩ | ⟨mX, mY⟩
    · exact ⟨-1, _, fun post hp => aX _ (br_f tx_10 (mX _ (br_t rfl hp))), fun post hp => aY _ (br_f tx_10 (br_f b1 (br_f b2 (br_f b4 hp)))), tx_mk hn f L S A B⟩
    · rcases main with ⟨⟨S', lX, lY⟩, wX⟩ | ⟨⟨S', lX, lY⟩, wX⟩
      · exact ⟨1, _, fun post hp => aX _ (br_f tx_10 (mX _ (br_f tx_10 (wX _ (br_t rfl (lX post hp)))))), fun post hp => aY _ (br_f tx_10 (mY _ _ (lY post hp))), tx_mk hn f L S' A B⟩
      · exact ⟨0, _, fun post hp => aX _ (br_f tx_10 (mX _ (br_f tx_10 (wX _ (br_f tx_10 (lX post hp)))))), fun post hp => aY _ (br_f tx_10 (mY _ _ (lY post hp))), tx_mk hn f L S' A B⟩
theorem tx_replace (n : Nat) (f : Int32) (L S A B : Nat → Int32) (hn : n ≤ 64) (v1 v2 : Int32) : tx_two (fun post => wpX_replace post (nI n, f, L, S, A, B) v1 v2) (fun post => wpY_replace post (nI n, f, L, S, A, B) v1 v2) := by
  unfold wpX_replace wpY_replace
  rcases tx_letter (nI n) f L S A B v1 with ⟨aX, aY⟩ | ⟨aX, aY⟩
  · exact ⟨-1, _, fun post hp => aX _ (br_t rfl hp), fun post hp => aY _ (br_t rfl hp), tx_mk hn f L S A B⟩
  · rcases tx_letter (nI n) f L S A B v2 with ⟨bX, bY⟩ | ⟨bX, bY⟩
    · exact ⟨-1, _, fun post hp => aX _ (br_f tx_10 (bX _ (br_t rfl hp))), fun post hp => aY _ (br_f tx_10 (bY _ (br_t rfl hp))), tx_mk hn f L S A B⟩
    · obtain ⟨r, L', lX, lY⟩ := tx_repl v1 v2 n f S A B hn n 0 0 L (by omega)
      rw [nI_0] at lX lY
      exact ⟨r, _, fun post hp => aX _ (br_f tx_10 (bX _ (br_f tx_10 ⟨_, lX post hp⟩))), fun post hp => aY _ (br_f tx_10 (bY _ (br_f tx_10 ⟨_, lY post hp⟩))), tx_mk hn f L' S A B⟩
theorem tx_setFlag (n : Nat) (f : Int32) (L S A B : Nat → Int32) (hn : n ≤ 64) (v1 : Int32) : tx_two (fun post => wpX_setFlag post (nI n, f, L, S, A, B) v1) (fun post => wpY_setFlag post (nI n, f, L, S, A, B) v1) := by
  unfold wpX_setFlag wpY_setFlag
  rcases tx_gap n f L S A B hn v1 with ⟨h0, gX⟩ | ⟨h0, h1, gX⟩ | ⟨p, hpn, rfl, gX⟩
  · exact ⟨-1, _, fun post hp => gX _ (br_t rfl hp), fun post hp => br_t h0 hp, tx_mk hn f L S A B⟩
  · exact ⟨-1, _, fun post hp => gX _ (br_t rfl hp), fun post hp => br_f h0 (br_f (tx_nle h1) hp), tx_mk hn f L S A B⟩
  · exact ⟨f, _, fun post hp => gX _ (br_f tx_10 hp), fun post hp => br_f (nI_pos (by omega)) (br_t (nI_le hpn (by omega)) hp), tx_mk hn (nI p) L S A B⟩
