theorem tx_mk {n : Nat} (h : n ≤ 64) (f : Int32) (L S A B : Nat → Int32) : tx_ok (nI n, f, L, S, A, B) := ⟨n, f, L, S, A, B, h, rfl⟩
theorem tx_letter (c f : Int32) (L S A B : Nat → Int32) (x : Int32) : ((∀ post : Int32 → Prop, post 0 → wpX_isLetter post (c, f, L, S, A, B) x) ∧ (∀ post : Int32 → Prop, post 0 → wpY_isLetter post (c, f, L, S, A, B) x)) ∨ ((∀ post : Int32 → Prop, post 1 → wpX_isLetter post (c, f, L, S, A, B) x) ∧ (∀ post : Int32 → Prop, post 1 → wpY_isLetter post (c, f, L, S, A, B) x)) := by
  by_cases h0 : x < 0
  · exact Or.inl ⟨fun _ hp => br_t h0 hp, fun _ hp => br_t h0 hp⟩
  · obtain ⟨j, hj, rfl⟩ := nI_of h0
    by_cases h : 26 ≤ j
    · exact Or.inl ⟨fun _ hp => br_f h0 (br_t (nI_le (a := 26) h hj) hp), fun _ hp => br_f h0 (br_t (nI_lt (a := 25) h hj) hp)⟩
    · exact Or.inr ⟨fun _ hp => br_f h0 (br_f (nI_ge (b := 26) (by omega) (by decide)) hp), fun _ hp => br_f h0 (br_f (nI_nlt (a := 25) (by omega) (by decide)) hp)⟩
theorem tx_gap (n : Nat) (f : Int32) (L S A B : Nat → Int32) (hn : n ≤ 64) (x : Int32) : (x < 0 ∧ (∀ post : Int32 → Prop, post 0 → wpX_isGap post (nI n, f, L, S, A, B) x)) ∨ (¬ x < 0 ∧ nI n < x ∧ (∀ post : Int32 → Prop, post 0 → wpX_isGap post (nI n, f, L, S, A, B) x)) ∨ (∃ p : Nat, p ≤ n ∧ x = nI p ∧ (∀ post : Int32 → Prop, post 1 → wpX_isGap post (nI n, f, L, S, A, B) x)) := by
  by_cases h0 : x < 0
  · exact Or.inl ⟨h0, fun _ hp => br_t h0 hp⟩
  · by_cases h1 : nI n < x
    · exact Or.inr (Or.inl ⟨h0, h1, fun _ hp => br_f h0 (br_t h1 hp)⟩)
    · obtain ⟨p, hp, rfl⟩ := nI_of h0
      have h2 : p ≤ n := by
        rw [nI_ltI (by omega) hp] at h1
        omega
      exact Or.inr (Or.inr ⟨p, h2, rfl, fun _ hq => br_f h0 (br_f h1 hq)⟩)
theorem tx_stretch (n : Nat) (f : Int32) (L S A B : Nat → Int32) (hn : n ≤ 64) (x y : Int32) : ((∀ post : Int32 → Prop, post 0 → wpX_isStretch post (nI n, f, L, S, A, B) x y) ∧ (∀ post : Int32 → Prop, post 0 → wpY_isStretch post (nI n, f, L, S, A, B) x y)) ∨ (∃ i j : Nat, i ≤ j ∧ j ≤ n ∧ x = nI i ∧ y = nI j ∧ (∀ post : Int32 → Prop, post 1 → wpX_isStretch post (nI n, f, L, S, A, B) x y) ∧ (∀ post : Int32 → Prop, post 1 → wpY_isStretch post (nI n, f, L, S, A, B) x y)) := by
  by_cases h0 : x < 0
  · exact Or.inl ⟨fun _ hp => br_t h0 hp, fun _ hp => br_t h0 hp⟩
  · by_cases h1 : y < x
    · exact Or.inl ⟨fun _ hp => br_f h0 (br_t h1 hp), fun _ hp => br_f h0 (br_t h1 hp)⟩
    · by_cases h2 : nI n < y
      · exact Or.inl ⟨fun _ hp => br_f h0 (br_f h1 (br_t h2 hp)), fun _ hp => br_f h0 (br_f h1 (br_t h2 hp))⟩
      · have h3 : ¬ y < 0 := Int32.not_lt.mpr (Int32.le_trans (Int32.not_lt.mp h0) (Int32.not_lt.mp h1))
        obtain ⟨i, hi, rfl⟩ := nI_of h0
        obtain ⟨j, hj, rfl⟩ := nI_of h3
        have h4 : i ≤ j := by
          have h := h1
          rw [nI_ltI hj hi] at h
          omega
        have h5 : j ≤ n := by
          have h := h2
          rw [nI_ltI (by omega) hj] at h
          omega
        exact Or.inr ⟨i, j, h4, h5, rfl, rfl, fun _ hp => br_f h0 (br_f h1 (br_f h2 hp)), fun _ hp => br_f h0 (br_f h1 (br_f h2 hp))⟩
theorem tx_place1 (n : Nat) (f : Int32) (L S A B : Nat → Int32) (hn : n ≤ 64) (x : Int32) : (x < 0 ∧ (∀ post : Int32 → Prop, post 0 → wpX_isPlace post (nI n, f, L, S, A, B) x)) ∨ (¬ x < 0 ∧ nI n ≤ x ∧ (∀ post : Int32 → Prop, post 0 → wpX_isPlace post (nI n, f, L, S, A, B) x)) ∨ (∃ p : Nat, p < n ∧ x = nI p ∧ (∀ post : Int32 → Prop, post 1 → wpX_isPlace post (nI n, f, L, S, A, B) x)) := by
  by_cases h0 : x < 0
  · exact Or.inl ⟨h0, fun _ hp => br_t h0 hp⟩
  · by_cases h1 : nI n ≤ x
    · exact Or.inr (Or.inl ⟨h0, h1, fun _ hp => br_f h0 (br_t h1 hp)⟩)
    · obtain ⟨p, hp, rfl⟩ := nI_of h0
      have h2 : p < n := by
        have h := h1
        rw [nI_leI (by omega) hp] at h
        omega
      exact Or.inr (Or.inr ⟨p, h2, rfl, fun _ hq => br_f h0 (br_f h1 hq)⟩)
/-- one answer and one state, for which every post gives both walks -/
def tx_two (WX : (Int32 → SX → Prop) → Prop) (WY : (Int32 → SY → Prop) → Prop) : Prop := ∃ (r : Int32) (u : SX), (∀ post : Int32 → SX → Prop, post r u → WX post) ∧ (∀ post : Int32 → SY → Prop, post r u → WY post) ∧ tx_ok u
def tx_one (WX : (Int32 → Prop) → Prop) (WY : (Int32 → Prop) → Prop) : Prop := ∃ r : Int32, (∀ post : Int32 → Prop, post r → WX post) ∧ (∀ post : Int32 → Prop, post r → WY post)
theorem tx_nle {x : Int32} {n : Nat} (h : nI n < x) : ¬ x ≤ nI n := fun z => absurd h (Int32.not_lt.mpr z)
theorem tx_type (n : Nat) (f : Int32) (L S A B : Nat → Int32) (hn : n ≤ 64) (v1 v2 : Int32) : tx_two (fun post => wpX_type post (nI n, f, L, S, A, B) v1 v2) (fun post => wpY_type post (nI n, f, L, S, A, B) v1 v2) := by
  unfold wpX_type wpY_type
  rcases tx_letter (nI n) f L S A B v2 with ⟨aX, aY⟩ | ⟨aX, aY⟩
  · exact ⟨-1, _, fun post hp => aX _ (br_t rfl hp), fun post hp => aY _ (br_t rfl hp), tx_mk hn f L S A B⟩
  · rcases tx_gap n f L S A B hn v1 with ⟨h0, gX⟩ | ⟨h0, h1, gX⟩ | ⟨p, hpn, rfl, gX⟩
    · exact ⟨-1, _, fun post hp => aX _ (br_f tx_10 (gX _ (br_t rfl hp))), fun post hp => aY _ (br_f tx_10 (br_t h0 hp)), tx_mk hn f L S A B⟩
    · exact ⟨-1, _, fun post hp => aX _ (br_f tx_10 (gX _ (br_t rfl hp))), fun post hp => aY _ (br_f tx_10 (br_f h0 (br_f (tx_nle h1) hp))), tx_mk hn f L S A B⟩
    · have g0 : ¬ nI p < 0 := nI_pos (by omega)
      have g1 : nI p ≤ nI n := nI_le hpn (by omega)
      have e64 : (64 : Int32) - nI n = nI (64 - n) := pk_sub (a := 64) hn
      by_cases hf : n = 64
      · subst hf
        have c : (64 - nI 64) < (1 : Int32) := by decide
        exact ⟨-2, _, fun post hp => aX _ (br_f tx_10 (gX _ (br_f tx_10 (br_t c (br_t rfl hp))))), fun post hp => aY _ (br_f tx_10 (br_f g0 (br_t g1 (br_t rfl hp)))), tx_mk hn f L S A B⟩
      · have c : ¬ (64 - nI n) < (1 : Int32) := by rw [e64]; exact nI_nlt (b := 1) (by omega) (by omega)
        have cY : ¬ nI n = 64 := fun z => hf ((nI_eq (b := 64) (by omega) (by decide)).mp z)
        have hi : vp_in (nI p) 64 := vp_in_nI (by omega) (by omega)
        obtain ⟨f', L', S', rX, rY⟩ := tx_room p 1 n 1 f L S A B hpn (by omega) rfl
        by_cases hz : n = 0
        · have hz' : nI n = 0 := by rw [hz]; exact nI_0
          exact ⟨nI (n + 1), _, fun post hp => aX _ (br_f tx_10 (gX _ (br_f tx_10 (br_f c (br_f tx_10 (br_t hz' (rX _ ⟨hi, nm_e ⟨hi, nm_e hp⟩⟩))))))), fun post hp => aY _ (br_f tx_10 (br_f g0 (br_t g1 (br_f cY (br_t hz' (rY _ ⟨hi, nm_e ⟨hi, nm_e hp⟩⟩)))))), tx_mk (by omega) f' _ _ A B⟩
        · have hz' : ¬ nI n = 0 := nI_ne0 (by omega) (by omega)
          by_cases hq : nI p = 0
          · exact ⟨nI (n + 1), _, fun post hp => aX _ (br_f tx_10 (gX _ (br_f tx_10 (br_f c (br_f tx_10 (br_f hz' (br_t hq (rX _ ⟨hi, nm_e ⟨hi, nm_e hp⟩⟩)))))))), fun post hp => aY _ (br_f tx_10 (br_f g0 (br_t g1 (br_f cY (br_f hz' (br_t hq (rY _ ⟨hi, nm_e ⟨hi, nm_e hp⟩⟩))))))), tx_mk (by omega) f' _ _ A B⟩
          · have hj : vp_in (nI p - 1) 64 := by
              cases p with
              | zero => exact absurd nI_0 hq
              | succ p => exact pk_in p 64 (by omega) (nI_pred p)
            exact ⟨nI (n + 1), _, fun post hp => aX _ (br_f tx_10 (gX _ (br_f tx_10 (br_f c (br_f tx_10 (br_f hz' (br_f hq ⟨hj, (rX _ ⟨hi, nm_e ⟨hi, nm_e hp⟩⟩)⟩))))))), fun post hp => aY _ (br_f tx_10 (br_f g0 (br_t g1 (br_f cY (br_f hz' (br_f hq ⟨hj, (rY _ ⟨hi, nm_e ⟨hi, nm_e hp⟩⟩)⟩)))))), tx_mk (by omega) f' _ _ A B⟩
theorem tx_style0 (x : Int32) (c f : Int32) (L S A B : Nat → Int32) : (x < 0 ∧ (∀ post : Int32 → Prop, post 0 → wpX_isStyle post (c, f, L, S, A, B) x)) ∨ (¬ x < 0 ∧ ¬ x ≤ 63 ∧ (∀ post : Int32 → Prop, post 0 → wpX_isStyle post (c, f, L, S, A, B) x)) ∨ (¬ x < 0 ∧ x ≤ 63 ∧ (∀ post : Int32 → Prop, post 1 → wpX_isStyle post (c, f, L, S, A, B) x)) := by
  by_cases h0 : x < 0
  · exact Or.inl ⟨h0, fun _ hp => br_t h0 hp⟩
  · obtain ⟨j, hj, rfl⟩ := nI_of h0
    by_cases h : 64 ≤ j
    · exact Or.inr (Or.inl ⟨h0, nI_ge (a := 63) h hj, fun _ hp => br_f h0 (br_t (nI_le (a := 64) h hj) hp)⟩)
    · exact Or.inr (Or.inr ⟨h0, nI_le (b := 63) (by omega) (by decide), fun _ hp => br_f h0 (br_f (nI_ge (b := 64) (by omega) (by decide)) hp)⟩)
theorem tx_put (n : Nat) (f : Int32) (L S A B : Nat → Int32) (hn : n ≤ 64) (v1 v2 v3 v4 : Int32) : tx_two (fun post => wpX_put post (nI n, f, L, S, A, B) v1 v2 v3 v4) (fun post => wpY_put post (nI n, f, L, S, A, B) v1 v2 v3 v4) := by
  unfold wpX_put wpY_put
  rcases tx_letter (nI n) f L S A B v2 with ⟨aX, aY⟩ | ⟨aX, aY⟩
  · exact ⟨-1, _, fun post hp => aX _ (br_t rfl hp), fun post hp => aY _ (br_t rfl hp), tx_mk hn f L S A B⟩
  · rcases tx_gap n f L S A B hn v1 with ⟨h0, gX⟩ | ⟨h0, h1, gX⟩ | ⟨p, hpn, rfl, gX⟩
    · exact ⟨-1, _, fun post hp => aX _ (br_f tx_10 (gX _ (br_t rfl hp))), fun post hp => aY _ (br_f tx_10 (br_t h0 hp)), tx_mk hn f L S A B⟩
    · exact ⟨-1, _, fun post hp => aX _ (br_f tx_10 (gX _ (br_t rfl hp))), fun post hp => aY _ (br_f tx_10 (br_f h0 (br_t h1 hp))), tx_mk hn f L S A B⟩
    · have g0 : ¬ nI p < 0 := nI_pos (by omega)
      have g1 : ¬ nI n < nI p := nI_nlt hpn (by omega)
      by_cases k0 : v3 < 0
      · exact ⟨-1, _, fun post hp => aX _ (br_f tx_10 (gX _ (br_f tx_10 (br_t k0 hp)))), fun post hp => aY _ (br_f tx_10 (br_f g0 (br_f g1 (br_t k0 hp)))), tx_mk hn f L S A B⟩
      · by_cases k1 : 64 < v3
        · exact ⟨-1, _, fun post hp => aX _ (br_f tx_10 (gX _ (br_f tx_10 (br_f k0 (br_t k1 hp))))), fun post hp => aY _ (br_f tx_10 (br_f g0 (br_f g1 (br_f k0 (br_t k1 hp))))), tx_mk hn f L S A B⟩
        · rcases tx_style0 v4 (nI n) f L S A B with ⟨s0, sX⟩ | ⟨s0, s1, sX⟩ | ⟨s0, s1, sX⟩
          · exact ⟨-1, _, fun post hp => aX _ (br_f tx_10 (gX _ (br_f tx_10 (br_f k0 (br_f k1 (sX _ (br_t rfl hp))))))), fun post hp => aY _ (br_f tx_10 (br_f g0 (br_f g1 (br_f k0 (br_f k1 (br_t s0 hp)))))), tx_mk hn f L S A B⟩
          · exact ⟨-1, _, fun post hp => aX _ (br_f tx_10 (gX _ (br_f tx_10 (br_f k0 (br_f k1 (sX _ (br_t rfl hp))))))), fun post hp => aY _ (br_f tx_10 (br_f g0 (br_f g1 (br_f k0 (br_f k1 (br_f s0 (br_f s1 hp))))))), tx_mk hn f L S A B⟩
          · obtain ⟨k, hk, rfl⟩ := nI_of k0
            have hk64 : k ≤ 64 := by
              have h : ¬ nI 64 < nI k := k1
              rw [nI_ltI (by decide) hk] at h
              omega
            have e64 : (64 : Int32) - nI n = nI (64 - n) := pk_sub (a := 64) hn
            by_cases hf : n + k ≤ 64
            · have c : ¬ (64 - nI n) < nI k := by rw [e64]; exact nI_nlt (by omega) (by omega)
              have cY : nI n + nI k ≤ 64 := by rw [nI_add]; exact nI_le (b := 64) hf (by decide)
              obtain ⟨f', L1, S1, rX, rY⟩ := tx_room p k n _ f L S A B hpn hf rfl
              obtain ⟨L', S', lX, lY⟩ := tx_put57 p k v2 v4 (nI (n + k)) f' A B (by omega) k 0 L1 S1 (by omega)
              rw [nI_0] at lY
              exact ⟨nI (n + k), _, fun post hp => aX _ (br_f tx_10 (gX _ (br_f tx_10 (br_f k0 (br_f k1 (sX _ (br_f tx_10 (br_f c (br_f tx_10 (rX _ ⟨_, lX post hp⟩)))))))))), fun post hp => aY _ (br_f tx_10 (br_f g0 (br_f g1 (br_f k0 (br_f k1 (br_f s0 (br_t s1 (br_t cY (rY _ ⟨_, lY post hp⟩))))))))), tx_mk hf f' L' S' A B⟩
            · have c : (64 - nI n) < nI k := by rw [e64]; exact nI_lt (by omega) (by omega)
              have cY : ¬ nI n + nI k ≤ 64 := by rw [nI_add]; exact nI_ge (a := 64) (by omega) (by omega)
              exact ⟨-2, _, fun post hp => aX _ (br_f tx_10 (gX _ (br_f tx_10 (br_f k0 (br_f k1 (sX _ (br_f tx_10 (br_t c (br_t rfl hp))))))))), fun post hp => aY _ (br_f tx_10 (br_f g0 (br_f g1 (br_f k0 (br_f k1 (br_f s0 (br_t s1 (br_f cY hp)))))))), tx_mk hn f L S A B⟩
