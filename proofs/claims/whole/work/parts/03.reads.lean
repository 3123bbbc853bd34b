theorem tx_style43 (j : Nat) (s b c f : Int32) (L A B : Nat → Int32) (hj : j ≤ 64) : ∀ (d t : Nat) (x : Int32) (S : Nat → Int32), t + d = j → ∃ (r : Int32) (S' : Nat → Int32), (∀ post : Int32 → SX → Prop, post r (c, f, L, S', A, B) → wX_style_43 post (nI j) s b c f (d + 1) x (nI t) L S A B) ∧ (∀ post : Int32 → SY → Prop, post r (c, f, L, S', A, B) → wY_setParts_6 post (nI j) b s c f (d + 1) x (nI t) L S A B) := by
  intro d
  induction d with
  | zero =>
    intro t x S h
    have hl : nI j ≤ nI t := nI_le (by omega) (by omega)
    exact ⟨x, S, fun post hp => br_t hl hp, fun post hp => br_t hl hp⟩
  | succ d ih =>
    intro t x S h
    have hi : vp_in (nI t) 64 := vp_in_nI (by omega) (by omega)
    have hl : ¬ nI j ≤ nI t := nI_ge (by omega) (by omega)
    by_cases z : ((S (nI t).toNatClampNeg) &&& (b ^^^ (-1))) ||| (s &&& b) = S (nI t).toNatClampNeg
    · obtain ⟨r, S', hX, hY⟩ := ih (t + 1) x S (by omega)
      exact ⟨r, S', fun post hp => br_f hl ⟨hi, nm_e ⟨hi, br_t z (nm_r (nI_1 t) (hX post hp))⟩⟩, fun post hp => br_f hl ⟨hi, nm_e ⟨hi, br_t z ⟨hi, nm_r (tx_same _ _ _ z) (nm_r (nI_1 t) (hY post hp))⟩⟩⟩⟩
    · obtain ⟨r, S', hX, hY⟩ := ih (t + 1) (x + 1) (upd S (nI t).toNatClampNeg (((S (nI t).toNatClampNeg) &&& (b ^^^ (-1))) ||| (s &&& b))) (by omega)
      exact ⟨r, S', fun post hp => br_f hl ⟨hi, nm_e ⟨hi, br_f z ⟨hi, nm_e (nm_e (nm_r (nI_1 t) (hX post hp)))⟩⟩⟩, fun post hp => br_f hl ⟨hi, nm_e ⟨hi, br_f z ⟨hi, nm_e (nm_r (nI_1 t) (hY post hp))⟩⟩⟩⟩
theorem tx_tog0 (j : Nat) (b c f : Int32) (L A B : Nat → Int32) (hj : j ≤ 64) : ∀ (d t : Nat) (x : Int32) (S : Nat → Int32), t + d = j → ∃ (r : Int32) (S' : Nat → Int32), (∀ post : Int32 → SX → Prop, post 0 (c, f, L, S', A, B) → wX_toggle_39 post (nI j) b 0 c f (d + 1) (nI t) L S A B) ∧ (∀ post : Int32 → SY → Prop, post r (c, f, L, S', A, B) → wY_setParts_6 post (nI j) b 0 c f (d + 1) x (nI t) L S A B) := by
  intro d
  induction d with
  | zero =>
    intro t x S h
    have hl : nI j ≤ nI t := nI_le (by omega) (by omega)
    exact ⟨x, S, fun post hp => br_t hl (br_t rfl hp), fun post hp => br_t hl hp⟩
  | succ d ih =>
    intro t x S h
    have hi : vp_in (nI t) 64 := vp_in_nI (by omega) (by omega)
    have hl : ¬ nI j ≤ nI t := nI_ge (by omega) (by omega)
    have e := tx_take (S (nI t).toNatClampNeg) b
    by_cases z : (S (nI t).toNatClampNeg) &&& (b ^^^ (-1)) = S (nI t).toNatClampNeg
    · obtain ⟨r, S', hX, hY⟩ := ih (t + 1) x (upd S (nI t).toNatClampNeg ((S (nI t).toNatClampNeg) &&& (b ^^^ (-1)))) (by omega)
      exact ⟨r, S', fun post hp => br_f hl (br_t rfl ⟨hi, hi, nm_e (nm_r (nI_1 t) (hX post hp))⟩), fun post hp => br_f hl ⟨hi, nm_r e ⟨hi, br_t z ⟨hi, nm_e (nm_r (nI_1 t) (hY post hp))⟩⟩⟩⟩
    · obtain ⟨r, S', hX, hY⟩ := ih (t + 1) (x + 1) (upd S (nI t).toNatClampNeg ((S (nI t).toNatClampNeg) &&& (b ^^^ (-1)))) (by omega)
      exact ⟨r, S', fun post hp => br_f hl (br_t rfl ⟨hi, hi, nm_e (nm_r (nI_1 t) (hX post hp))⟩), fun post hp => br_f hl ⟨hi, nm_r e ⟨hi, br_f z ⟨hi, nm_e (nm_r (nI_1 t) (hY post hp))⟩⟩⟩⟩
theorem tx_10 : ¬ (1 : Int32) = 0 := by decide
theorem tx_tog1 (j : Nat) (b c f : Int32) (L A B : Nat → Int32) (hj : j ≤ 64) : ∀ (d t : Nat) (x : Int32) (S : Nat → Int32), t + d = j → ∃ (r : Int32) (S' : Nat → Int32), (∀ post : Int32 → SX → Prop, post 1 (c, f, L, S', A, B) → wX_toggle_39 post (nI j) b 1 c f (d + 1) (nI t) L S A B) ∧ (∀ post : Int32 → SY → Prop, post r (c, f, L, S', A, B) → wY_setParts_6 post (nI j) b b c f (d + 1) x (nI t) L S A B) := by
  intro d
  induction d with
  | zero =>
    intro t x S h
    have hl : nI j ≤ nI t := nI_le (by omega) (by omega)
    exact ⟨x, S, fun post hp => br_t hl (br_f tx_10 hp), fun post hp => br_t hl hp⟩
  | succ d ih =>
    intro t x S h
    have hi : vp_in (nI t) 64 := vp_in_nI (by omega) (by omega)
    have hl : ¬ nI j ≤ nI t := nI_ge (by omega) (by omega)
    have e := tx_give (S (nI t).toNatClampNeg) b
    by_cases z : (S (nI t).toNatClampNeg) ||| b = S (nI t).toNatClampNeg
    · obtain ⟨r, S', hX, hY⟩ := ih (t + 1) x (upd S (nI t).toNatClampNeg ((S (nI t).toNatClampNeg) ||| b)) (by omega)
      exact ⟨r, S', fun post hp => br_f hl (br_f tx_10 ⟨hi, hi, nm_e (nm_r (nI_1 t) (hX post hp))⟩), fun post hp => br_f hl ⟨hi, nm_r e ⟨hi, br_t z ⟨hi, nm_e (nm_r (nI_1 t) (hY post hp))⟩⟩⟩⟩
    · obtain ⟨r, S', hX, hY⟩ := ih (t + 1) (x + 1) (upd S (nI t).toNatClampNeg ((S (nI t).toNatClampNeg) ||| b)) (by omega)
      exact ⟨r, S', fun post hp => br_f hl (br_f tx_10 ⟨hi, hi, nm_e (nm_r (nI_1 t) (hX post hp))⟩), fun post hp => br_f hl ⟨hi, nm_r e ⟨hi, br_f z ⟨hi, nm_e (nm_r (nI_1 t) (hY post hp))⟩⟩⟩⟩
theorem tx_all0 (x1 : Int32) (j : Nat) (b c f : Int32) (L S A B : Nat → Int32) (hj : j ≤ 64) (post : Int32 → SY → Prop) (hp : wY_toggle_82 post 0 b b (nI j) x1 c f L S A B) : ∀ (d t : Nat), t + d = j → wY_toggle_32 post x1 (nI j) b c f L S A B (d + 1) 0 (nI t) := by
  intro d
  induction d with
  | zero =>
    intro t h
    have hl : nI j ≤ nI t := nI_le (by omega) (by omega)
    exact br_t hl (br_t rfl hp)
  | succ d ih =>
    intro t h
    have hl : ¬ nI j ≤ nI t := nI_ge (by omega) (by omega)
    exact br_f hl (br_t rfl (nm_r (nI_1 t) (ih (t + 1) (by omega))))
theorem tx_all (x1 : Int32) (j : Nat) (b c f : Int32) (L S A B : Nat → Int32) (hj : j ≤ 64) : ∀ (d t : Nat), t + d = j → ((∀ post : Int32 → Prop, post 0 → wX_allHave_3 post (nI j) b c f L S A B (d + 1) (nI t)) ∧ (∀ post : Int32 → SY → Prop, wY_toggle_82 post 0 b b (nI j) x1 c f L S A B → wY_toggle_32 post x1 (nI j) b c f L S A B (d + 1) 1 (nI t))) ∨ ((∀ post : Int32 → Prop, post 1 → wX_allHave_3 post (nI j) b c f L S A B (d + 1) (nI t)) ∧ (∀ post : Int32 → SY → Prop, wY_toggle_82 post 1 0 b (nI j) x1 c f L S A B → wY_toggle_32 post x1 (nI j) b c f L S A B (d + 1) 1 (nI t))) := by
  intro d
  induction d with
  | zero =>
    intro t h
    have hl : nI j ≤ nI t := nI_le (by omega) (by omega)
    exact Or.inr ⟨fun post hp => br_t hl hp, fun post hp => br_t hl (br_f tx_10 hp)⟩
  | succ d ih =>
    intro t h
    have hi : vp_in (nI t) 64 := vp_in_nI (by omega) (by omega)
    have hl : ¬ nI j ≤ nI t := nI_ge (by omega) (by omega)
    by_cases z : (S (nI t).toNatClampNeg) &&& b = 0
    · exact Or.inl ⟨fun post hp => br_f hl ⟨hi, br_t z hp⟩, fun post hp => br_f hl (br_f tx_10 ⟨hi, br_t z (nm_r (nI_1 t) (tx_all0 x1 j b c f L S A B hj post hp d (t + 1) (by omega)))⟩)⟩
    · rcases ih (t + 1) (by omega) with ⟨hX, hY⟩ | ⟨hX, hY⟩
      · exact Or.inl ⟨fun post hp => br_f hl ⟨hi, br_f z (nm_r (nI_1 t) (hX post hp))⟩, fun post hp => br_f hl (br_f tx_10 ⟨hi, br_f z (nm_r (nI_1 t) (hY post hp))⟩)⟩
      · exact Or.inr ⟨fun post hp => br_f hl ⟨hi, br_f z (nm_r (nI_1 t) (hX post hp))⟩, fun post hp => br_f hl (br_f tx_10 ⟨hi, br_f z (nm_r (nI_1 t) (hY post hp))⟩)⟩
theorem tx_repl (x1 x2 : Int32) (n : Nat) (f : Int32) (S A B : Nat → Int32) (hn : n ≤ 64) : ∀ (d t : Nat) (x : Int32) (L : Nat → Int32), t + d = n → ∃ (r : Int32) (L' : Nat → Int32), (∀ post : Int32 → SX → Prop, post r (nI n, f, L', S, A, B) → wX_replace_23 post x1 x2 (nI n) f (d + 1) x (nI t) L S A B) ∧ (∀ post : Int32 → SY → Prop, post r (nI n, f, L', S, A, B) → wY_replace_23 post x1 x2 (nI n) f (d + 1) x (nI t) L S A B) := by
  intro d
  induction d with
  | zero =>
    intro t x L h
    have hl : nI n ≤ nI t := nI_le (by omega) (by omega)
    exact ⟨x, L, fun post hp => br_t hl hp, fun post hp => br_t hl hp⟩
  | succ d ih =>
    intro t x L h
    have hi : vp_in (nI t) 64 := vp_in_nI (by omega) (by omega)
    have hl : ¬ nI n ≤ nI t := nI_ge (by omega) (by omega)
    by_cases z : L (nI t).toNatClampNeg = x1
    · obtain ⟨r, L', hX, hY⟩ := ih (t + 1) (x + 1) (upd L (nI t).toNatClampNeg x2) (by omega)
      exact ⟨r, L', fun post hp => br_f hl ⟨hi, br_t z ⟨hi, nm_e (nm_e (nm_r (nI_1 t) (hX post hp)))⟩⟩, fun post hp => br_f hl ⟨hi, br_t z ⟨hi, nm_e (nm_e (nm_r (nI_1 t) (hY post hp)))⟩⟩⟩
    · obtain ⟨r, L', hX, hY⟩ := ih (t + 1) x L (by omega)
      exact ⟨r, L', fun post hp => br_f hl ⟨hi, br_f z (nm_r (nI_1 t) (hX post hp))⟩, fun post hp => br_f hl ⟨hi, br_f z (nm_r (nI_1 t) (hY post hp))⟩⟩
theorem tx_begin (t : Nat) (c f : Int32) (L S A B : Nat → Int32) (ht : t < 64) : ((∀ post : Int32 → Prop, post 0 → wpX_beginsRun post (c, f, L, S, A, B) (nI t)) ∧ (∀ post : Int32 → Prop, post 0 → wpY_isBegin post (c, f, L, S, A, B) (nI t))) ∨ ((∀ post : Int32 → Prop, post 1 → wpX_beginsRun post (c, f, L, S, A, B) (nI t)) ∧ (∀ post : Int32 → Prop, post 1 → wpY_isBegin post (c, f, L, S, A, B) (nI t))) := by
  cases t with
  | zero => exact Or.inr ⟨fun _ hp => br_t nI_0 hp, fun _ hp => br_t nI_0 hp⟩
  | succ t =>
    have h0 : ¬ nI (t + 1) = 0 := nI_ne0 (by omega) (by omega)
    have hi : vp_in (nI (t + 1)) 64 := vp_in_nI ht (by omega)
    have hj : vp_in (nI (t + 1) - 1) 64 := pk_in t 64 (by omega) (nI_pred t)
    by_cases z : S (nI (t + 1)).toNatClampNeg = S (nI (t + 1) - 1).toNatClampNeg
    · exact Or.inl ⟨fun _ hp => br_f h0 ⟨hi, hj, br_t z hp⟩, fun _ hp => br_f h0 ⟨hi, hj, br_t z hp⟩⟩
    · exact Or.inr ⟨fun _ hp => br_f h0 ⟨hi, hj, br_f z hp⟩, fun _ hp => br_f h0 ⟨hi, hj, br_f z hp⟩⟩
theorem tx_runs (n : Nat) (f : Int32) (L S A B : Nat → Int32) (hn : n ≤ 64) : ∀ (d t : Nat) (x : Int32), t + d = n → ∃ r : Int32, (∀ post : Int32 → Prop, post r → wX_runsBegunBefore_4 post (nI n) (nI n) f L S A B (d + 1) x (nI t)) ∧ (∀ post : Int32 → Prop, post r → wY_runs_4 post (nI n) f L S A B (d + 1) x (nI t)) := by
  intro d
  induction d with
  | zero =>
    intro t x h
    have hl : nI n ≤ nI t := nI_le (by omega) (by omega)
    exact ⟨x, fun post hp => br_t hl hp, fun post hp => br_t hl hp⟩
  | succ d ih =>
    intro t x h
    have hl : ¬ nI n ≤ nI t := nI_ge (by omega) (by omega)
    rcases tx_begin t (nI n) f L S A B (by omega) with ⟨bX, bY⟩ | ⟨bX, bY⟩
    · obtain ⟨r, hX, hY⟩ := ih (t + 1) x (by omega)
      exact ⟨r, fun post hp => br_f hl (bX _ (br_t rfl (nm_r (nI_1 t) (hX post hp)))), fun post hp => br_f hl (bY _ (br_t rfl (nm_r (nI_1 t) (hY post hp))))⟩
    · obtain ⟨r, hX, hY⟩ := ih (t + 1) (x + 1) (by omega)
      exact ⟨r, fun post hp => br_f hl (bX _ (br_f tx_10 (nm_e (nm_r (nI_1 t) (hX post hp))))), fun post hp => br_f hl (bY _ (br_f tx_10 (nm_e (nm_r (nI_1 t) (hY post hp)))))⟩
theorem tx_runOf (e n : Nat) (f : Int32) (L S A B : Nat → Int32) (he : e < 64) : ∀ (d t : Nat) (x : Int32), t + d = e + 1 → ∃ r : Int32, (∀ post : Int32 → Prop, post r → wX_runsBegunBefore_4 post (nI (e + 1)) (nI n) f L S A B (d + 1) x (nI t)) ∧ (∀ post : Int32 → Prop, post (r - 1) → wY_runOf_19 post (nI e) (nI n) f L S A B (d + 1) (x - 1) (nI t)) := by
  intro d
  induction d with
  | zero =>
    intro t x h
    have hl : nI (e + 1) ≤ nI t := nI_le (by omega) (by omega)
    have hm : nI e < nI t := nI_lt (by omega) (by omega)
    exact ⟨x, fun post hp => br_t hl hp, fun post hp => br_t hm hp⟩
  | succ d ih =>
    intro t x h
    have hl : ¬ nI (e + 1) ≤ nI t := nI_ge (by omega) (by omega)
    have hm : ¬ nI e < nI t := nI_nlt (by omega) (by omega)
    rcases tx_begin t (nI n) f L S A B (by omega) with ⟨bX, bY⟩ | ⟨bX, bY⟩
    · obtain ⟨r, hX, hY⟩ := ih (t + 1) x (by omega)
      exact ⟨r, fun post hp => br_f hl (bX _ (br_t rfl (nm_r (nI_1 t) (hX post hp)))), fun post hp => br_f hm (bY _ (br_t rfl (nm_r (nI_1 t) (hY post hp))))⟩
    · obtain ⟨r, hX, hY⟩ := ih (t + 1) (x + 1) (by omega)
      exact ⟨r, fun post hp => br_f hl (bX _ (br_f tx_10 (nm_e (nm_r (nI_1 t) (hX post hp))))), fun post hp => br_f hm (bY _ (br_f tx_10 (nm_r (tx_pm x).symm (nm_r (nI_1 t) (hY post hp)))))⟩
theorem tx_place (x1 : Int32) (n : Nat) (f : Int32) (L S A B : Nat → Int32) (hn : n ≤ 64) : ∀ (d t : Nat) (x : Int32), t + d = n → ∃ r : Int32, (r = -4 ∨ ∃ q : Nat, q < n ∧ r = nI q) ∧ (∀ post : Int32 → Prop, post r → wX_placeOfRun_4 post x1 (nI n) f L S A B (d + 1) x (nI t)) ∧ (∀ post : Int32 → Prop, post r → wY_runBegin_4 post x1 (nI n) f L S A B (d + 1) x (nI t)) := by
  intro d
  induction d with
  | zero =>
    intro t x h
    have hl : nI n ≤ nI t := nI_le (by omega) (by omega)
    exact ⟨-4, Or.inl rfl, fun post hp => br_t hl hp, fun post hp => br_t hl hp⟩
  | succ d ih =>
    intro t x h
    have hl : ¬ nI n ≤ nI t := nI_ge (by omega) (by omega)
    rcases tx_begin t (nI n) f L S A B (by omega) with ⟨bX, bY⟩ | ⟨bX, bY⟩
    · obtain ⟨r, hr, hX, hY⟩ := ih (t + 1) x (by omega)
      exact ⟨r, hr, fun post hp => br_f hl (bX _ (br_t rfl (nm_r (nI_1 t) (hX post hp)))), fun post hp => br_f hl (bY _ (br_t rfl (nm_r (nI_1 t) (hY post hp))))⟩
    · by_cases z : x = x1
      · exact ⟨nI t, Or.inr ⟨t, by omega, rfl⟩, fun post hp => br_f hl (bX _ (br_f tx_10 (br_t z hp))), fun post hp => br_f hl (bY _ (br_f tx_10 (br_t z hp)))⟩
      · obtain ⟨r, hr, hX, hY⟩ := ih (t + 1) (x + 1) (by omega)
        exact ⟨r, hr, fun post hp => br_f hl (bX _ (br_f tx_10 (br_f z (nm_e (nm_r (nI_1 t) (hX post hp)))))), fun post hp => br_f hl (bY _ (br_f tx_10 (br_f z (nm_e (nm_r (nI_1 t) (hY post hp))))))⟩
theorem tx_having (x1 : Int32) (n : Nat) (f : Int32) (L S A B : Nat → Int32) (hn : n ≤ 64) : ∀ (d t : Nat) (x : Int32), t + d = n → ∃ r : Int32, (∀ post : Int32 → Prop, post r → wX_having_16 post x1 (nI n) f L S A B (d + 1) x (nI t)) ∧ (∀ post : Int32 → Prop, post r → wY_having_16 post x1 (nI n) f L S A B (d + 1) x (nI t)) := by
  intro d
  induction d with
  | zero =>
    intro t x h
    have hl : nI n ≤ nI t := nI_le (by omega) (by omega)
    exact ⟨x, fun post hp => br_t hl hp, fun post hp => br_t hl hp⟩
  | succ d ih =>
    intro t x h
    have hi : vp_in (nI t) 64 := vp_in_nI (by omega) (by omega)
    have hl : ¬ nI n ≤ nI t := nI_ge (by omega) (by omega)
    by_cases z : (S (nI t).toNatClampNeg) &&& x1 = x1
    · obtain ⟨r, hX, hY⟩ := ih (t + 1) (x + 1) (by omega)
      exact ⟨r, fun post hp => br_f hl ⟨hi, br_t z (nm_e (nm_r (nI_1 t) (hX post hp)))⟩, fun post hp => br_f hl ⟨hi, br_t z (nm_e (nm_r (nI_1 t) (hY post hp)))⟩⟩
    · obtain ⟨r, hX, hY⟩ := ih (t + 1) x (by omega)
      exact ⟨r, fun post hp => br_f hl ⟨hi, br_f z (nm_r (nI_1 t) (hX post hp))⟩, fun post hp => br_f hl ⟨hi, br_f z (nm_r (nI_1 t) (hY post hp))⟩⟩
theorem tx_digest (n : Nat) (f : Int32) (L S A B : Nat → Int32) (hn : n ≤ 64) : ∀ (d t : Nat) (x : Int32), t + d = n → ∃ r : Int32, (∀ post : Int32 → Prop, post r → wX_digest_4 post (nI n) f L S A B (d + 1) x (nI t)) ∧ (∀ post : Int32 → Prop, post r → wY_digest_4 post (nI n) f L S A B (d + 1) x (nI t)) := by
  intro d
  induction d with
  | zero =>
    intro t x h
    have hl : nI n ≤ nI t := nI_le (by omega) (by omega)
    exact ⟨x, fun post hp => br_t hl hp, fun post hp => br_t hl hp⟩
  | succ d ih =>
    intro t x h
    have hi : vp_in (nI t) 64 := vp_in_nI (by omega) (by omega)
    have hl : ¬ nI n ≤ nI t := nI_ge (by omega) (by omega)
    obtain ⟨r, hX, hY⟩ := ih (t + 1) (x + ((nI t + 1) * ((64 * (L (nI t).toNatClampNeg)) + (S (nI t).toNatClampNeg)))) (by omega)
    exact ⟨r, fun post hp => br_f hl ⟨hi, hi, nm_e (nm_r (nI_1 t) (hX post hp))⟩, fun post hp => br_f hl ⟨hi, hi, nm_e (nm_r (nI_1 t) (hY post hp))⟩⟩
