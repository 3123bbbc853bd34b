theorem pk_sub {a b : Nat} (h : b ≤ a) : nI a - nI b = nI (a - b) := by
  obtain ⟨c, rfl⟩ : ∃ c, a = c + b := ⟨a - b, by omega⟩
  rw [← nI_add, Int32.add_sub_cancel, Nat.add_sub_cancel]
theorem pk_m1 (n : Nat) : nI (n + 1) + (-1) = nI n := by
  rw [← nI_1, Int32.add_assoc, show (1 : Int32) + (-1) = 0 from rfl, Int32.add_zero]
theorem pk_in {x : Int32} (n N : Nat) (h : n < N) (hx : x = nI n := by rfl) (hN : N < 2 ^ 31 := by omega) : vp_in x N := by
  subst hx
  exact vp_in_nI h hN
theorem pk_cl {x : Int32} (n : Nat) (hx : x = nI n := by rfl) (h : n < 2 ^ 31 := by omega) : x.toNatClampNeg = n := by
  subst hx
  exact nI_clamp h
def bt (x : Int32) (i : Nat) : Bool := x.toBitVec.getLsbD i
theorem b_ext {x y : Int32} (h : ∀ i, i < 32 → bt x i = bt y i) : x = y := Int32.toBitVec_inj.mp (BitVec.eq_of_getLsbD_eq (fun i hi => h i hi))
theorem b_or (x y : Int32) (i : Nat) : bt (x ||| y) i = (bt x i || bt y i) := by unfold bt; rw [Int32.toBitVec_or, BitVec.getLsbD_or]
theorem b_and (x y : Int32) (i : Nat) : bt (x &&& y) i = (bt x i && bt y i) := by unfold bt; rw [Int32.toBitVec_and, BitVec.getLsbD_and]
theorem b_xor (x y : Int32) (i : Nat) : bt (x ^^^ y) i = (bt x i ^^ bt y i) := by unfold bt; rw [Int32.toBitVec_xor, BitVec.getLsbD_xor]
theorem b_m1 : ∀ i, i < 32 → bt (-1) i = true := by decide +kernel
theorem b_0 (i : Nat) : bt 0 i = false := BitVec.getLsbD_zero
theorem tx_give (s b : Int32) : (s &&& (b ^^^ (-1))) ||| (b &&& b) = s ||| b :=
  b_ext fun i hi => by
    rw [b_or, b_or, b_and, b_and, b_xor, b_m1 i hi]
    cases bt s i <;> cases bt b i <;> rfl
theorem tx_take (s b : Int32) : (s &&& (b ^^^ (-1))) ||| (0 &&& b) = s &&& (b ^^^ (-1)) :=
  b_ext fun i hi => by
    rw [b_or, b_and, b_and, b_xor, b_m1 i hi, b_0]
    cases bt s i <;> cases bt b i <;> rfl
theorem tx_mask : ∀ m, m < 16 → ((nI m &&& 8 = 0 ∧ ¬ 8 ≤ nI m ∧ nI m &&& 7 = nI m) ∨ (¬ nI m &&& 8 = 0 ∧ 8 ≤ nI m ∧ (nI m &&& 7) ||| 56 = (nI m &&& 7) + 56)) := by decide +kernel
theorem tx_same (a : Nat → Int32) (k : Nat) (x : Int32) (h : x = a k) : upd a k x = a := by
  funext j
  unfold upd
  by_cases e : j = k
  · rw [if_pos e, h, e]
  · rw [if_neg e]
theorem tx_sub1 (x : Int32) : x - 1 = x + (-1) := Int32.sub_eq_add_neg x 1
theorem tx_predlt (p : Nat) (h : p ≤ 64) : nI p + (-1) < nI p := by
  cases p with
  | zero => decide
  | succ p => rw [pk_m1]; exact nI_lt (by omega) (by omega)
theorem tx_pm (x : Int32) : x + 1 - 1 = x - 1 + 1 := by
  rw [Int32.add_sub_cancel, Int32.sub_add_cancel]
def tx_ok (u : SX) : Prop := ∃ (n : Nat) (f : Int32) (L S A B : Nat → Int32), n ≤ 64 ∧ u = (nI n, f, L, S, A, B)
