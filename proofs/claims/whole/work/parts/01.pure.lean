/-! ===== one step and n steps of the register, as a pure function ===== -/
def cw_sh (r : Int32) : Int32 := (r.toUInt32 >>> ((1 : Int32).toUInt32 &&& Int32.toUInt32 31)).toInt32
def cw_st (r : Int32) : Int32 := if r &&& 1 = 1 then cw_sh r ^^^ (-306674912) else cw_sh r
def cw_it : Nat → Int32 → Int32
  | 0 => fun r => r
  | n + 1 => fun r => cw_it n (cw_st r)
theorem cw_us {f : Nat → Int32} {k : Nat} {x : Int32} : upd f k x k = x := if_pos rfl
theorem cw_un {f : Nat → Int32} {k j : Nat} {x : Int32} (h : j ≠ k) : upd f k x j = f j := if_neg h
theorem cw_and (x : Int32) {m : Int32} (k : Nat) (hm : m.toBitVec.toNat = 2 ^ k - 1) : x &&& m = nI (x.toBitVec.toNat % 2 ^ k) := by
  apply Int32.toBitVec_inj.mp
  apply BitVec.eq_of_toNat_eq
  rw [Int32.toBitVec_and, BitVec.toNat_and, hm, Nat.and_two_pow_sub_one_eq_mod]
  show _ = (BitVec.ofNat 32 _).toNat
  rw [BitVec.toNat_ofNat]
  exact (Nat.mod_eq_of_lt (Nat.lt_of_le_of_lt (Nat.mod_le _ _) x.toBitVec.isLt)).symm
/-- the lowest bit is 0 or 1 -/
theorem cw_b01 (r : Int32) : r &&& 1 = 0 ∨ r &&& 1 = 1 := by
  rw [cw_and r (m := 1) 1 (by decide)]
  have h : r.toBitVec.toNat % 2 ^ 1 = 0 ∨ r.toBitVec.toNat % 2 ^ 1 = 1 := by omega
  rcases h with h | h
  · rw [h]; exact Or.inl rfl
  · rw [h]; exact Or.inr rfl
theorem cw_st1 {r : Int32} (h : r &&& 1 = 1) : cw_st r = cw_sh r ^^^ (-306674912) := if_pos h
theorem cw_st0 {r : Int32} (h : ¬ r &&& 1 = 1) : cw_st r = cw_sh r := if_neg h
theorem cw_10 : ¬ (1 : Int32) = 0 := by decide
/-- the ring's index, for a counter of any size -/
theorem cw_ix (A : Nat) : nI A &&& 15 = nI (A % 16) := by
  rw [cw_and (nI A) (m := 15) 4 (by decide)]
  have e : (nI A).toBitVec.toNat = A % 2 ^ 32 := BitVec.toNat_ofNat A 32
  rw [e]
  congr 1
  omega
/-- a byte stored and read back unsigned is the argument's low byte -/
theorem cw_b (x : Int32) : x.toInt8.toInt32 &&& 255 = x &&& 255 := by
  apply Int32.toBitVec_inj.mp
  rw [Int32.toBitVec_and, Int32.toBitVec_and, Int8.toBitVec_toInt32, Int32.toBitVec_toInt8]
  apply BitVec.eq_of_getLsbD_eq
  intro i hi
  rw [BitVec.getLsbD_and, BitVec.getLsbD_and]
  have hm : ∀ i < 32, 8 ≤ i → (255 : Int32).toBitVec.getLsbD i = false := by decide
  rcases Nat.lt_or_ge i 8 with z | z
  · rw [BitVec.getLsbD_signExtend, BitVec.getLsbD_signExtend, if_pos z, if_pos hi]
    simp only [z, hi, decide_true, Bool.true_and]
  · rw [hm i hi z]; simp
/-! ===== the straight array beside the ring ===== -/
/-- the D newest cells of the ring g, whose next free cell is A % 16, are f 0 .. f (D - 1), oldest first -/
def cw_H (D A : Nat) (f g : Nat → Int32) : Prop := ∀ j, j < D → f j = g ((A - D + j) % 16)
theorem cw_H0 (A : Nat) (f g : Nat → Int32) : cw_H 0 A f g := fun j h => absurd h (Nat.not_lt_zero j)
theorem cw_put {D A : Nat} {f g g' : Nat → Int32} {x : Int32} (h : cw_H D A f g) (hD : D < 16) (hA : D ≤ A) (h1 : g' (A % 16) = x) (h2 : ∀ i, i ≠ A % 16 → g' i = g i) : cw_H (D + 1) (A + 1) (upd f D x) g' := by
  intro j hj
  have e0 : A + 1 - (D + 1) = A - D := by omega
  rw [e0]
  by_cases z : j = D
  · subst z
    have e : A - j + j = A := by omega
    rw [cw_us, e, h1]
  · have hn : (A - D + j) % 16 ≠ A % 16 := by omega
    rw [cw_un z, h2 _ hn]
    exact h j (by omega)
theorem cw_pop {D A : Nat} {f g : Nat → Int32} (h : cw_H (D + 1) (A + 1) f g) (hA : D ≤ A) : cw_H D A f g ∧ f D = g (A % 16) := by
  have e0 : A + 1 - (D + 1) = A - D := by omega
  refine ⟨fun j hj => ?_, ?_⟩
  · have q := h j (by omega)
    rw [e0] at q
    exact q
  · have q := h D (by omega)
    have e : A - D + D = A := by omega
    rw [e0, e] at q
    exact q
/-- the array f once the cells ahead of s have moved down by one -/
def cw_mv (f : Nat → Int32) (s : Nat) : Nat → Int32 := fun j => if j + 1 < s then f (j + 1) else f j
theorem cw_mv1 (f : Nat → Int32) : cw_mv f 1 = f := by
  funext j
  exact if_neg (by omega)
theorem cw_mvv (f : Nat → Int32) (s : Nat) : cw_mv f s s = f s := if_neg (by omega)
theorem cw_mvs (f : Nat → Int32) (s : Nat) : upd (cw_mv f (s + 1)) s (f (s + 1)) = cw_mv f (s + 2) := by
  funext j
  by_cases z : j = s
  · subst z
    rw [cw_us]
    exact (if_pos (by omega)).symm
  · rw [cw_un z]
    by_cases y : j < s
    · exact (if_pos (by omega)).trans (if_pos (by omega)).symm
    · exact (if_neg (by omega)).trans (if_neg (by omega)).symm
theorem cw_fgt {A : Nat} {f g : Nat → Int32} (h : cw_H 16 A f g) (hA : 16 ≤ A) : cw_H 15 A (cw_mv f 16) g := by
  intro j hj
  have q := h (j + 1) (by omega)
  have e : A - 16 + (j + 1) = A - 15 + j := by omega
  rw [e] at q
  exact (if_pos (by omega)).trans q
theorem cw_vb (z : Int32) : vp_nar .byte z.toInt8.toInt32 = z.toInt8.toInt32 := by rw [vp_nar_byte]; simp
theorem cw_8 : nI 8 = 8 := by decide +kernel
theorem cw_16 : nI 16 = 16 := by decide +kernel
