section
/-! ===== one step and n steps of the register, as a pure function ===== -/
def cw_sh (r : Int32) : Int32 := (r.toUInt32 >>> ((1 : Int32).toUInt32 &&& Int32.toUInt32 31)).toInt32
def cw_st (r : Int32) : Int32 := if r &&& 1 = 1 then cw_sh r ^^^ (-306674912) else cw_sh r
def cw_it : Nat → Int32 → Int32
  | 0 => fun r => r
  | n + 1 => fun r => cw_it n (cw_st r)
theorem cw_us {f : Nat → Int32} {k : Nat} {x : Int32} : upd f k x k = x := if_pos rfl
theorem cw_un {f : Nat → Int32} {k j : Nat} {x : Int32} (h : j ≠ k) : upd f k x j = f j := if_neg h
theorem cw_and (x : Int32) {m : Int32} (k : Nat) (hm : m.toBitVec.toNat = 2 ^ k - 1) : x &&& m = nI (x.toBitVec.toNat % 2 ^ k) := by
  apply Int32.toBitVec_inj.mp
  apply BitVec.eq_of_toNat_eq
  rw [Int32.toBitVec_and, BitVec.toNat_and, hm, Nat.and_two_pow_sub_one_eq_mod]
  show _ = (BitVec.ofNat 32 _).toNat
  rw [BitVec.toNat_ofNat]
  exact (Nat.mod_eq_of_lt (Nat.lt_of_le_of_lt (Nat.mod_le _ _) x.toBitVec.isLt)).symm
/-- the lowest bit is 0 or 1 -/
theorem cw_b01 (r : Int32) : r &&& 1 = 0 ∨ r &&& 1 = 1 := by
  rw [cw_and r (m := 1) 1 (by decide)]
  have h : r.toBitVec.toNat % 2 ^ 1 = 0 ∨ r.toBitVec.toNat % 2 ^ 1 = 1 := by omega
  rcases h with h | h
  · rw [h]; exact Or.inl rfl
  · rw [h]; exact Or.inr rfl
theorem cw_st1 {r : Int32} (h : r &&& 1 = 1) : cw_st r = cw_sh r ^^^ (-306674912) := if_pos h
theorem cw_st0 {r : Int32} (h : ¬ r &&& 1 = 1) : cw_st r = cw_sh r := if_neg h
theorem cw_10 : ¬ (1 : Int32) = 0 := by decide
/-- the ring's index, for a counter of any size -/
theorem cw_ix (A : Nat) : nI A &&& 15 = nI (A % 16) := by
  rw [cw_and (nI A) (m := 15) 4 (by decide)]
  have e : (nI A).toBitVec.toNat = A % 2 ^ 32 := BitVec.toNat_ofNat A 32
  rw [e]
  congr 1
  omega
/-- a byte stored and read back unsigned is the argument's low byte -/
theorem cw_b (x : Int32) : x.toInt8.toInt32 &&& 255 = x &&& 255 := by
  apply Int32.toBitVec_inj.mp
  rw [Int32.toBitVec_and, Int32.toBitVec_and, Int8.toBitVec_toInt32, Int32.toBitVec_toInt8]
  apply BitVec.eq_of_getLsbD_eq
  intro i hi
  rw [BitVec.getLsbD_and, BitVec.getLsbD_and]
  have hm : ∀ i < 32, 8 ≤ i → (255 : Int32).toBitVec.getLsbD i = false := by decide
  rcases Nat.lt_or_ge i 8 with z | z
  · rw [BitVec.getLsbD_signExtend, BitVec.getLsbD_signExtend, if_pos z, if_pos hi]
    simp only [z, hi, decide_true, Bool.true_and]
  · rw [hm i hi z]; simp
/-! ===== the straight array beside the ring ===== -/
/-- the D newest cells of the ring g, whose next free cell is A % 16, are f 0 .. f (D - 1), oldest first -/
def cw_H (D A : Nat) (f g : Nat → Int32) : Prop := ∀ j, j < D → f j = g ((A - D + j) % 16)
theorem cw_H0 (A : Nat) (f g : Nat → Int32) : cw_H 0 A f g := fun j h => absurd h (Nat.not_lt_zero j)
theorem cw_put {D A : Nat} {f g g' : Nat → Int32} {x : Int32} (h : cw_H D A f g) (hD : D < 16) (hA : D ≤ A) (h1 : g' (A % 16) = x) (h2 : ∀ i, i ≠ A % 16 → g' i = g i) : cw_H (D + 1) (A + 1) (upd f D x) g' := by
  intro j hj
  have e0 : A + 1 - (D + 1) = A - D := by omega
  rw [e0]
  by_cases z : j = D
  · subst z
    have e : A - j + j = A := by omega
    rw [cw_us, e, h1]
  · have hn : (A - D + j) % 16 ≠ A % 16 := by omega
    rw [cw_un z, h2 _ hn]
    exact h j (by omega)
theorem cw_pop {D A : Nat} {f g : Nat → Int32} (h : cw_H (D + 1) (A + 1) f g) (hA : D ≤ A) : cw_H D A f g ∧ f D = g (A % 16) := by
  have e0 : A + 1 - (D + 1) = A - D := by omega
  refine ⟨fun j hj => ?_, ?_⟩
  · have q := h j (by omega)
    rw [e0] at q
    exact q
  · have q := h D (by omega)
    have e : A - D + D = A := by omega
    rw [e0, e] at q
    exact q
/-- the array f once the cells ahead of s have moved down by one -/
def cw_mv (f : Nat → Int32) (s : Nat) : Nat → Int32 := fun j => if j + 1 < s then f (j + 1) else f j
theorem cw_mv1 (f : Nat → Int32) : cw_mv f 1 = f := by
  funext j
  exact if_neg (by omega)
theorem cw_mvv (f : Nat → Int32) (s : Nat) : cw_mv f s s = f s := if_neg (by omega)
theorem cw_mvs (f : Nat → Int32) (s : Nat) : upd (cw_mv f (s + 1)) s (f (s + 1)) = cw_mv f (s + 2) := by
  funext j
  by_cases z : j = s
  · subst z
    rw [cw_us]
    exact (if_pos (by omega)).symm
  · rw [cw_un z]
    by_cases y : j < s
    · exact (if_pos (by omega)).trans (if_pos (by omega)).symm
    · exact (if_neg (by omega)).trans (if_neg (by omega)).symm
theorem cw_fgt {A : Nat} {f g : Nat → Int32} (h : cw_H 16 A f g) (hA : 16 ≤ A) : cw_H 15 A (cw_mv f 16) g := by
  intro j hj
  have q := h (j + 1) (by omega)
  have e : A - 16 + (j + 1) = A - 15 + j := by omega
  rw [e] at q
  exact (if_pos (by omega)).trans q
theorem cw_vb (z : Int32) : vp_nar .byte z.toInt8.toInt32 = z.toInt8.toInt32 := by rw [vp_nar_byte]; simp
theorem cw_8 : nI 8 = 8 := by decide +kernel
theorem cw_16 : nI 16 = 16 := by decide +kernel
end
section
/-! ===== X's walks ===== -/
/-- the rounds of registerAfter that are left, d of them -/
theorem cw_xr (post : Int32 → Prop) : ∀ d j : Nat, j + d = 8 → ∀ r : Int32, post (cw_it d r) → wX_registerAfter_6 post (d + 1) r (nI j) := by
  intro d
  induction d with
  | zero =>
    intro j hj r hp
    have h : (8 : Int32) ≤ nI j := by rw [← cw_8]; exact nI_le (by omega) (by omega)
    exact br_t h hp
  | succ d ih =>
    intro j hj r hp
    have h : ¬ (8 : Int32) ≤ nI j := by rw [← cw_8]; exact nI_ge (by omega) (by omega)
    by_cases z : r &&& 1 = 1
    · have e : cw_it (d + 1) r = cw_it d (cw_sh r ^^^ (-306674912)) := by
        show cw_it d (cw_st r) = _
        rw [cw_st1 z]
      rw [e] at hp
      refine br_f h (br_t z (fun y ey => br_f cw_10 (fun x ex k ek => ?_)))
      subst ek; subst ex; subst ey
      rw [nI_1 j]
      exact ih (j + 1) (by omega) _ hp
    · have e : cw_it (d + 1) r = cw_it d (cw_sh r) := by
        show cw_it d (cw_st r) = _
        rw [cw_st0 z]
      rw [e] at hp
      refine br_f h (br_f z (fun y ey => br_t rfl (fun k ek => ?_)))
      subst ek; subst ey
      rw [nI_1 j]
      exact ih (j + 1) (by omega) _ hp
/-- forgetOldest's loop: d slots are left to move -/
theorem cw_xf (post : SX → Prop) (f_register f_depth : Int32) (b c : Nat → Int32) (hp : post (f_register, 15, cw_mv b 16, cw_mv c 16)) : ∀ d j : Nat, j + d = 15 → wX_forgetOldest_2 post f_register f_depth (d + 1) (nI (j + 1)) (cw_mv b (j + 1)) (cw_mv c (j + 1)) := by
  intro d
  induction d with
  | zero =>
    intro j hj
    have e : j = 15 := by omega
    subst e
    have h : (16 : Int32) ≤ nI (15 + 1) := by rw [← cw_16]; exact nI_le (by omega) (by omega)
    exact br_t h hp
  | succ d ih =>
    intro j hj
    have h : ¬ (16 : Int32) ≤ nI (j + 1) := by rw [← cw_16]; exact nI_ge (by omega) (by omega)
    have hi : vp_in (nI (j + 1)) 16 := vp_in_nI (by omega) (by omega)
    have hi' : vp_in (nI (j + 1) - 1) 16 := by rw [nI_pred]; exact vp_in_nI (by omega) (by omega)
    have e1 : (nI (j + 1) - 1).toNatClampNeg = j := by rw [nI_pred, nI_clamp (by omega)]
    have e2 : (nI (j + 1)).toNatClampNeg = j + 1 := nI_clamp (by omega)
    refine br_f h ⟨hi, hi', fun y ey => ⟨hi, hi', fun z ez k ek => ?_⟩⟩
    rw [e1, e2, cw_mvv, cw_mvs] at ey ez
    subst ek; subst ey; subst ez
    rw [nI_1 (j + 1)]
    exact ih (j + 1) (by omega)
theorem cw_xfo (post : SX → Prop) (f_register f_depth : Int32) (b c : Nat → Int32) (hp : post (f_register, 15, cw_mv b 16, cw_mv c 16)) : wpX_forgetOldest post (f_register, f_depth, b, c) := by
  have q := cw_xf post f_register f_depth b c hp 15 0 rfl
  rw [cw_mv1, cw_mv1] at q
  exact ⟨16, q⟩
/-- feed behind its join, with D slots in use -/
theorem cw_x19 (post : Int32 → SX → Prop) (x r : Int32) (D : Nat) (hD : D < 16) (b c : Nat → Int32) (hp : post (nI (D + 1)) (cw_it 8 (r ^^^ x), nI (D + 1), upd b D x, upd c D r)) : wX_feed_19 post x r (nI D) b c := by
  have hi : vp_in (nI D) 16 := vp_in_nI hD (by omega)
  have e : (nI D).toNatClampNeg = D := nI_clamp (by omega)
  refine ⟨hi, fun y ey => ⟨hi, fun z ez k ek q eq => ⟨8 + 1, ?_⟩⟩⟩
  rw [e] at ey ez
  rw [nI_1 D] at ek
  subst ey; subst ez; subst ek; subst eq
  exact cw_xr _ 8 0 rfl _ hp
/-! ===== Y's walks ===== -/
theorem cw_yr (post : Int32 → SY → Prop) (f_reg f_at f_depth : Int32) (g s : Nat → Int32) : ∀ d j : Nat, j + d = 8 → ∀ r : Int32, ((16 ≤ f_depth → post f_depth (cw_it d r, f_at, f_depth, g, s)) ∧ (¬ 16 ≤ f_depth → ∀ q : Int32, q = f_depth + 1 → post q (cw_it d r, f_at, q, g, s))) → wY_feed_47 post f_reg f_at f_depth g s (d + 1) r (nI j) := by
  intro d
  induction d with
  | zero =>
    intro j hj r hp
    have h : (8 : Int32) ≤ nI j := by rw [← cw_8]; exact nI_le (by omega) (by omega)
    exact br_t h hp
  | succ d ih =>
    intro j hj r hp
    have h : ¬ (8 : Int32) ≤ nI j := by rw [← cw_8]; exact nI_ge (by omega) (by omega)
    by_cases z : r &&& 1 = 1
    · have e : cw_it (d + 1) r = cw_it d (cw_sh r ^^^ (-306674912)) := by
        show cw_it d (cw_st r) = _
        rw [cw_st1 z]
      rw [e] at hp
      have z0 : ¬ r &&& 1 = 0 := by rw [z]; exact cw_10
      refine br_f h (br_f z0 (fun x ex k ek => ?_))
      subst ek; subst ex
      rw [nI_1 j]
      exact ih (j + 1) (by omega) _ hp
    · have e : cw_it (d + 1) r = cw_it d (cw_sh r) := by
        show cw_it d (cw_st r) = _
        rw [cw_st0 z]
      rw [e] at hp
      have z0 : r &&& 1 = 0 := (cw_b01 r).resolve_right z
      refine br_f h (br_t z0 (fun x ex k ek => ?_))
      subst ek; subst ex
      rw [nI_1 j]
      exact ih (j + 1) (by omega) _ hp
theorem cw_yfeed (post : Int32 → SY → Prop) (r : Int32) (A : Nat) (f_depth : Int32) (g s : Nat → Int32) (v1 : Int32)
    (hp : (16 ≤ f_depth → post f_depth (cw_it 8 (r ^^^ (v1 &&& 255)), nI (A + 1), f_depth, upd g (A % 16) r, upd s (A % 16) v1.toInt8.toInt32)) ∧ (¬ 16 ≤ f_depth → ∀ q : Int32, q = f_depth + 1 → post q (cw_it 8 (r ^^^ (v1 &&& 255)), nI (A + 1), q, upd g (A % 16) r, upd s (A % 16) v1.toInt8.toInt32))) :
    wpY_feed post (r, nI A, f_depth, g, s) v1 := by
  intro a ea x ex
  rw [nI_1 A] at ea
  rw [cw_ix A] at ex
  have hi : vp_in (nI (A % 16)) 16 := vp_in_nI (by omega) (by omega)
  have e : (nI (A % 16)).toNatClampNeg = A % 16 := nI_clamp (by omega)
  subst ea; subst ex
  refine ⟨hi, fun y ey => ⟨hi, fun z ez q eq => ⟨8 + 1, ?_⟩⟩⟩
  rw [e] at ey
  rw [e, cw_vb] at ez
  subst ey; subst ez; subst eq
  exact cw_yr _ _ _ _ _ _ 8 0 rfl _ hp
end
section
/-- one register; D slots in use on both sides; the ring's counter A, of any size, is D or more; the D newest cells of the ring are the straight arrays -/
def i_Rel (_ : Nat) (u : SX) (v : SY) : Prop := ∃ D A : Nat, D ≤ 16 ∧ D ≤ A ∧ ∃ (r : Int32) (b c g s : Nat → Int32), u = (r, nI D, b, c) ∧ v = (r, nI A, nI D, g, s) ∧ cw_H D A c g ∧ cw_H D A b (fun i => s i &&& 255)
theorem i_up {k : Nat} {u : SX} {v : SY} (h : i_Rel k u v) : i_Rel (k + 2) u v := h
theorem i_vc0 : wpX_init (fun u => wpY_init (fun v => i_Rel 0 u v)) :=
  ⟨0, 0, by omega, by omega, _, _, _, _, _, rfl, rfl, cw_H0 _ _ _, cw_H0 _ _ _⟩
/-- the ring of bytes after a feed, beside the straight array of bytes -/
theorem cw_putb {D A : Nat} {b s : Nat → Int32} (v1 : Int32) (h : cw_H D A b (fun i => s i &&& 255)) (hD : D < 16) (hA : D ≤ A) : cw_H (D + 1) (A + 1) (upd b D (v1 &&& 255)) (fun i => upd s (A % 16) v1.toInt8.toInt32 i &&& 255) := by
  refine cw_put h hD hA ?_ (fun i hi => ?_)
  · show upd s (A % 16) v1.toInt8.toInt32 (A % 16) &&& 255 = v1 &&& 255
    rw [cw_us, cw_b]
  · show upd s (A % 16) v1.toInt8.toInt32 i &&& 255 = s i &&& 255
    rw [cw_un hi]
theorem i_vc_feed {k : Nat} {u : SX} {v : SY} (I : i_Rel k u v) (hk : k + 2 ≤ 1024) (v1 : Int32) : wpX_feed (fun r u' => wpY_feed (fun r' v' => r' = r ∧ i_Rel (k + 2) u' v') v v1) u v1 := by
  obtain ⟨D, A, hD, hA, r, b, c, g, s, rfl, rfl, hc, hb⟩ := I
  intro x ex
  subst ex
  by_cases z : D < 16
  · have h1 : nI D < 16 := by rw [← cw_16]; exact nI_lt z (by omega)
    have h2 : ¬ (16 : Int32) ≤ nI D := by rw [← cw_16]; exact nI_ge z (by omega)
    refine br_t h1 (cw_x19 _ _ _ D z b c ?_)
    refine cw_yfeed _ r A (nI D) g s v1 (br_f h2 (fun q eq => ?_))
    rw [nI_1 D] at eq
    subst eq
    exact ⟨rfl, D + 1, A + 1, by omega, by omega, _, _, _, _, _, rfl, rfl, cw_put hc z hA cw_us (fun i hi => cw_un hi), cw_putb v1 hb z hA⟩
  · have e : D = 16 := by omega
    subst e
    have h1 : ¬ nI 16 < 16 := by rw [cw_16]; decide
    have h2 : (16 : Int32) ≤ nI 16 := by rw [cw_16]; decide
    refine br_f h1 (cw_xfo _ _ _ _ _ ?_)
    refine cw_x19 _ _ _ 15 (by omega) (cw_mv b 16) (cw_mv c 16) ?_
    refine cw_yfeed _ r A (nI 16) g s v1 (br_t h2 ?_)
    exact ⟨rfl, 15 + 1, A + 1, by omega, by omega, _, _, _, _, _, rfl, rfl, cw_put (cw_fgt hc hA) (by omega) (by omega) cw_us (fun i hi => cw_un hi), cw_putb v1 (cw_fgt hb hA) (by omega) (by omega)⟩
theorem i_vc_unfeed {k : Nat} {u : SX} {v : SY} (I : i_Rel k u v) (hk : k + 2 ≤ 1024) : wpX_unfeed (fun r u' => wpY_unfeed (fun r' v' => r' = r ∧ i_Rel (k + 2) u' v') v) u := by
  obtain ⟨D, A, hD, hA, r, b, c, g, s, rfl, rfl, hc, hb⟩ := I
  cases D with
  | zero =>
    have h1 : ¬ (0 : Int32) < nI 0 := by rw [nI_0]; decide
    exact br_f h1 (br_t nI_0 ⟨rfl, 0, A, by omega, by omega, _, _, _, _, _, rfl, rfl, hc, hb⟩)
  | succ D =>
    obtain ⟨B, rfl⟩ : ∃ B, A = B + 1 := ⟨A - 1, by omega⟩
    have hB : D ≤ B := by omega
    obtain ⟨hc', ec⟩ := cw_pop hc hB
    obtain ⟨hb', eb⟩ := cw_pop hb hB
    have h1 : (0 : Int32) < nI (D + 1) := by rw [← nI_0]; exact nI_lt (by omega) (by omega)
    have h2 : ¬ nI (D + 1) = 0 := nI_ne0 (by omega) (by omega)
    have hi : vp_in (nI D) 16 := vp_in_nI (by omega) (by omega)
    have eD : (nI D).toNatClampNeg = D := nI_clamp (by omega)
    have hj : vp_in (nI (B % 16)) 16 := vp_in_nI (by omega) (by omega)
    have eB : (nI (B % 16)).toNatClampNeg = B % 16 := nI_clamp (by omega)
    refine br_t h1 (fun d ed => ?_)
    rw [nI_pred D] at ed
    subst ed
    refine ⟨hi, fun y ey => ⟨hi, ?_⟩⟩
    rw [eD] at ey
    subst ey
    refine br_f h2 (fun d ed a ea x ex => ?_)
    rw [nI_pred D] at ed
    rw [nI_pred B] at ea
    rw [nI_pred B, cw_ix B] at ex
    subst ed; subst ea; subst ex
    refine ⟨hj, fun w ew => ⟨hj, ?_⟩⟩
    rw [eB] at ew
    subst ew
    refine ⟨?_, D, B, by omega, hB, _, _, _, _, _, rfl, ?_, hc', hb'⟩
    · rw [eB, eD]; exact eb.symm
    · rw [ec]
theorem i_vc_value {k : Nat} {u : SX} {v : SY} (I : i_Rel k u v) (hk : k + 2 ≤ 1024) : wpX_value (fun r => wpY_value (fun r' => r' = r ∧ i_Rel (k + 2) u v) v) u := by
  obtain ⟨D, A, hD, hA, r, b, c, g, s, rfl, rfl, hc, hb⟩ := I
  exact ⟨rfl, D, A, hD, hA, _, _, _, _, _, rfl, rfl, hc, hb⟩
theorem i_vc_depth {k : Nat} {u : SX} {v : SY} (I : i_Rel k u v) (hk : k + 2 ≤ 1024) : wpX_depth (fun r => wpY_depth (fun r' => r' = r ∧ i_Rel (k + 2) u v) v) u := by
  obtain ⟨D, A, hD, hA, r, b, c, g, s, rfl, rfl, hc, hb⟩ := I
  exact ⟨rfl, D, A, hD, hA, _, _, _, _, _, rfl, rfl, hc, hb⟩
end
