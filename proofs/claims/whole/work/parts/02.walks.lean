/-! ===== X's walks ===== -/
/-- the rounds of registerAfter that are left, d of them -/
theorem cw_xr (post : Int32 → Prop) : ∀ d j : Nat, j + d = 8 → ∀ r : Int32, post (cw_it d r) → wX_registerAfter_6 post (d + 1) r (nI j) := by
  intro d
  induction d with
  | zero =>
    intro j hj r hp
    have h : (8 : Int32) ≤ nI j := by rw [← cw_8]; exact nI_le (by omega) (by omega)
    exact br_t h hp
  | succ d ih =>
    intro j hj r hp
    have h : ¬ (8 : Int32) ≤ nI j := by rw [← cw_8]; exact nI_ge (by omega) (by omega)
    by_cases z : r &&& 1 = 1
    · have e : cw_it (d + 1) r = cw_it d (cw_sh r ^^^ (-306674912)) := by
        show cw_it d (cw_st r) = _
        rw [cw_st1 z]
      rw [e] at hp
      refine br_f h (br_t z (fun y ey => br_f cw_10 (fun x ex k ek => ?_)))
      subst ek; subst ex; subst ey
      rw [nI_1 j]
      exact ih (j + 1) (by omega) _ hp
    · have e : cw_it (d + 1) r = cw_it d (cw_sh r) := by
        show cw_it d (cw_st r) = _
        rw [cw_st0 z]
      rw [e] at hp
      refine br_f h (br_f z (fun y ey => br_t rfl (fun k ek => ?_)))
      subst ek; subst ey
      rw [nI_1 j]
      exact ih (j + 1) (by omega) _ hp
/-- forgetOldest's loop: d slots are left to move -/
theorem cw_xf (post : SX → Prop) (f_register f_depth : Int32) (b c : Nat → Int32) (hp : post (f_register, 15, cw_mv b 16, cw_mv c 16)) : ∀ d j : Nat, j + d = 15 → wX_forgetOldest_2 post f_register f_depth (d + 1) (nI (j + 1)) (cw_mv b (j + 1)) (cw_mv c (j + 1)) := by
  intro d
  induction d with
  | zero =>
    intro j hj
    have e : j = 15 := by omega
    subst e
    have h : (16 : Int32) ≤ nI (15 + 1) := by rw [← cw_16]; exact nI_le (by omega) (by omega)
    exact br_t h hp
  | succ d ih =>
    intro j hj
    have h : ¬ (16 : Int32) ≤ nI (j + 1) := by rw [← cw_16]; exact nI_ge (by omega) (by omega)
    have hi : vp_in (nI (j + 1)) 16 := vp_in_nI (by omega) (by omega)
    have hi' : vp_in (nI (j + 1) - 1) 16 := by rw [nI_pred]; exact vp_in_nI (by omega) (by omega)
    have e1 : (nI (j + 1) - 1).toNatClampNeg = j := by rw [nI_pred, nI_clamp (by omega)]
    have e2 : (nI (j + 1)).toNatClampNeg = j + 1 := nI_clamp (by omega)
    refine br_f h ⟨hi, hi', fun y ey => ⟨hi, hi', fun z ez k ek => ?_⟩⟩
    rw [e1, e2, cw_mvv, cw_mvs] at ey ez
    subst ek; subst ey; subst ez
    rw [nI_1 (j + 1)]
    exact ih (j + 1) (by omega)
theorem cw_xfo (post : SX → Prop) (f_register f_depth : Int32) (b c : Nat → Int32) (hp : post (f_register, 15, cw_mv b 16, cw_mv c 16)) : wpX_forgetOldest post (f_register, f_depth, b, c) := by
  have q := cw_xf post f_register f_depth b c hp 15 0 rfl
  rw [cw_mv1, cw_mv1] at q
  exact ⟨16, q⟩
/-- feed behind its join, with D slots in use -/
theorem cw_x19 (post : Int32 → SX → Prop) (x r : Int32) (D : Nat) (hD : D < 16) (b c : Nat → Int32) (hp : post (nI (D + 1)) (cw_it 8 (r ^^^ x), nI (D + 1), upd b D x, upd c D r)) : wX_feed_19 post x r (nI D) b c := by
  have hi : vp_in (nI D) 16 := vp_in_nI hD (by omega)
  have e : (nI D).toNatClampNeg = D := nI_clamp (by omega)
  refine ⟨hi, fun y ey => ⟨hi, fun z ez k ek q eq => ⟨8 + 1, ?_⟩⟩⟩
  rw [e] at ey ez
  rw [nI_1 D] at ek
  subst ey; subst ez; subst ek; subst eq
  exact cw_xr _ 8 0 rfl _ hp
/-! ===== Y's walks ===== -/
theorem cw_yr (post : Int32 → SY → Prop) (f_reg f_at f_depth : Int32) (g s : Nat → Int32) : ∀ d j : Nat, j + d = 8 → ∀ r : Int32, ((16 ≤ f_depth → post f_depth (cw_it d r, f_at, f_depth, g, s)) ∧ (¬ 16 ≤ f_depth → ∀ q : Int32, q = f_depth + 1 → post q (cw_it d r, f_at, q, g, s))) → wY_feed_47 post f_reg f_at f_depth g s (d + 1) r (nI j) := by
  intro d
  induction d with
  | zero =>
    intro j hj r hp
    have h : (8 : Int32) ≤ nI j := by rw [← cw_8]; exact nI_le (by omega) (by omega)
    exact br_t h hp
  | succ d ih =>
    intro j hj r hp
    have h : ¬ (8 : Int32) ≤ nI j := by rw [← cw_8]; exact nI_ge (by omega) (by omega)
    by_cases z : r &&& 1 = 1
    · have e : cw_it (d + 1) r = cw_it d (cw_sh r ^^^ (-306674912)) := by
        show cw_it d (cw_st r) = _
        rw [cw_st1 z]
      rw [e] at hp
      have z0 : ¬ r &&& 1 = 0 := by rw [z]; exact cw_10
      refine br_f h (br_f z0 (fun x ex k ek => ?_))
      subst ek; subst ex
      rw [nI_1 j]
      exact ih (j + 1) (by omega) _ hp
    · have e : cw_it (d + 1) r = cw_it d (cw_sh r) := by
        show cw_it d (cw_st r) = _
        rw [cw_st0 z]
      rw [e] at hp
      have z0 : r &&& 1 = 0 := (cw_b01 r).resolve_right z
      refine br_f h (br_t z0 (fun x ex k ek => ?_))
      subst ek; subst ex
      rw [nI_1 j]
      exact ih (j + 1) (by omega) _ hp
theorem cw_yfeed (post : Int32 → SY → Prop) (r : Int32) (A : Nat) (f_depth : Int32) (g s : Nat → Int32) (v1 : Int32)
    (hp : (16 ≤ f_depth → post f_depth (cw_it 8 (r ^^^ (v1 &&& 255)), nI (A + 1), f_depth, upd g (A % 16) r, upd s (A % 16) v1.toInt8.toInt32)) ∧ (¬ 16 ≤ f_depth → ∀ q : Int32, q = f_depth + 1 → post q (cw_it 8 (r ^^^ (v1 &&& 255)), nI (A + 1), q, upd g (A % 16) r, upd s (A % 16) v1.toInt8.toInt32))) :
    wpY_feed post (r, nI A, f_depth, g, s) v1 := by
  intro a ea x ex
  rw [nI_1 A] at ea
  rw [cw_ix A] at ex
  have hi : vp_in (nI (A % 16)) 16 := vp_in_nI (by omega) (by omega)
  have e : (nI (A % 16)).toNatClampNeg = A % 16 := nI_clamp (by omega)
  subst ea; subst ex
  refine ⟨hi, fun y ey => ⟨hi, fun z ez q eq => ⟨8 + 1, ?_⟩⟩⟩
  rw [e] at ey
  rw [e, cw_vb] at ez
  subst ey; subst ez; subst eq
  exact cw_yr _ _ _ _ _ _ 8 0 rfl _ hp
