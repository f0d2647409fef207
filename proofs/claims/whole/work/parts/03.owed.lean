/-- one register; D slots in use on both sides; the ring's counter A, of any size, is D or more; the D newest cells of the ring are the straight arrays -/
def i_Rel (_ : Nat) (u : SX) (v : SY) : Prop := ∃ D A : Nat, D ≤ 16 ∧ D ≤ A ∧ ∃ (r : Int32) (b c g s : Nat → Int32), u = (r, nI D, b, c) ∧ v = (r, nI A, nI D, g, s) ∧ cw_H D A c g ∧ cw_H D A b (fun i => s i &&& 255)
theorem i_up {k : Nat} {u : SX} {v : SY} (h : i_Rel k u v) : i_Rel (k + 2) u v := h
theorem i_vc0 : wpX_init (fun u => wpY_init (fun v => i_Rel 0 u v)) :=
  ⟨0, 0, by omega, by omega, _, _, _, _, _, rfl, rfl, cw_H0 _ _ _, cw_H0 _ _ _⟩
/-- the ring of bytes after a feed, beside the straight array of bytes -/
theorem cw_putb {D A : Nat} {b s : Nat → Int32} (v1 : Int32) (h : cw_H D A b (fun i => s i &&& 255)) (hD : D < 16) (hA : D ≤ A) : cw_H (D + 1) (A + 1) (upd b D (v1 &&& 255)) (fun i => upd s (A % 16) v1.toInt8.toInt32 i &&& 255) := by
  refine cw_put h hD hA ?_ (fun i hi => ?_)
  · show upd s (A % 16) v1.toInt8.toInt32 (A % 16) &&& 255 = v1 &&& 255
    rw [cw_us, cw_b]
  · show upd s (A % 16) v1.toInt8.toInt32 i &&& 255 = s i &&& 255
    rw [cw_un hi]
theorem i_vc_feed {k : Nat} {u : SX} {v : SY} (I : i_Rel k u v) (hk : k + 2 ≤ 1024) (v1 : Int32) : wpX_feed (fun r u' => wpY_feed (fun r' v' => r' = r ∧ i_Rel (k + 2) u' v') v v1) u v1 := by
  obtain ⟨D, A, hD, hA, r, b, c, g, s, rfl, rfl, hc, hb⟩ := I
  intro x ex
  subst ex
  by_cases z : D < 16
  · have h1 : nI D < 16 := by rw [← cw_16]; exact nI_lt z (by omega)
    have h2 : ¬ (16 : Int32) ≤ nI D := by rw [← cw_16]; exact nI_ge z (by omega)
    refine br_t h1 (cw_x19 _ _ _ D z b c ?_)
    refine cw_yfeed _ r A (nI D) g s v1 (br_f h2 (fun q eq => ?_))
    rw [nI_1 D] at eq
    subst eq
    exact ⟨rfl, D + 1, A + 1, by omega, by omega, _, _, _, _, _, rfl, rfl, cw_put hc z hA cw_us (fun i hi => cw_un hi), cw_putb v1 hb z hA⟩
  · have e : D = 16 := by omega
    subst e
    have h1 : ¬ nI 16 < 16 := by rw [cw_16]; decide
    have h2 : (16 : Int32) ≤ nI 16 := by rw [cw_16]; decide
    refine br_f h1 (cw_xfo _ _ _ _ _ ?_)
    refine cw_x19 _ _ _ 15 (by omega) (cw_mv b 16) (cw_mv c 16) ?_
    refine cw_yfeed _ r A (nI 16) g s v1 (br_t h2 ?_)
    exact ⟨rfl, 15 + 1, A + 1, by omega, by omega, _, _, _, _, _, rfl, rfl, cw_put (cw_fgt hc hA) (by omega) (by omega) cw_us (fun i hi => cw_un hi), cw_putb v1 (cw_fgt hb hA) (by omega) (by omega)⟩
theorem i_vc_unfeed {k : Nat} {u : SX} {v : SY} (I : i_Rel k u v) (hk : k + 2 ≤ 1024) : wpX_unfeed (fun r u' => wpY_unfeed (fun r' v' => r' = r ∧ i_Rel (k + 2) u' v') v) u := by
  obtain ⟨D, A, hD, hA, r, b, c, g, s, rfl, rfl, hc, hb⟩ := I
  cases D with
  | zero =>
    have h1 : ¬ (0 : Int32) < nI 0 := by rw [nI_0]; decide
    exact br_f h1 (br_t nI_0 ⟨rfl, 0, A, by omega, by omega, _, _, _, _, _, rfl, rfl, hc, hb⟩)
  | succ D =>
    obtain ⟨B, rfl⟩ : ∃ B, A = B + 1 := ⟨A - 1, by omega⟩
    have hB : D ≤ B := by omega
    obtain ⟨hc', ec⟩ := cw_pop hc hB
    obtain ⟨hb', eb⟩ := cw_pop hb hB
    have h1 : (0 : Int32) < nI (D + 1) := by rw [← nI_0]; exact nI_lt (by omega) (by omega)
    have h2 : ¬ nI (D + 1) = 0 := nI_ne0 (by omega) (by omega)
    have hi : vp_in (nI D) 16 := vp_in_nI (by omega) (by omega)
    have eD : (nI D).toNatClampNeg = D := nI_clamp (by omega)
    have hj : vp_in (nI (B % 16)) 16 := vp_in_nI (by omega) (by omega)
    have eB : (nI (B % 16)).toNatClampNeg = B % 16 := nI_clamp (by omega)
    refine br_t h1 (fun d ed => ?_)
    rw [nI_pred D] at ed
    subst ed
    refine ⟨hi, fun y ey => ⟨hi, ?_⟩⟩
    rw [eD] at ey
    subst ey
    refine br_f h2 (fun d ed a ea x ex => ?_)
    rw [nI_pred D] at ed
    rw [nI_pred B] at ea
    rw [nI_pred B, cw_ix B] at ex
    subst ed; subst ea; subst ex
    refine ⟨hj, fun w ew => ⟨hj, ?_⟩⟩
    rw [eB] at ew
    subst ew
    refine ⟨?_, D, B, by omega, hB, _, _, _, _, _, rfl, ?_, hc', hb'⟩
    · rw [eB, eD]; exact eb.symm
    · rw [ec]
theorem i_vc_value {k : Nat} {u : SX} {v : SY} (I : i_Rel k u v) (hk : k + 2 ≤ 1024) : wpX_value (fun r => wpY_value (fun r' => r' = r ∧ i_Rel (k + 2) u v) v) u := by
  obtain ⟨D, A, hD, hA, r, b, c, g, s, rfl, rfl, hc, hb⟩ := I
  exact ⟨rfl, D, A, hD, hA, _, _, _, _, _, rfl, rfl, hc, hb⟩
theorem i_vc_depth {k : Nat} {u : SX} {v : SY} (I : i_Rel k u v) (hk : k + 2 ≤ 1024) : wpX_depth (fun r => wpY_depth (fun r' => r' = r ∧ i_Rel (k + 2) u v) v) u := by
  obtain ⟨D, A, hD, hA, r, b, c, g, s, rfl, rfl, hc, hb⟩ := I
  exact ⟨rfl, D, A, hD, hA, _, _, _, _, _, rfl, rfl, hc, hb⟩
