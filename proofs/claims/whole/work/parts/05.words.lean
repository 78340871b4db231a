/-! ===== product, inverse, substitution ===== -/
theorem qb_bitN {y i : Nat} (hy : y < 256) (hi : i < 8) : (nI y >>> (nI i &&& 31)) &&& 1 = nI ((y >>> i) % 2) := by
  have h : y / 2 ^ i ≤ y := Nat.div_le_self _ _
  rw [pk_shrN (by omega) _ i (s_l i (by omega)), pk_andN (by omega) 1 (by decide), Nat.shiftRight_eq_div_pow]
theorem qx_p28 (post : Int32 → Prop) (J : Int32 → Int32 → Int32 → Prop) (y r : Int32) {d : Nat} (hd : d < 256) (i : Nat) (H : J r (nI (qb_tw d)) (nI (i + 1))) : wX_product_28 post J y r (nI d) (nI i) := by
  unfold wX_product_28
  refine nm_r (pk_mul 2 d) ?_
  refine pk_le (2 * d) 255 (fun h => nm_r (nI_1 i) ?_) (fun h => nm_r (nx_xor (2 * d) 283) (nm_r (nI_1 i) ?_))
  · rw [(qb_tw_j d hd).2 (by omega)] at H; exact H
  · rw [(qb_tw_j d hd).1 (by omega)] at H; exact H
theorem qx_product (post : Int32 → Prop) {x y : Nat} (hx : x < 256) (hy : y < 256) (H : post (nI (qb_tm x y))) : wpX_product post (nI x) (nI y) := by
  show ∃ n, wX_product_7 post (nI y) n 0 (nI x) 0
  refine pk_loop (σ := Int32 × Int32) (fun n i s => wX_product_7 post (nI y) n s.1 s.2 (nI i)) (fun i s => s.1 = nI (qb_ps x y i) ∧ s.2 = nI (qb_dk x i)) 8 0 (0, nI x) (by decide) ⟨rfl, rfl⟩ ?_ ?_
  · rintro n ⟨r, d⟩ ⟨h1, h2⟩
    obtain rfl : r = nI (qb_ps x y 8) := h1
    exact br_t (nI_le (a := 8) (b := 8) (Nat.le_refl 8) (by decide)) H
  · rintro n i ⟨r, d⟩ hi ⟨h1, h2⟩ ih
    obtain rfl : r = nI (qb_ps x y i) := h1
    obtain rfl : d = nI (qb_dk x i) := h2
    have e1 := qb_bitN hy hi
    have hd := qb_dk_lt hx i
    rcases Nat.mod_two_eq_zero_or_one (y >>> i) with e | e
    · refine br_f (nI_ge (b := 8) hi (by decide)) (br_f (by rw [e1, e]; decide) (qx_p28 _ _ _ _ hd i (ih (nI (qb_ps x y i), nI (qb_tw (qb_dk x i))) ⟨?_, rfl⟩)))
      show nI (qb_ps x y i) = nI (qb_ps x y (i + 1))
      rw [qb_ps_s, e, Nat.zero_mul, Nat.xor_zero]
    · refine br_f (nI_ge (b := 8) hi (by decide)) (br_t (by rw [e1, e]; rfl) (nm_r (nx_xor _ _) (qx_p28 _ _ _ _ hd i (ih (nI (qb_ps x y i ^^^ qb_dk x i), nI (qb_tw (qb_dk x i))) ⟨?_, rfl⟩))))
      show nI (qb_ps x y i ^^^ qb_dk x i) = nI (qb_ps x y (i + 1))
      rw [qb_ps_s, e, Nat.one_mul]
theorem qx_inverse (post : Int32 → Prop) {x : Nat} (hx : x < 256) (H : post (nI (qb_IV x))) : wpX_inverse post (nI x) := by
  show ∃ n, wX_inverse_4 post (nI x) n 1 0
  refine pk_loop (σ := Int32) (fun n i s => wX_inverse_4 post (nI x) n s (nI i)) (fun i s => s = nI (qb_pw x i)) 7 0 1 (by decide) rfl ?_ ?_
  · rintro n s h
    obtain rfl : s = nI (qb_pw x 7) := h
    exact br_t (nI_le (a := 7) (b := 7) (Nat.le_refl 7) (by decide)) (qx_product _ (qb_pw_lt x 7) (qb_pw_lt x 7) (by rw [qb_iv x hx]; exact H))
  · rintro n i s hi h ih
    obtain rfl : s = nI (qb_pw x i) := h
    exact br_f (nI_ge (b := 7) hi (by decide)) (qx_product _ (qb_pw_lt x i) (qb_pw_lt x i) (qx_product _ (qb_tm_lt (qb_pw_lt x i) _) hx (nm_r (nI_1 i) (ih _ rfl))))
def qb_sX (v : Int32) : Int32 :=
  let t : Int32 := v ||| (v <<< ((8 : Int32) &&& 31))
  (((((t ^^^ (t >>> ((4 : Int32) &&& 31))) ^^^ (t >>> ((5 : Int32) &&& 31))) ^^^ (t >>> ((6 : Int32) &&& 31))) ^^^ (t >>> ((7 : Int32) &&& 31))) &&& 255) ^^^ 99
theorem qb_sE : ∀ x, x < 256 → qb_sX (nI (qb_IV x)) = nI (qb_SB x) := by decide +kernel
theorem qx_substitution (post : Int32 → Prop) {x : Nat} (hx : x < 256) (H : post (nI (qb_SB x))) : wpX_substitution post (nI x) := by
  rw [← qb_sE x hx] at H
  unfold wpX_substitution
  exact qx_inverse _ hx (nm_e (nm_e H))
theorem qy_twice (post : Int32 → Prop) {d : Nat} (hd : d < 256) (H : post (nI (qb_tw d))) : wpY_twice post (nI d) := by
  unfold wpY_twice
  have e : (2 : Int32) * nI d = nI (2 * d) := pk_mul 2 d
  have e2 : nI (2 * d) ^^^ 283 = nI ((2 * d) ^^^ 283) := nx_xor (2 * d) 283
  rw [e, e2]
  refine pk_le (2 * d) 255 (fun h => ?_) (fun h => ?_)
  · rw [(qb_tw_j d hd).2 (by omega)] at H; exact H
  · rw [(qb_tw_j d hd).1 (by omega)] at H; exact H
theorem qy_p28 (post : Int32 → Prop) (J : Int32 → Int32 → Int32 → Prop) (y r : Int32) {d : Nat} (hd : d < 256) (i : Nat) (H : J r (nI (qb_tw d)) (nI (i + 1))) : wY_times_28 post J y r (nI d) (nI i) := by
  unfold wY_times_28
  exact qy_twice _ hd (nm_r (nI_1 i) H)
theorem qy_times (post : Int32 → Prop) {x y : Nat} (hx : x < 256) (hy : y < 256) (H : post (nI (qb_tm x y))) : wpY_times post (nI x) (nI y) := by
  show ∃ n, wY_times_7 post (nI y) n 0 (nI x) 0
  refine pk_loop (σ := Int32 × Int32) (fun n i s => wY_times_7 post (nI y) n s.1 s.2 (nI i)) (fun i s => s.1 = nI (qb_ps x y i) ∧ s.2 = nI (qb_dk x i)) 8 0 (0, nI x) (by decide) ⟨rfl, rfl⟩ ?_ ?_
  · rintro n ⟨r, d⟩ ⟨h1, h2⟩
    obtain rfl : r = nI (qb_ps x y 8) := h1
    exact br_t (nI_le (a := 8) (b := 8) (Nat.le_refl 8) (by decide)) H
  · rintro n i ⟨r, d⟩ hi ⟨h1, h2⟩ ih
    obtain rfl : r = nI (qb_ps x y i) := h1
    obtain rfl : d = nI (qb_dk x i) := h2
    have e1 := qb_bitN hy hi
    have hd := qb_dk_lt hx i
    rcases Nat.mod_two_eq_zero_or_one (y >>> i) with e | e
    · refine br_f (nI_ge (b := 8) hi (by decide)) (br_f (by rw [e1, e]; decide) (qy_p28 _ _ _ _ hd i (ih (nI (qb_ps x y i), nI (qb_tw (qb_dk x i))) ⟨?_, rfl⟩)))
      show nI (qb_ps x y i) = nI (qb_ps x y (i + 1))
      rw [qb_ps_s, e, Nat.zero_mul, Nat.xor_zero]
    · refine br_f (nI_ge (b := 8) hi (by decide)) (br_t (by rw [e1, e]; rfl) (nm_r (nx_xor _ _) (qy_p28 _ _ _ _ hd i (ih (nI (qb_ps x y i ^^^ qb_dk x i), nI (qb_tw (qb_dk x i))) ⟨?_, rfl⟩))))
      show nI (qb_ps x y i ^^^ qb_dk x i) = nI (qb_ps x y (i + 1))
      rw [qb_ps_s, e, Nat.one_mul]
theorem qy_inv (post : Int32 → Prop) {x : Nat} (hx : x < 256) : ∀ n, n ≤ 255 → post (nI (qb_sc x n)) → wY_inverse_2 post (nI x) (n + 1) (nI (256 - n)) := by
  intro n
  induction n with
  | zero => exact fun _ H => br_t (nI_le (a := 256) (b := 256) (Nat.le_refl 256) (by decide)) H
  | succ n ih =>
    intro hn H
    have e : 256 - (n + 1) = 255 - n := by omega
    have hs : qb_sc x (n + 1) = cond (Nat.beq (qb_tm x (255 - n)) 1) (255 - n) (qb_sc x n) := rfl
    have ht : qb_tm x (255 - n) < 256 := qb_tm_lt hx _
    rw [e]
    refine br_f (nI_ge (b := 256) (by omega) (by decide)) (qy_times _ hx (by omega) ?_)
    refine pk_eq (qb_tm x (255 - n)) 1 (fun h => ?_) (fun h => ?_)
    · rw [hs, h] at H
      exact H
    · have hb : Nat.beq (qb_tm x (255 - n)) 1 = false := by
        cases hc : Nat.beq (qb_tm x (255 - n)) 1 with
        | false => rfl
        | true => exact absurd (Nat.eq_of_beq_eq_true hc) h
      rw [hs, hb] at H
      exact nm_r ((nI_1 (255 - n)).trans (congrArg nI (by omega : 255 - n + 1 = 256 - n))) (ih (by omega) H)
theorem qy_inverse (post : Int32 → Prop) {x : Nat} (hx : x < 256) (H : post (nI (qb_IV x))) : wpY_inverse post (nI x) := by
  rw [← qb_scI x hx] at H
  exact ⟨256, qy_inv post hx 255 (Nat.le_refl 255) H⟩
def qb_s1 (x0 x2 : Int32) : Int32 := (((((x0 >>> (x2 &&& 31)) ^^^ (x0 >>> (((x2 + 4) - (x2 + 4) / 8 * 8) &&& 31))) ^^^ (x0 >>> (((x2 + 5) - (x2 + 5) / 8 * 8) &&& 31))) ^^^ (x0 >>> (((x2 + 6) - (x2 + 6) / 8 * 8) &&& 31))) ^^^ (x0 >>> (((x2 + 7) - (x2 + 7) / 8 * 8) &&& 31))) ^^^ ((99 : Int32) >>> (x2 &&& 31))
def qb_sp (v : Int32) : Nat → Int32
  | 0 => 0
  | k + 1 => qb_sp v k ||| ((qb_s1 v (nI k) &&& 1) <<< (nI k &&& 31))
theorem qb_spE : ∀ x, x < 256 → qb_sp (nI (qb_IV x)) 8 = nI (qb_SB x) := by decide +kernel
theorem qy_spread (post : Int32 → Prop) {x : Nat} (hx : x < 256) (H : post (nI (qb_SB x))) : wpY_spread post (nI (qb_IV x)) := by
  rw [← qb_spE x hx] at H
  generalize nI (qb_IV x) = v at H ⊢
  show ∃ n, wY_spread_4 post v n 0 0
  refine pk_loop (σ := Int32) (fun n i s => wY_spread_4 post v n s (nI i)) (fun i s => s = qb_sp v i) 8 0 0 (by decide) rfl ?_ ?_
  · rintro n s h
    obtain rfl : s = qb_sp v 8 := h
    exact br_t (nI_le (a := 8) (b := 8) (Nat.le_refl 8) (by decide)) H
  · rintro n i s hi h ih
    obtain rfl : s = qb_sp v i := h
    exact br_f (nI_ge (b := 8) hi (by decide)) ⟨by decide, by decide, by decide, by decide, nm_e (nm_e (nm_r (nI_1 i) (ih (qb_sp v (i + 1)) rfl)))⟩
/-! a word substituted -/
def qb_sw (w : Int32) : Int32 := qb_j4 (nI (qb_SB (qb_by w 0))) (nI (qb_SB (qb_by w 1))) (nI (qb_SB (qb_by w 2))) (nI (qb_SB (qb_by w 3)))
def qb_Tab (a : Nat → Int32) : Prop := ∀ x, x < 256 → a x = nI (qb_SB x)
theorem qx_sw (post : Int32 → Prop) {a1 a2 a3 a4 a5 a6 a7 a8 a9 : Nat → Int32} (hT : qb_Tab a1) (w : Int32) (H : post (qb_sw w)) : wpX_substituteWord post (a1, a2, a3, a4, a5, a6, a7, a8, a9) w := by
  have e0 := qb_b0 w
  have e1 : (w.toUInt32 >>> ((16 : Int32).toUInt32 &&& Int32.toUInt32 31)).toInt32 &&& 255 = nI (qb_by w 1) := qb_byX w 16 (by decide)
  have e2 : (w.toUInt32 >>> ((8 : Int32).toUInt32 &&& Int32.toUInt32 31)).toInt32 &&& 255 = nI (qb_by w 2) := qb_byX w 8 (by decide)
  have e3 : w &&& 255 = nI (qb_by w 3) := by
    have e : qb_by w 3 = w.toBitVec.toNat % 2 ^ 8 := by
      show w.toBitVec.toNat / 1 % 2 ^ 8 = _
      rw [Nat.div_one]
    rw [e]; exact pk_and w 8 (by decide)
  have h0 := qb_by_lt w 0
  have h1 := qb_by_lt w 1
  have h2 := qb_by_lt w 2
  have h3 := qb_by_lt w 3
  unfold wpX_substituteWord
  dsimp only
  rw [e0, e1, e2, e3, nI_clamp (n := qb_by w 0) (by omega), nI_clamp (n := qb_by w 1) (by omega), nI_clamp (n := qb_by w 2) (by omega), nI_clamp (n := qb_by w 3) (by omega), hT _ h0, hT _ h1, hT _ h2, hT _ h3]
  exact ⟨vp_in_nI h0 (by decide), vp_in_nI h1 (by decide), vp_in_nI h2 (by decide), vp_in_nI h3 (by decide), H⟩
def qb_yl (w : Int32) : Nat → Int32
  | 0 => 0
  | i + 1 => qb_l8 (qb_yl w i) (nI (qb_SB (qb_by w i)))
theorem qb_yl4 (w : Int32) : qb_yl w 4 = qb_sw w := qb_j4l _ _ _ _
theorem qy_sw (post : Int32 → Prop) {b1 b2 b3 b4 b5 b6 b7 b8 b9 : Nat → Int32} (hT : qb_Tab b1) (w : Int32) (H : post (qb_sw w)) : wpY_substituted post (b1, b2, b3, b4, b5, b6, b7, b8, b9) w := by
  rw [← qb_yl4] at H
  show ∃ n, wY_substituted_4 post w b1 b2 b3 b4 b5 b6 b7 b8 b9 n 0 0
  refine pk_loop (σ := Int32) (fun n i s => wY_substituted_4 post w b1 b2 b3 b4 b5 b6 b7 b8 b9 n s (nI i)) (fun i s => s = qb_yl w i) 4 0 0 (by decide) rfl ?_ ?_
  · rintro n s h
    obtain rfl : s = qb_yl w 4 := h
    exact br_t (nI_le (a := 4) (b := 4) (Nat.le_refl 4) (by decide)) H
  · rintro n i s hi h ih
    obtain rfl : s = qb_yl w i := h
    refine br_f (nI_ge (b := 4) hi (by decide)) ?_
    unfold wpY_byteOf
    have hb := qb_by_lt w i
    rw [qb_bY w hi]
    refine ⟨vp_in_nI hb (by decide), nm_r ?_ (nm_r (nI_1 i) (ih (qb_yl w (i + 1)) rfl))⟩
    rw [nI_clamp (n := qb_by w i) (by omega), hT _ hb]
    rfl
