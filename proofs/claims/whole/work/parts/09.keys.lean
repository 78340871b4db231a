/-! ===== round keys ===== -/
def qb_rt (t : Int32) : Int32 := (t <<< ((8 : Int32) &&& 31)) ||| ((t.toUInt32 >>> ((24 : Int32).toUInt32 &&& Int32.toUInt32 31)).toInt32)
def qb_kt (m p : Nat) (a : Nat → Int32) : Int32 := if (m + 4) % 4 = 0 then qb_sw (qb_rt (a (m + 3))) ^^^ (nI p <<< ((24 : Int32) &&& 31)) else a (m + 3)
def qb_kp (a : Nat → Int32) : Nat → Nat × (Nat → Int32)
  | 0 => (1, a)
  | m + 1 => (if (m + 4) % 4 = 0 then qb_tw (qb_kp a m).1 else (qb_kp a m).1, upd (qb_kp a m).2 (m + 4) ((qb_kp a m).2 m ^^^ qb_kt m (qb_kp a m).1 (qb_kp a m).2))
theorem qb_kp1 (a : Nat → Int32) (m : Nat) : (qb_kp a (m + 1)).1 = if (m + 4) % 4 = 0 then qb_tw (qb_kp a m).1 else (qb_kp a m).1 := rfl
theorem qb_kp2 (a : Nat → Int32) (m : Nat) : (qb_kp a (m + 1)).2 = upd (qb_kp a m).2 (m + 4) ((qb_kp a m).2 m ^^^ qb_kt m (qb_kp a m).1 (qb_kp a m).2) := rfl
theorem qb_kp_lt (a : Nat → Int32) (m : Nat) : (qb_kp a m).1 < 256 := by
  induction m with
  | zero => exact (by decide : 1 < 256)
  | succ m ih =>
    rw [qb_kp1]
    by_cases h : (m + 4) % 4 = 0
    · rw [if_pos h]; exact qb_tw_lt _ ih
    · rw [if_neg h]; exact ih
theorem qx_k50 (post : SX → Prop) (J : Int32 → Int32 → (Nat → Int32) → (Nat → Int32) → (Nat → Int32) → (Nat → Int32) → (Nat → Int32) → (Nat → Int32) → (Nat → Int32) → (Nat → Int32) → (Nat → Int32) → Prop) {a1 a2 a3 a4 a5 a6 a7 a8 a9 : Nat → Int32} (p v : Int32) {m : Nat} (hm : m < 40) (H : J p (nI (m + 1 + 4)) a1 a2 (upd a3 (m + 4) (a3 m ^^^ v)) a4 a5 a6 a7 a8 a9) : wX_expandKey_50 post J p (nI (m + 4)) v a1 a2 a3 a4 a5 a6 a7 a8 a9 := by
  have e4 : nI (m + 4) - 4 = nI m := pk_sub (a := m + 4) (b := 4) (by omega)
  have h1 : (nI m).toNatClampNeg = m := nI_clamp (by omega)
  have h2 : (nI (m + 4)).toNatClampNeg = m + 4 := nI_clamp (by omega)
  unfold wX_expandKey_50
  rw [e4, h1, h2]
  exact ⟨vp_in_nI (by omega) (by decide), vp_in_nI (by omega) (by decide), nm_e (nm_r ((nI_1 (m + 4)).trans (congrArg nI (by omega : m + 4 + 1 = m + 1 + 4))) H)⟩
theorem qy_k94 (post : SY → Prop) (J : Int32 → Int32 → (Nat → Int32) → (Nat → Int32) → (Nat → Int32) → (Nat → Int32) → (Nat → Int32) → (Nat → Int32) → (Nat → Int32) → (Nat → Int32) → (Nat → Int32) → Prop) {b1 b2 b3 b4 b5 b6 b7 b8 b9 : Nat → Int32} (p v : Int32) {m : Nat} (hm : m < 40) (H : J p (nI (m + 1 + 4)) b1 (upd b2 (m + 4) (b2 m ^^^ v)) b3 b4 b5 b6 b7 b8 b9) : wY_key_94 post J p (nI (m + 4)) v b1 b2 b3 b4 b5 b6 b7 b8 b9 := by
  have e4 : nI (m + 4) - 4 = nI m := pk_sub (a := m + 4) (b := 4) (by omega)
  have h1 : (nI m).toNatClampNeg = m := nI_clamp (by omega)
  have h2 : (nI (m + 4)).toNatClampNeg = m + 4 := nI_clamp (by omega)
  unfold wY_key_94
  rw [e4, h1, h2]
  exact ⟨vp_in_nI (by omega) (by decide), vp_in_nI (by omega) (by decide), nm_e (nm_r ((nI_1 (m + 4)).trans (congrArg nI (by omega : m + 4 + 1 = m + 1 + 4))) H)⟩
theorem qx_ek (post : SX → Prop) {a1 a2 a3 a4 a5 a6 a7 a8 a9 : Nat → Int32} (hT : qb_Tab a1) (H : post (a1, a2, (qb_kp a3 40).2, a4, a5, a6, a7, a8, a9)) : wpX_expandKey post (a1, a2, a3, a4, a5, a6, a7, a8, a9) := by
  show ∃ n, wX_expandKey_4 post n 1 4 a1 a2 a3 a4 a5 a6 a7 a8 a9
  refine pk_loop (σ := Int32 × (Nat → Int32)) (fun n m s => wX_expandKey_4 post n s.1 (nI (m + 4)) a1 a2 s.2 a4 a5 a6 a7 a8 a9) (fun m s => s.1 = nI (qb_kp a3 m).1 ∧ s.2 = (qb_kp a3 m).2) 40 0 (1, a3) (by decide) ⟨rfl, rfl⟩ ?_ ?_
  · rintro n ⟨p, a⟩ ⟨h1, h2⟩
    obtain rfl : a = (qb_kp a3 40).2 := h2
    exact br_t (nI_le (a := 44) (b := 44) (Nat.le_refl 44) (by decide)) H
  · rintro n m ⟨p, a⟩ hm ⟨h1, h2⟩ ih
    obtain rfl : p = nI (qb_kp a3 m).1 := h1
    obtain rfl : a = (qb_kp a3 m).2 := h2
    have hp := qb_kp_lt a3 m
    have e1 : nI (m + 4) - 1 = nI (m + 3) := nI_pred (m + 3)
    have e4 : nI (m + 4) - nI (m + 4) / 4 * 4 = nI ((m + 4) % 4) := pk_rem (a := m + 4) (d := 4) (by omega) (by decide) (by decide)
    have h3 : (nI (m + 3)).toNatClampNeg = m + 3 := nI_clamp (by omega)
    have hk := ih (nI (qb_kp a3 (m + 1)).1, (qb_kp a3 (m + 1)).2) ⟨rfl, rfl⟩
    dsimp only at hk
    rw [qb_kp1, qb_kp2] at hk
    refine br_f (nI_ge (b := 44) (by omega) (by decide)) ?_
    rw [e1, h3, e4]
    refine ⟨vp_in_nI (by omega) (by decide), nm_e ⟨by decide, ?_⟩⟩
    by_cases z : (m + 4) % 4 = 0
    · rw [if_pos z] at hk
      unfold qb_kt at hk
      rw [if_pos z] at hk
      refine br_t (by rw [z]; rfl) (qx_sw _ hT _ (nm_e (qx_product (y := 2) _ hp (by decide) ?_)))
      rw [qb_x2 _ hp]
      exact qx_k50 _ _ _ _ hm hk
    · rw [if_neg z] at hk
      unfold qb_kt at hk
      rw [if_neg z] at hk
      exact br_f (nI_ne0 (by omega) (by omega)) (qx_k50 _ _ _ _ hm hk)
theorem qy_ek (post : SY → Prop) {b1 b2 b3 b4 b5 b6 b7 b8 b9 : Nat → Int32} (hT : qb_Tab b1) (H : post (b1, (qb_kp b2 40).2, b3, b4, b5, b6, b7, b8, b9)) : ∃ n, wY_key_35 post n 1 4 b1 b2 b3 b4 b5 b6 b7 b8 b9 := by
  refine pk_loop (σ := Int32 × (Nat → Int32)) (fun n m s => wY_key_35 post n s.1 (nI (m + 4)) b1 s.2 b3 b4 b5 b6 b7 b8 b9) (fun m s => s.1 = nI (qb_kp b2 m).1 ∧ s.2 = (qb_kp b2 m).2) 40 0 (1, b2) (by decide) ⟨rfl, rfl⟩ ?_ ?_
  · rintro n ⟨p, a⟩ ⟨h1, h2⟩
    obtain rfl : a = (qb_kp b2 40).2 := h2
    exact br_t (nI_le (a := 44) (b := 44) (Nat.le_refl 44) (by decide)) H
  · rintro n m ⟨p, a⟩ hm ⟨h1, h2⟩ ih
    obtain rfl : p = nI (qb_kp b2 m).1 := h1
    obtain rfl : a = (qb_kp b2 m).2 := h2
    have hp := qb_kp_lt b2 m
    have e1 : nI (m + 4) - 1 = nI (m + 3) := nI_pred (m + 3)
    have e4 : nI (m + 4) - nI (m + 4) / 4 * 4 = nI ((m + 4) % 4) := pk_rem (a := m + 4) (d := 4) (by omega) (by decide) (by decide)
    have h3 : (nI (m + 3)).toNatClampNeg = m + 3 := nI_clamp (by omega)
    have hk := ih (nI (qb_kp b2 (m + 1)).1, (qb_kp b2 (m + 1)).2) ⟨rfl, rfl⟩
    dsimp only at hk
    rw [qb_kp1, qb_kp2] at hk
    refine br_f (nI_ge (b := 44) (by omega) (by decide)) ?_
    rw [e1, h3, e4]
    refine ⟨vp_in_nI (by omega) (by decide), nm_e ⟨by decide, ?_⟩⟩
    by_cases z : (m + 4) % 4 = 0
    · rw [if_pos z] at hk
      unfold qb_kt at hk
      rw [if_pos z] at hk
      exact br_t (by rw [z]; rfl) (nm_e (qy_sw _ hT _ (nm_e (qy_twice _ hp (qy_k94 _ _ _ _ hm hk)))))
    · rw [if_neg z] at hk
      unfold qb_kt at hk
      rw [if_neg z] at hk
      exact br_f (nI_ne0 (by omega) (by omega)) (qy_k94 _ _ _ _ hm hk)
/-! ===== the tables are filled ===== -/
theorem qx_fill (post : SX → Prop) {a1 a2 a3 a4 a5 a6 a7 a8 a9 : Nat → Int32} (H : ∀ t o, qb_Tab t → (∀ x, x < 256 → o x = nI (qb_OG x)) → post (t, o, a3, a4, a5, a6, a7, a8, a9)) : wpX_fillSubstitution post (a1, a2, a3, a4, a5, a6, a7, a8, a9) := by
  show ∃ n, wX_fillSubstitution_2 post n 0 a1 a2 a3 a4 a5 a6 a7 a8 a9
  refine pk_loop (σ := (Nat → Int32) × (Nat → Int32)) (fun n i s => wX_fillSubstitution_2 post n (nI i) s.1 s.2 a3 a4 a5 a6 a7 a8 a9) (fun i s => (∀ x, x < i → s.1 x = nI (qb_SB x)) ∧ (∀ x, x < i → s.2 (qb_SB x) = nI x)) 256 0 (a1, a2) (by decide) ⟨fun j h => absurd h (Nat.not_lt_zero j), fun j h => absurd h (Nat.not_lt_zero j)⟩ ?_ ?_
  · rintro n ⟨t, q⟩ ⟨h1, h2⟩
    refine br_t (nI_le (a := 256) (b := 256) (Nat.le_refl 256) (by decide)) (H t q h1 (fun x hx => ?_))
    have g := h2 (qb_OG x) (qb_OG_lt x)
    rw [qb_SO x hx] at g
    exact g
  · rintro n i ⟨t, q⟩ hi ⟨h1, h2⟩ ih
    have hc : (nI i).toNatClampNeg = i := nI_clamp (by omega)
    have hS := qb_SB_lt i
    have hd : (nI (qb_SB i)).toNatClampNeg = qb_SB i := nI_clamp (by omega)
    refine br_f (nI_ge (b := 256) hi (by decide)) (qx_substitution _ hi ?_)
    rw [qb_m255 hS, hc, hd]
    refine ⟨vp_in_nI hi (by decide), nm_e ⟨vp_in_nI hS (by decide), nm_e (nm_r (nI_1 i) (ih (upd t i (nI (qb_SB i)), upd q (qb_SB i) (nI i)) ⟨qb_ul h1 rfl, ?_⟩))⟩⟩
    intro x hx
    show upd q (qb_SB i) (nI i) (qb_SB x) = nI x
    by_cases z : x = i
    · subst z; rw [pk_us]
    · have hne : qb_SB x ≠ qb_SB i := by
        intro y
        have g1 := qb_OS x (by omega)
        rw [y, qb_OS i hi] at g1
        exact z g1.symm
      rw [pk_un hne]
      exact h2 x (by omega)
theorem qb_z4 : upd (upd (upd (upd (fun _ => 0) 0 0) 1 0) 2 0) 3 0 = (fun _ => 0) := by
  funext j
  unfold upd
  by_cases h3 : j = 3
  · rw [if_pos h3]
  · rw [if_neg h3]
    by_cases h2 : j = 2
    · rw [if_pos h2]
    · rw [if_neg h2]
      by_cases h1 : j = 1
      · rw [if_pos h1]
      · rw [if_neg h1]
        by_cases h0 : j = 0
        · rw [if_pos h0]
        · rw [if_neg h0]
theorem qy_init (post : SY → Prop) (H : ∀ t, qb_Tab t → post (t, (qb_kp (fun _ => 0) 40).2, (fun _ => 0), (fun _ => 0), (fun _ => 0), (fun _ => 0), (fun _ => 0), (fun _ => 0), (fun _ => 0))) : wpY_init post := by
  show ∃ n, wY_init_74 post n 0 (fun _ => 0) (fun _ => 0) (fun _ => 0) (fun _ => 0) (fun _ => 0) (fun _ => 0) (fun _ => 0) (fun _ => 0) (fun _ => 0)
  refine pk_loop (σ := Nat → Int32) (fun n i t => wY_init_74 post n (nI i) t (fun _ => 0) (fun _ => 0) (fun _ => 0) (fun _ => 0) (fun _ => 0) (fun _ => 0) (fun _ => 0) (fun _ => 0)) (fun i t => ∀ x, x < i → t x = nI (qb_SB x)) 256 0 (fun _ => 0) (by decide) (fun j h => absurd h (Nat.not_lt_zero j)) ?_ ?_
  · intro n t h1
    refine br_t (nI_le (a := 256) (b := 256) (Nat.le_refl 256) (by decide)) ?_
    unfold wpY_key
    dsimp only
    refine nm_e (nm_e (nm_e (nm_r qb_z4 ?_)))
    exact qy_ek _ h1 (H t h1)
  · intro n i t hi h1 ih
    have hc : (nI i).toNatClampNeg = i := nI_clamp (by omega)
    refine br_f (nI_ge (b := 256) hi (by decide)) (qy_inverse _ hi (qy_spread _ hi ?_))
    rw [hc]
    exact ⟨vp_in_nI hi (by decide), nm_e (nm_r (nI_1 i) (ih _ (qb_ul h1 rfl)))⟩
