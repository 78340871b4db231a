/-! ===== the square ===== -/
def qb_nx (j t : Nat) : Nat := j / 4 * 4 + (j + t) % 4
def qb_f (a b c d : Nat) : Nat := qb_tw a ^^^ (qb_tw b ^^^ b) ^^^ c ^^^ d
def qb_mc (s : Nat → Nat) (j : Nat) : Nat := qb_f (s j) (s (qb_nx j 1)) (s (qb_nx j 2)) (s (qb_nx j 3))
def qb_mi (s : Nat → Nat) (j : Nat) : Nat := qb_tm (s j) 14 ^^^ qb_tm (s (qb_nx j 1)) 11 ^^^ qb_tm (s (qb_nx j 2)) 13 ^^^ qb_tm (s (qb_nx j 3)) 9
theorem qb_nn : ∀ j, j < 16 → ∀ t, t < 4 → ∀ u, u < 4 → qb_nx (qb_nx j t) u = qb_nx j ((t + u) % 4) := by decide +kernel
theorem qb_n0 : ∀ j, j < 16 → qb_nx j 0 = j := by decide +kernel
theorem qb_n16 : ∀ j, j < 16 → ∀ t, t < 4 → qb_nx j t < 16 := by decide +kernel
theorem qb_ff (a b c d : Nat) : qb_f (qb_f a b c d) (qb_f b c d a) (qb_f c d a b) (qb_f d a b c) = qb_tw (qb_tw a) ^^^ a ^^^ qb_tw (qb_tw c) := by
  simp only [qb_f, qb_tw_l]
  generalize qb_tw (qb_tw a) = a2
  generalize qb_tw (qb_tw b) = b2
  generalize qb_tw (qb_tw c) = c2
  generalize qb_tw (qb_tw d) = d2
  generalize qb_tw a = a1
  generalize qb_tw b = b1
  generalize qb_tw c = c1
  generalize qb_tw d = d1
  simp only [Nat.xor_assoc, Nat.xor_comm, qb_xc, Nat.xor_self, qb_xl, Nat.xor_zero, Nat.zero_xor]
theorem qb_fg (a b c d : Nat) : qb_f (qb_tw (qb_tw a) ^^^ a ^^^ qb_tw (qb_tw c)) (qb_tw (qb_tw b) ^^^ b ^^^ qb_tw (qb_tw d)) (qb_tw (qb_tw c) ^^^ c ^^^ qb_tw (qb_tw a)) (qb_tw (qb_tw d) ^^^ d ^^^ qb_tw (qb_tw b))
    = (qb_tw (qb_tw (qb_tw a)) ^^^ qb_tw (qb_tw a) ^^^ qb_tw a) ^^^ (qb_tw (qb_tw (qb_tw b)) ^^^ qb_tw b ^^^ b) ^^^ (qb_tw (qb_tw (qb_tw c)) ^^^ qb_tw (qb_tw c) ^^^ c) ^^^ (qb_tw (qb_tw (qb_tw d)) ^^^ d) := by
  simp only [qb_f, qb_tw_l]
  generalize qb_tw (qb_tw (qb_tw a)) = a3
  generalize qb_tw (qb_tw (qb_tw b)) = b3
  generalize qb_tw (qb_tw (qb_tw c)) = c3
  generalize qb_tw (qb_tw (qb_tw d)) = d3
  generalize qb_tw (qb_tw a) = a2
  generalize qb_tw (qb_tw b) = b2
  generalize qb_tw (qb_tw c) = c2
  generalize qb_tw (qb_tw d) = d2
  generalize qb_tw a = a1
  generalize qb_tw b = b1
  generalize qb_tw c = c1
  generalize qb_tw d = d1
  simp only [Nat.xor_assoc, Nat.xor_comm, qb_xc, Nat.xor_self, qb_xl, Nat.xor_zero, Nat.zero_xor]
theorem qb_mcR (s : Nat → Nat) {j : Nat} (hj : j < 16) : qb_mc s (qb_nx j 1) = qb_f (s (qb_nx j 1)) (s (qb_nx j 2)) (s (qb_nx j 3)) (s j)
    ∧ qb_mc s (qb_nx j 2) = qb_f (s (qb_nx j 2)) (s (qb_nx j 3)) (s j) (s (qb_nx j 1))
    ∧ qb_mc s (qb_nx j 3) = qb_f (s (qb_nx j 3)) (s j) (s (qb_nx j 1)) (s (qb_nx j 2)) := by
  have h11 : qb_nx (qb_nx j 1) 1 = qb_nx j 2 := qb_nn j hj 1 (by decide) 1 (by decide)
  have h12 : qb_nx (qb_nx j 1) 2 = qb_nx j 3 := qb_nn j hj 1 (by decide) 2 (by decide)
  have h13 : qb_nx (qb_nx j 1) 3 = j := (qb_nn j hj 1 (by decide) 3 (by decide)).trans (qb_n0 j hj)
  have h21 : qb_nx (qb_nx j 2) 1 = qb_nx j 3 := qb_nn j hj 2 (by decide) 1 (by decide)
  have h22 : qb_nx (qb_nx j 2) 2 = j := (qb_nn j hj 2 (by decide) 2 (by decide)).trans (qb_n0 j hj)
  have h23 : qb_nx (qb_nx j 2) 3 = qb_nx j 1 := qb_nn j hj 2 (by decide) 3 (by decide)
  have h31 : qb_nx (qb_nx j 3) 1 = j := (qb_nn j hj 3 (by decide) 1 (by decide)).trans (qb_n0 j hj)
  have h32 : qb_nx (qb_nx j 3) 2 = qb_nx j 1 := qb_nn j hj 3 (by decide) 2 (by decide)
  have h33 : qb_nx (qb_nx j 3) 3 = qb_nx j 2 := qb_nn j hj 3 (by decide) 3 (by decide)
  refine ⟨?_, ?_, ?_⟩
  · unfold qb_mc; rw [h11, h12, h13]
  · unfold qb_mc; rw [h21, h22, h23]
  · unfold qb_mc; rw [h31, h32, h33]
theorem qb_m2 (s : Nat → Nat) {j : Nat} (hj : j < 16) : qb_mc (qb_mc s) j = qb_tw (qb_tw (s j)) ^^^ s j ^^^ qb_tw (qb_tw (s (qb_nx j 2))) := by
  have h := qb_mcR s hj
  show qb_f (qb_mc s j) (qb_mc s (qb_nx j 1)) (qb_mc s (qb_nx j 2)) (qb_mc s (qb_nx j 3)) = _
  rw [h.1, h.2.1, h.2.2]
  exact qb_ff _ _ _ _
theorem qb_m3 (s : Nat → Nat) {j : Nat} (hj : j < 16) (hs : ∀ k, k < 16 → s k < 256) : qb_mc (qb_mc (qb_mc s)) j = qb_mi s j := by
  have h1 := qb_m2 s (qb_n16 j hj 1 (by decide))
  have h2 := qb_m2 s (qb_n16 j hj 2 (by decide))
  have h3 := qb_m2 s (qb_n16 j hj 3 (by decide))
  have e12 : qb_nx (qb_nx j 1) 2 = qb_nx j 3 := qb_nn j hj 1 (by decide) 2 (by decide)
  have e22 : qb_nx (qb_nx j 2) 2 = j := (qb_nn j hj 2 (by decide) 2 (by decide)).trans (qb_n0 j hj)
  have e32 : qb_nx (qb_nx j 3) 2 = qb_nx j 1 := qb_nn j hj 3 (by decide) 2 (by decide)
  rw [e12] at h1
  rw [e22] at h2
  rw [e32] at h3
  show qb_f (qb_mc (qb_mc s) j) (qb_mc (qb_mc s) (qb_nx j 1)) (qb_mc (qb_mc s) (qb_nx j 2)) (qb_mc (qb_mc s) (qb_nx j 3)) = _
  rw [h1, h2, h3, qb_m2 s hj, qb_fg]
  unfold qb_mi
  rw [qb_x14 _ (hs j hj), qb_x11 _ (hs _ (qb_n16 j hj 1 (by decide))), qb_x13 _ (hs _ (qb_n16 j hj 2 (by decide))), qb_x9 _ (hs _ (qb_n16 j hj 3 (by decide)))]
theorem qb_xlt {a b : Nat} (ha : a < 256) (hb : b < 256) : a ^^^ b < 256 := Nat.xor_lt_two_pow (n := 8) ha hb
theorem qb_f_lt {a b c d : Nat} (ha : a < 256) (hb : b < 256) (hc : c < 256) (hd : d < 256) : qb_f a b c d < 256 :=
  qb_xlt (qb_xlt (qb_xlt (qb_tw_lt _ ha) (qb_xlt (qb_tw_lt _ hb) hb)) hc) hd
theorem qb_mc_lt (s : Nat → Nat) {j : Nat} (hj : j < 16) (hs : ∀ k, k < 16 → s k < 256) : qb_mc s j < 256 :=
  qb_f_lt (hs j hj) (hs _ (qb_n16 j hj 1 (by decide))) (hs _ (qb_n16 j hj 2 (by decide))) (hs _ (qb_n16 j hj 3 (by decide)))
theorem qb_mi_lt (s : Nat → Nat) {j : Nat} (hj : j < 16) (hs : ∀ k, k < 16 → s k < 256) : qb_mi s j < 256 :=
  qb_xlt (qb_xlt (qb_xlt (qb_tm_lt (hs j hj) _) (qb_tm_lt (hs _ (qb_n16 j hj 1 (by decide))) _)) (qb_tm_lt (hs _ (qb_n16 j hj 2 (by decide))) _)) (qb_tm_lt (hs _ (qb_n16 j hj 3 (by decide))) _)
/-- column mixing, as X reckons it -/
theorem qb_mcX (s : Nat → Nat) {j : Nat} (hj : j < 16) (hs : ∀ k, k < 16 → s k < 256) : qb_tm (s j) 2 ^^^ qb_tm (s (qb_nx j 1)) 3 ^^^ qb_tm (s (qb_nx j 2)) 1 ^^^ qb_tm (s (qb_nx j 3)) 1 = qb_mc s j := by
  rw [qb_x2 _ (hs j hj), qb_x3 _ (hs _ (qb_n16 j hj 1 (by decide))), qb_x1 _ (hs _ (qb_n16 j hj 2 (by decide))), qb_x1 _ (hs _ (qb_n16 j hj 3 (by decide)))]
  rfl
/-- and as Y does -/
theorem qb_mcY (s : Nat → Nat) {j : Nat} (hj : j < 16) (hs : ∀ k, k < 16 → s k < 256) : qb_tm 2 (s j) ^^^ qb_tm 3 (s (qb_nx j 1)) ^^^ s (qb_nx j 2) ^^^ s (qb_nx j 3) = qb_mc s j := by
  rw [qb_y2 _ (hs j hj), qb_y3 _ (hs _ (qb_n16 j hj 1 (by decide)))]
  rfl
/-! words and bytes -/
def qb_by (w : Int32) (i : Nat) : Nat := w.toBitVec.toNat / 2 ^ (24 - 8 * i) % 2 ^ 8
theorem qb_by_lt (w : Int32) (i : Nat) : qb_by w i < 256 := Nat.mod_lt _ (by decide)
theorem qb_byX (w : Int32) (k : Nat) (hk : k < 32) : (w.toUInt32 >>> ((nI k).toUInt32 &&& Int32.toUInt32 31)).toInt32 &&& 255 = nI (w.toBitVec.toNat / 2 ^ k % 2 ^ 8) := by
  rw [pk_and _ 8 (by decide), pk_ushr w _ k (s_u k hk)]
theorem qb_byS (w : Int32) (k : Nat) (hk : k < 25) : (w >>> (nI k &&& 31)) &&& 255 = (w.toUInt32 >>> ((nI k).toUInt32 &&& Int32.toUInt32 31)).toInt32 &&& 255 := by
  apply b_ext
  intro i hi
  rw [b_and, b_and, b_255, b_sshr k (by omega) w hi, b_ushr k (by omega)]
  by_cases h : i < 8
  · rw [if_pos (by omega)]
  · rw [decide_eq_false h, Bool.and_false, Bool.and_false]
theorem qb_24 : ∀ i, i < 4 → (24 : Int32) - 8 * nI i = nI (24 - 8 * i) := by decide +kernel
theorem qb_bX (w : Int32) {i : Nat} (hi : i < 4) : (w.toUInt32 >>> (((24 : Int32) - 8 * nI i).toUInt32 &&& Int32.toUInt32 31)).toInt32 &&& 255 = nI (qb_by w i) := by
  rw [qb_24 i hi]; exact qb_byX w (24 - 8 * i) (by omega)
theorem qb_bY (w : Int32) {i : Nat} (hi : i < 4) : (w >>> (((24 : Int32) - 8 * nI i) &&& 31)) &&& 255 = nI (qb_by w i) := by
  rw [qb_24 i hi, qb_byS w (24 - 8 * i) (by omega)]; exact qb_byX w (24 - 8 * i) (by omega)
/-- the first byte needs no mask -/
theorem qb_b0 (w : Int32) : (w.toUInt32 >>> ((24 : Int32).toUInt32 &&& Int32.toUInt32 31)).toInt32 = nI (qb_by w 0) := by
  have h : (w.toUInt32 >>> ((24 : Int32).toUInt32 &&& Int32.toUInt32 31)).toInt32 &&& 255 = (w.toUInt32 >>> ((24 : Int32).toUInt32 &&& Int32.toUInt32 31)).toInt32 := by
    apply b_ext
    intro i hi
    have e : bt ((w.toUInt32 >>> ((24 : Int32).toUInt32 &&& Int32.toUInt32 31)).toInt32) i = bt w (24 + i) := b_ushr 24 (by omega) w i
    rw [b_and, b_255, e]
    by_cases h : i < 8
    · rw [decide_eq_true h, Bool.and_true]
    · rw [b_big (by omega), Bool.false_and]
  rw [← h]; exact qb_byX w 24 (by omega)
theorem qb_shB (a s : Int32) (k : Nat) (hs : (s.toBitVec.smod 32).toNat = k) : (a <<< s).toBitVec = a.toBitVec <<< k := by
  show a.toBitVec <<< (s.toBitVec.smod 32).toNat = _
  rw [hs]
def qb_j4 (a b c d : Int32) : Int32 := (((a <<< ((24 : Int32) &&& 31)) ||| (b <<< ((16 : Int32) &&& 31))) ||| (c <<< ((8 : Int32) &&& 31))) ||| d
def qb_l8 (r a : Int32) : Int32 := (r <<< ((8 : Int32) &&& 31)) ||| a
theorem qb_j4l (a b c d : Int32) : qb_l8 (qb_l8 (qb_l8 (qb_l8 0 a) b) c) d = qb_j4 a b c d := by
  apply Int32.toBitVec_inj.mp
  unfold qb_l8 qb_j4
  simp only [Int32.toBitVec_or, qb_shB _ _ 8 (show (((8 : Int32) &&& 31).toBitVec.smod 32).toNat = 8 by decide), qb_shB _ _ 16 (show (((16 : Int32) &&& 31).toBitVec.smod 32).toNat = 16 by decide), qb_shB _ _ 24 (show (((24 : Int32) &&& 31).toBitVec.smod 32).toNat = 24 by decide), BitVec.shiftLeft_or_distrib, ← BitVec.shiftLeft_add, Nat.reduceAdd]
  rw [show (0 : Int32).toBitVec = 0#32 from rfl, BitVec.zero_shiftLeft, BitVec.zero_or]
/-- one bit, by either shift -/
theorem qb_bit (w : Int32) (k : Nat) (hk : k < 32) : (w >>> (nI k &&& 31)) &&& 1 = (w.toUInt32 >>> ((nI k).toUInt32 &&& Int32.toUInt32 31)).toInt32 &&& 1 := by
  apply b_ext
  intro i hi
  rw [b_and, b_and, b_sshr k hk w hi, b_ushr k hk]
  by_cases h : i = 0
  · subst h; rw [if_pos (by omega)]
  · have e : bt 1 i = false := (by decide +kernel : ∀ i, i < 32 → i ≠ 0 → bt 1 i = false) i hi h
    rw [e, Bool.and_false, Bool.and_false]
/-! the pictures of the cipher -/
def qb_ro (j : Nat) : Nat := (j % 4 + 4 * (j / 4 + j % 4)) % 16
theorem qb_ro_lt (j : Nat) : qb_ro j < 16 := Nat.mod_lt _ (by decide)
def qb_Sq (a : Nat → Int32) (s : Nat → Nat) : Prop := ∀ j, j < 16 → a j = nI (s j) ∧ s j < 256
theorem qb_Sq_c {a : Nat → Int32} {s t : Nat → Nat} (h : qb_Sq a s) (e : ∀ j, j < 16 → s j = t j) : qb_Sq a t := fun j hj => e j hj ▸ h j hj
def qb_ld (w : Nat → Int32) (j : Nat) : Nat := qb_by (w (j / 4)) (j % 4)
def qb_ak (rk : Nat → Int32) (q : Nat) (s : Nat → Nat) (j : Nat) : Nat := s j ^^^ qb_by (rk (4 * q + j / 4)) (j % 4)
def qb_su (s : Nat → Nat) (j : Nat) : Nat := qb_SB (s j)
def qb_un (s : Nat → Nat) (j : Nat) : Nat := qb_OG (s j)
def qb_sr (s : Nat → Nat) (j : Nat) : Nat := s (qb_ro j)
def qb_s3 (s : Nat → Nat) (j : Nat) : Nat := s (qb_ro (qb_ro (qb_ro j)))
def qb_e1 (rk : Nat → Int32) (q : Nat) (s : Nat → Nat) : Nat → Nat := qb_ak rk q (if q = 10 then qb_sr (qb_su s) else qb_mc (qb_sr (qb_su s)))
def qb_en (rk : Nat → Int32) (s : Nat → Nat) : Nat → Nat → Nat
  | 0 => qb_ak rk 0 s
  | q + 1 => qb_e1 rk (q + 1) (qb_en rk s q)
def qb_d1 (rk : Nat → Int32) (q : Nat) (s : Nat → Nat) : Nat → Nat := qb_un (qb_s3 (if q = 10 then qb_ak rk q s else qb_mi (qb_ak rk q s)))
def qb_de (rk : Nat → Int32) (s : Nat → Nat) : Nat → Nat → Nat
  | 0 => s
  | n + 1 => qb_d1 rk (10 - n) (qb_de rk s n)
def qb_jn (s : Nat → Nat) (c : Nat) : Int32 := qb_j4 (nI (s (4 * c))) (nI (s (4 * c + 1))) (nI (s (4 * c + 2))) (nI (s (4 * c + 3)))
