section
/-! rows of the kit, pasted -/
theorem pk_us {f : Nat → Int32} {k : Nat} {x : Int32} : upd f k x k = x := if_pos rfl
theorem pk_un {f : Nat → Int32} {k j : Nat} {x : Int32} (h : j ≠ k) : upd f k x j = f j := if_neg h
theorem pk_sub {a b : Nat} (h : b ≤ a) : nI a - nI b = nI (a - b) := by
  obtain ⟨c, rfl⟩ : ∃ c, a = c + b := ⟨a - b, by omega⟩
  rw [← nI_add, Int32.add_sub_cancel, Nat.add_sub_cancel]
theorem pk_m1 (n : Nat) : nI (n + 1) + (-1) = nI n := by
  rw [← nI_1, Int32.add_assoc, show (1 : Int32) + (-1) = 0 from rfl, Int32.add_zero]
theorem pk_mul (a b : Nat) : nI a * nI b = nI (a * b) := (Int32.ofNat_mul a b).symm
theorem pk_div {a d : Nat} (ha : a < 2 ^ 31) (h0 : 0 < d) (hd : d < 2 ^ 31) : nI a / nI d = nI (a / d) := by
  apply Int32.toInt_inj.mp
  rw [lg_idiv_nonneg (by rw [nI_toInt ha]; omega) (by rw [nI_toInt hd]; omega), nI_toInt ha, nI_toInt hd, nI_toInt (Nat.lt_of_le_of_lt (Nat.div_le_self a d) ha)]
  first | rfl | exact (Int.natCast_ediv _ _).symm
theorem pk_rem {a d : Nat} (ha : a < 2 ^ 31) (h0 : 0 < d) (hd : d < 2 ^ 31) : nI a - nI a / nI d * nI d = nI (a % d) := by
  rw [pk_div ha h0 hd, pk_mul, pk_sub (Nat.div_mul_le_self a d)]
  exact congrArg nI (by have := Nat.div_add_mod' a d; omega)
theorem pk_le {x y : Int32} {A B : Prop} (a b : Nat) (f : a ≤ b → A) (g : b < a → B) (hx : x = nI a := by rfl) (hy : y = nI b := by rfl) (ha : a < 2 ^ 31 := by omega) (hb : b < 2 ^ 31 := by omega) : (x ≤ y → A) ∧ (¬ x ≤ y → B) := by
  subst hx hy
  rw [nI_leI ha hb]
  exact ⟨f, fun z => g (by omega)⟩
theorem pk_lt {x y : Int32} {A B : Prop} (a b : Nat) (f : a < b → A) (g : b ≤ a → B) (hx : x = nI a := by rfl) (hy : y = nI b := by rfl) (ha : a < 2 ^ 31 := by omega) (hb : b < 2 ^ 31 := by omega) : (x < y → A) ∧ (¬ x < y → B) := by
  subst hx hy
  rw [nI_ltI ha hb]
  exact ⟨f, fun z => g (by omega)⟩
theorem pk_eq {x y : Int32} {A B : Prop} (a b : Nat) (f : a = b → A) (g : a ≠ b → B) (hx : x = nI a := by rfl) (hy : y = nI b := by rfl) (ha : a < 2 ^ 31 := by omega) (hb : b < 2 ^ 31 := by omega) : (x = y → A) ∧ (¬ x = y → B) := by
  subst hx hy
  rw [nI_eq ha hb]
  exact ⟨f, g⟩
theorem pk_in {x : Int32} (n N : Nat) (h : n < N) (hx : x = nI n := by rfl) (hN : N < 2 ^ 31 := by omega) : vp_in x N := by
  subst hx
  exact vp_in_nI h hN
theorem pk_cl {x : Int32} (n : Nat) (hx : x = nI n := by rfl) (h : n < 2 ^ 31 := by omega) : x.toNatClampNeg = n := by
  subst hx
  exact nI_clamp h
theorem pk_tn {n : Nat} (h : n < 2 ^ 32) : (nI n).toBitVec.toNat = n := Nat.mod_eq_of_lt h
theorem pk_and (x : Int32) {m : Int32} (k : Nat) (hm : m.toBitVec.toNat = 2 ^ k - 1) : x &&& m = nI (x.toBitVec.toNat % 2 ^ k) := by
  apply Int32.toBitVec_inj.mp
  apply BitVec.eq_of_toNat_eq
  rw [Int32.toBitVec_and, BitVec.toNat_and, hm, Nat.and_two_pow_sub_one_eq_mod]
  show _ = (BitVec.ofNat 32 _).toNat
  rw [BitVec.toNat_ofNat]
  exact (Nat.mod_eq_of_lt (Nat.lt_of_le_of_lt (Nat.mod_le _ _) x.toBitVec.isLt)).symm
theorem pk_andN {n : Nat} (h : n < 2 ^ 32) {m : Int32} (k : Nat) (hm : m.toBitVec.toNat = 2 ^ k - 1) : nI n &&& m = nI (n % 2 ^ k) := by
  rw [pk_and _ k hm, pk_tn h]
theorem pk_andE (x : Int32) {m : Int32} (k : Nat) (hm : m.toBitVec.toNat = 2 ^ k - 1) : ∃ j : Nat, j < 2 ^ k ∧ x &&& m = nI j := ⟨_, Nat.mod_lt _ (Nat.two_pow_pos k), pk_and x k hm⟩
theorem pk_andIn (x : Int32) {m : Int32} (k : Nat) (hm : m.toBitVec.toNat = 2 ^ k - 1) (hk : k ≤ 30) : vp_in (x &&& m) (2 ^ k) := by
  obtain ⟨j, hj, e⟩ := pk_andE x k hm
  rw [e]
  exact vp_in_nI hj (Nat.lt_of_le_of_lt (Nat.pow_le_pow_right (by decide) hk) (by decide))
theorem pk_shl (a s : Int32) (k : Nat) (hs : (s.toBitVec.smod 32).toNat = k) : (a <<< s).toBitVec.toNat = a.toBitVec.toNat * 2 ^ k % 2 ^ 32 := by
  show (a.toBitVec <<< (s.toBitVec.smod 32).toNat).toNat = _
  rw [hs, BitVec.toNat_shiftLeft, Nat.shiftLeft_eq]
theorem pk_shlN {n : Nat} (s : Int32) (k : Nat) (hs : (s.toBitVec.smod 32).toNat = k) (h : n * 2 ^ k < 2 ^ 32) : nI n <<< s = nI (n * 2 ^ k) := by
  apply Int32.toBitVec_inj.mp
  apply BitVec.eq_of_toNat_eq
  have hn : n < 2 ^ 32 := Nat.lt_of_le_of_lt (Nat.le_mul_of_pos_right n (Nat.two_pow_pos k)) h
  rw [pk_shl _ _ k hs, pk_tn hn, pk_tn h, Nat.mod_eq_of_lt h]
theorem pk_shr (a s : Int32) (k : Nat) (hs : (s.toBitVec.smod 32).toNat = k) : (a >>> s).toInt = a.toInt >>> k := by
  show (a.toBitVec.sshiftRight (s.toBitVec.smod 32).toNat).toInt = _
  rw [hs, BitVec.toInt_sshiftRight]
  rfl
theorem pk_shrN {n : Nat} (h : n < 2 ^ 31) (s : Int32) (k : Nat) (hs : (s.toBitVec.smod 32).toNat = k) : nI n >>> s = nI (n / 2 ^ k) := by
  apply Int32.toInt_inj.mp
  have h2 : n / 2 ^ k ≤ n := Nat.div_le_self _ _
  rw [pk_shr _ _ k hs, nI_toInt h, nI_toInt (by omega), Int.shiftRight_eq_div_pow]
  rfl
theorem pk_ushr (x s : Int32) (k : Nat) (hs : ((s.toUInt32 &&& Int32.toUInt32 31).toBitVec % 32).toNat = k) : (x.toUInt32 >>> (s.toUInt32 &&& Int32.toUInt32 31)).toInt32.toBitVec.toNat = x.toBitVec.toNat / 2 ^ k := by
  have e : (x.toUInt32 >>> (s.toUInt32 &&& Int32.toUInt32 31)).toInt32.toBitVec = x.toBitVec >>> k := by
    rw [← hs]
    exact UInt32.toBitVec_shiftRight _ _
  rw [e, BitVec.toNat_ushiftRight, Nat.shiftRight_eq_div_pow]
theorem pk_ushrN {n : Nat} (hn : n < 2 ^ 32) (s : Int32) (k : Nat) (hs : ((s.toUInt32 &&& Int32.toUInt32 31).toBitVec % 32).toNat = k) : ((nI n).toUInt32 >>> (s.toUInt32 &&& Int32.toUInt32 31)).toInt32 = nI (n / 2 ^ k) := by
  apply Int32.toBitVec_inj.mp
  apply BitVec.eq_of_toNat_eq
  rw [pk_ushr _ s k hs, pk_tn hn, pk_tn (Nat.lt_of_le_of_lt (Nat.div_le_self _ _) hn)]
theorem pk_loop {σ : Type} (W : Nat → Nat → σ → Prop) (I : Nat → σ → Prop) (e i0 : Nat) (s : σ) (hi : i0 ≤ e) (h0 : I i0 s) (hx : ∀ n s, I e s → W (n + 1) e s)
    (hs : ∀ n i s, i < e → I i s → (∀ s', I (i + 1) s' → W n (i + 1) s') → W (n + 1) i s) : ∃ n, W n i0 s :=
  ⟨e + 1, loop_i W I e hx hs (e + 1) i0 s hi (by omega) h0⟩
theorem pk_loopD {σ : Type} (W : Nat → Nat → σ → Prop) (I : Nat → σ → Prop) (hx : ∀ n s, I 0 s → W (n + 1) 0 s)
    (hs : ∀ n i s, I (i + 1) s → (∀ s', I i s' → W n i s') → W (n + 1) (i + 1) s) : ∀ (e : Nat) (s : σ), I e s → W (e + 1) e s := by
  intro e
  induction e with
  | zero => exact fun s h => hx 0 s h
  | succ e ih => exact fun s h => hs (e + 1) e s h (fun s' h' => ih s' h')
def bt (x : Int32) (i : Nat) : Bool := x.toBitVec.getLsbD i
theorem b_ext {x y : Int32} (h : ∀ i, i < 32 → bt x i = bt y i) : x = y := Int32.toBitVec_inj.mp (BitVec.eq_of_getLsbD_eq (fun i hi => h i hi))
theorem b_or (x y : Int32) (i : Nat) : bt (x ||| y) i = (bt x i || bt y i) := by unfold bt; rw [Int32.toBitVec_or, BitVec.getLsbD_or]
theorem b_and (x y : Int32) (i : Nat) : bt (x &&& y) i = (bt x i && bt y i) := by unfold bt; rw [Int32.toBitVec_and, BitVec.getLsbD_and]
theorem b_xor (x y : Int32) (i : Nat) : bt (x ^^^ y) i = (bt x i ^^ bt y i) := by unfold bt; rw [Int32.toBitVec_xor, BitVec.getLsbD_xor]
theorem b_big {x : Int32} {i : Nat} (h : 32 ≤ i) : bt x i = false := BitVec.getLsbD_of_ge _ _ h
theorem b_255 (i : Nat) : bt 255 i = decide (i < 8) := by
  rcases Nat.lt_or_ge i 32 with h | h
  · exact (by decide +kernel : ∀ i, i < 32 → bt 255 i = decide (i < 8)) i h
  · rw [b_big h, decide_eq_false (by omega)]
theorem b_0 (i : Nat) : bt 0 i = false := BitVec.getLsbD_zero
theorem s_l : ∀ n, n < 32 → ((nI n &&& 31).toBitVec.smod 32).toNat = n := by decide +kernel
theorem s_u : ∀ n, n < 32 → (((nI n).toUInt32 &&& Int32.toUInt32 31).toBitVec % 32).toNat = n := by decide +kernel
theorem b_shl (n : Nat) (hn : n < 32) (x : Int32) {i : Nat} (hi : i < 32) : bt (x <<< (nI n &&& 31)) i = (decide (n ≤ i) && bt x (i - n)) := by
  unfold bt
  rw [Int32.toBitVec_shiftLeft]
  show (x.toBitVec <<< ((nI n &&& 31).toBitVec.smod 32).toNat).getLsbD i = _
  rw [s_l n hn, BitVec.getLsbD_shiftLeft]
  rcases Nat.lt_or_ge i n with h | h
  · simp [h, Nat.not_le.mpr h]
  · simp [hi, h, Nat.not_lt.mpr h]
theorem b_ushr (n : Nat) (hn : n < 32) (x : Int32) (i : Nat) : bt ((x.toUInt32 >>> ((nI n).toUInt32 &&& Int32.toUInt32 31)).toInt32) i = bt x (n + i) := by
  show (x.toUInt32 >>> ((nI n).toUInt32 &&& Int32.toUInt32 31)).toBitVec.getLsbD i = x.toUInt32.toBitVec.getLsbD (n + i)
  rw [UInt32.toBitVec_shiftRight]
  show (x.toUInt32.toBitVec >>> (((nI n).toUInt32 &&& Int32.toUInt32 31).toBitVec % 32).toNat).getLsbD i = _
  rw [s_u n hn, BitVec.getLsbD_ushiftRight]
theorem b_sshr (n : Nat) (hn : n < 32) (x : Int32) {i : Nat} (hi : i < 32) : bt (x >>> (nI n &&& 31)) i = if n + i < 32 then bt x (n + i) else bt x 31 := by
  unfold bt
  rw [Int32.toBitVec_shiftRight]
  show (x.toBitVec.sshiftRight ((nI n &&& 31).toBitVec.smod 32).toNat).getLsbD i = _
  rw [s_l n hn, BitVec.getLsbD_sshiftRight, BitVec.msb_eq_getLsbD_last]
  simp [hi]
theorem nx_and (a b : Nat) : nI a &&& nI b = nI (a &&& b) := by
  apply Int32.toBitVec_inj.1
  show BitVec.ofNat 32 a &&& BitVec.ofNat 32 b = BitVec.ofNat 32 (a &&& b)
  apply BitVec.eq_of_getLsbD_eq
  intro i hi
  simp [hi]
theorem nx_xor (a b : Nat) : nI a ^^^ nI b = nI (a ^^^ b) := by
  apply Int32.toBitVec_inj.1
  show BitVec.ofNat 32 a ^^^ BitVec.ofNat 32 b = BitVec.ofNat 32 (a ^^^ b)
  apply BitVec.eq_of_getLsbD_eq
  intro i hi
  simp [hi]
end
section
/-! ===== bytes: doubling, product, tables ===== -/
def qb_tw (d : Nat) : Nat := Nat.xor (Nat.mul 2 d) (Nat.mul (Nat.mod (Nat.shiftRight d 7) 2) 283)
theorem qb_tw_e (d : Nat) : qb_tw d = (2 * d) ^^^ ((d >>> 7) % 2 * 283) := rfl
theorem qb_xl (a b : Nat) : a ^^^ (a ^^^ b) = b := by rw [← Nat.xor_assoc, Nat.xor_self, Nat.zero_xor]
theorem qb_xc (a b c : Nat) : a ^^^ (b ^^^ c) = b ^^^ (a ^^^ c) := by rw [← Nat.xor_assoc, Nat.xor_comm a b, Nat.xor_assoc]
theorem qb_tw_l (a b : Nat) : qb_tw (a ^^^ b) = qb_tw a ^^^ qb_tw b := by
  have h1 : 2 * (a ^^^ b) = (2 * a) ^^^ (2 * b) := by
    have h : (a ^^^ b) <<< 1 = a <<< 1 ^^^ b <<< 1 := Nat.shiftLeft_xor_distrib
    rw [Nat.shiftLeft_eq, Nat.shiftLeft_eq, Nat.shiftLeft_eq, Nat.pow_one] at h
    rw [Nat.mul_comm 2, Nat.mul_comm 2 a, Nat.mul_comm 2 b]
    exact h
  have h2 : ((a ^^^ b) >>> 7) % 2 = ((a >>> 7) % 2) ^^^ ((b >>> 7) % 2) := by
    rw [Nat.shiftRight_xor_distrib]
    exact Nat.xor_mod_two_pow (n := 1)
  have h3 : ∀ p, p < 2 → ∀ q, q < 2 → (p ^^^ q) * 283 = (p * 283) ^^^ (q * 283) := by decide +kernel
  rw [qb_tw_e, qb_tw_e a, qb_tw_e b, h1, h2, h3 _ (Nat.mod_lt _ (by decide)) _ (Nat.mod_lt _ (by decide))]
  generalize (a >>> 7) % 2 * 283 = p
  generalize (b >>> 7) % 2 * 283 = q
  generalize 2 * a = x
  generalize 2 * b = y
  rw [Nat.xor_assoc, Nat.xor_assoc, qb_xc y p q]
def qb_dk (x : Nat) : Nat → Nat
  | 0 => x
  | k + 1 => qb_tw (qb_dk x k)
def qb_ps (x y : Nat) : Nat → Nat
  | 0 => 0
  | k + 1 => Nat.xor (qb_ps x y k) (Nat.mul (Nat.mod (Nat.shiftRight y k) 2) (qb_dk x k))
def qb_tm (x y : Nat) : Nat := Nat.xor (Nat.xor (Nat.xor (Nat.xor (Nat.xor (Nat.xor (Nat.xor (Nat.xor 0 (Nat.mul (Nat.mod (Nat.shiftRight y 0) 2) x)) (Nat.mul (Nat.mod (Nat.shiftRight y 1) 2) (qb_tw x))) (Nat.mul (Nat.mod (Nat.shiftRight y 2) 2) (qb_tw (qb_tw x)))) (Nat.mul (Nat.mod (Nat.shiftRight y 3) 2) (qb_tw (qb_tw (qb_tw x))))) (Nat.mul (Nat.mod (Nat.shiftRight y 4) 2) (qb_tw (qb_tw (qb_tw (qb_tw x)))))) (Nat.mul (Nat.mod (Nat.shiftRight y 5) 2) (qb_tw (qb_tw (qb_tw (qb_tw (qb_tw x))))))) (Nat.mul (Nat.mod (Nat.shiftRight y 6) 2) (qb_tw (qb_tw (qb_tw (qb_tw (qb_tw (qb_tw x)))))))) (Nat.mul (Nat.mod (Nat.shiftRight y 7) 2) (qb_tw (qb_tw (qb_tw (qb_tw (qb_tw (qb_tw (qb_tw x))))))))
theorem qb_tm_e (x y : Nat) : qb_tm x y = qb_ps x y 8 := rfl
theorem qb_tw_lt : ∀ d, d < 256 → qb_tw d < 256 := by decide +kernel
theorem qb_tw_j : ∀ d, d < 256 → (255 < 2 * d → qb_tw d = (2 * d) ^^^ 283) ∧ (¬ 255 < 2 * d → qb_tw d = 2 * d) := by decide +kernel
theorem qb_dk_lt {x : Nat} (hx : x < 256) (k : Nat) : qb_dk x k < 256 := by
  induction k with
  | zero => exact hx
  | succ k ih => exact qb_tw_lt _ ih
theorem qb_ps_s (x y k : Nat) : qb_ps x y (k + 1) = qb_ps x y k ^^^ ((y >>> k) % 2 * qb_dk x k) := rfl
theorem qb_ps_lt {x : Nat} (hx : x < 256) (y k : Nat) : qb_ps x y k < 256 := by
  induction k with
  | zero => exact (by decide : (0 : Nat) < 256)
  | succ k ih =>
    rw [qb_ps_s]
    have h3 := qb_dk_lt hx k
    have h2 : (y >>> k) % 2 * qb_dk x k < 256 := by
      rcases Nat.mod_two_eq_zero_or_one (y >>> k) with e | e
      · rw [e]; omega
      · rw [e]; omega
    exact Nat.xor_lt_two_pow (n := 8) ih h2
theorem qb_tm_lt {x : Nat} (hx : x < 256) (y : Nat) : qb_tm x y < 256 := by
  rw [qb_tm_e]; exact qb_ps_lt hx y 8
theorem qb_x2 : ∀ b, b < 256 → qb_tm b 2 = qb_tw b := by decide +kernel
theorem qb_y2 : ∀ b, b < 256 → qb_tm 2 b = qb_tw b := by decide +kernel
theorem qb_x3 : ∀ b, b < 256 → qb_tm b 3 = qb_tw b ^^^ b := by decide +kernel
theorem qb_y3 : ∀ b, b < 256 → qb_tm 3 b = qb_tw b ^^^ b := by decide +kernel
theorem qb_x1 : ∀ b, b < 256 → qb_tm b 1 = b := by decide +kernel
theorem qb_x14 : ∀ b, b < 256 → qb_tm b 14 = qb_tw (qb_tw (qb_tw b)) ^^^ qb_tw (qb_tw b) ^^^ qb_tw b := by decide +kernel
theorem qb_x11 : ∀ b, b < 256 → qb_tm b 11 = qb_tw (qb_tw (qb_tw b)) ^^^ qb_tw b ^^^ b := by decide +kernel
theorem qb_x13 : ∀ b, b < 256 → qb_tm b 13 = qb_tw (qb_tw (qb_tw b)) ^^^ qb_tw (qb_tw b) ^^^ b := by decide +kernel
theorem qb_x9 : ∀ b, b < 256 → qb_tm b 9 = qb_tw (qb_tw (qb_tw b)) ^^^ b := by decide +kernel
/-! the tables: substitution, its inverse, the inverse bytes -/
def qb_SB (x : Nat) : Nat := Nat.mod (Nat.shiftRight 0x16bb54b00f2d99416842e6bf0d89a18cdf2855cee9871e9b948ed9691198f8e19e1dc186b95735610ef6034866b53e708a8bbd4b1f74dde8c6b4a61c2e2578ba08ae7a65eaf4566ca94ed58d6d37c8e779e4959162acd3c25c2406490a3a32e0db0b5ede14b8ee4688902a22dc4f816073195d643d7ea7c41744975fec130ccdd2f3ff1021dab6bcf5389d928f40a351a89f3c507f02f94585334d43fbaaefd0cf584c4a39becb6a5bb1fc20ed00d153842fe329b3d63b52a05a6e1b1a2c830975b227ebe28012079a059618c323c7041531d871f1e5a534ccf73f362693fdb7c072a49cafa2d4adf04759fa7dc982ca76abd7fe2b670130c56f6bf27b777c63 (Nat.mul 8 x)) 256
def qb_OG (x : Nat) : Nat := Nat.mod (Nat.shiftRight 0x7d0c2155631469e126d677ba7e042b17619953833cbbebc8b0f52aae4d3be0a0ef9cc9939f7ae52d0d4ab519a97f51605fec8027591012b131c7078833a8dd1ff45acd78fec0db9a2079d2c64b3e56fc1bbe18aa0e62b76f89c5291d711af1476edf751ce837f9e28535ade72274ac9673e6b4f0cecff297eadc674f4111913a6b8a130103bdafc1020f3fca8f1e2cd00645b3b80558e4f70ad3bc8c00abd890849d8da75746155edab9edfd5048706c92b6655dcc5ca4d41698688664f6f87225d18b6d49a25b76b224d92866a12e084ec3fa420b954cee3d23c2a632947b54cbe9dec444438e3487ff2f9b8239e37cfbd7f3819ea340bf38a53630d56a0952 (Nat.mul 8 x)) 256
def qb_IV (x : Nat) : Nat := Nat.mod (Nat.shiftRight 0x1c411acda07d9cdd8c0346683438235bb31e505de3d74e08adcf0ec6ebd60db16b90f89dd5c48b94eae2dbc563ae077ae6acfc1b045327a90fe4d4daa32f280b5786bcbd3d768ea571787511ef1fe00c62d2e7ce4a12c8264865b88fc32e7cfb9a89dcf9889f142a72848ad86d326adea4b902f7d9959e9b56be7396807f7e838281faa106d070b63cbab5108597b7793b219333df9147f44336a649d3af5e161761ec51f0223e18bf87244cca055ced09e9255413ab64a769f5312d6737fe1d1959bb776f2035f2426639f36c92452cc2a2443015980ac1c9a84d55f15a6e3ab2ee40ffccfd3f585f602b994baab474c7e5e1b0c0294fe8d17b52cbf68d0100 (Nat.mul 8 x)) 256
theorem qb_SB_lt (x : Nat) : qb_SB x < 256 := Nat.mod_lt _ (by decide)
theorem qb_OG_lt (x : Nat) : qb_OG x < 256 := Nat.mod_lt _ (by decide)
theorem qb_IV_lt (x : Nat) : qb_IV x < 256 := Nat.mod_lt _ (by decide)
theorem qb_SO : ∀ x, x < 256 → qb_SB (qb_OG x) = x := by decide +kernel
theorem qb_OS : ∀ x, x < 256 → qb_OG (qb_SB x) = x := by decide +kernel
def qb_pw (x : Nat) : Nat → Nat
  | 0 => 1
  | k + 1 => qb_tm (qb_tm (qb_pw x k) (qb_pw x k)) x
theorem qb_pw_lt (x : Nat) (k : Nat) : qb_pw x k < 256 := by
  induction k with
  | zero => exact (by decide : (1 : Nat) < 256)
  | succ k ih => exact qb_tm_lt (qb_tm_lt ih _) _
theorem qb_iv : ∀ x, x < 256 → qb_tm (qb_pw x 7) (qb_pw x 7) = qb_IV x := by decide +kernel
/-- the reference's scan: fuel n + 1 stands at 255 - n -/
def qb_sc (x : Nat) : Nat → Nat
  | 0 => 0
  | n + 1 => cond (Nat.beq (qb_tm x (Nat.sub 255 n)) 1) (Nat.sub 255 n) (qb_sc x n)
theorem qb_sc0 : ∀ x, x < 32 → qb_sc (Nat.add 0 x) 255 = qb_IV (Nat.add 0 x) := by decide +kernel
theorem qb_sc1 : ∀ x, x < 32 → qb_sc (Nat.add 32 x) 255 = qb_IV (Nat.add 32 x) := by decide +kernel
theorem qb_sc2 : ∀ x, x < 32 → qb_sc (Nat.add 64 x) 255 = qb_IV (Nat.add 64 x) := by decide +kernel
theorem qb_sc3 : ∀ x, x < 32 → qb_sc (Nat.add 96 x) 255 = qb_IV (Nat.add 96 x) := by decide +kernel
theorem qb_sc4 : ∀ x, x < 32 → qb_sc (Nat.add 128 x) 255 = qb_IV (Nat.add 128 x) := by decide +kernel
theorem qb_sc5 : ∀ x, x < 32 → qb_sc (Nat.add 160 x) 255 = qb_IV (Nat.add 160 x) := by decide +kernel
theorem qb_sc6 : ∀ x, x < 32 → qb_sc (Nat.add 192 x) 255 = qb_IV (Nat.add 192 x) := by decide +kernel
theorem qb_sc7 : ∀ x, x < 32 → qb_sc (Nat.add 224 x) 255 = qb_IV (Nat.add 224 x) := by decide +kernel
theorem qb_scI (x : Nat) (hx : x < 256) : qb_sc x 255 = qb_IV x := by
  rcases (by omega : x = 0 + (x - 0) ∧ x - 0 < 32 ∨ x = 32 + (x - 32) ∧ x - 32 < 32 ∨ x = 64 + (x - 64) ∧ x - 64 < 32 ∨ x = 96 + (x - 96) ∧ x - 96 < 32 ∨ x = 128 + (x - 128) ∧ x - 128 < 32 ∨ x = 160 + (x - 160) ∧ x - 160 < 32 ∨ x = 192 + (x - 192) ∧ x - 192 < 32 ∨ x = 224 + (x - 224) ∧ x - 224 < 32) with ⟨e, h⟩ | ⟨e, h⟩ | ⟨e, h⟩ | ⟨e, h⟩ | ⟨e, h⟩ | ⟨e, h⟩ | ⟨e, h⟩ | ⟨e, h⟩
  · rw [e]; exact qb_sc0 _ h
  · rw [e]; exact qb_sc1 _ h
  · rw [e]; exact qb_sc2 _ h
  · rw [e]; exact qb_sc3 _ h
  · rw [e]; exact qb_sc4 _ h
  · rw [e]; exact qb_sc5 _ h
  · rw [e]; exact qb_sc6 _ h
  · rw [e]; exact qb_sc7 _ h
end
section
/-! ===== the square ===== -/
def qb_nx (j t : Nat) : Nat := j / 4 * 4 + (j + t) % 4
def qb_f (a b c d : Nat) : Nat := qb_tw a ^^^ (qb_tw b ^^^ b) ^^^ c ^^^ d
def qb_mc (s : Nat → Nat) (j : Nat) : Nat := qb_f (s j) (s (qb_nx j 1)) (s (qb_nx j 2)) (s (qb_nx j 3))
def qb_mi (s : Nat → Nat) (j : Nat) : Nat := qb_tm (s j) 14 ^^^ qb_tm (s (qb_nx j 1)) 11 ^^^ qb_tm (s (qb_nx j 2)) 13 ^^^ qb_tm (s (qb_nx j 3)) 9
theorem qb_nn : ∀ j, j < 16 → ∀ t, t < 4 → ∀ u, u < 4 → qb_nx (qb_nx j t) u = qb_nx j ((t + u) % 4) := by decide +kernel
theorem qb_n0 : ∀ j, j < 16 → qb_nx j 0 = j := by decide +kernel
theorem qb_n16 : ∀ j, j < 16 → ∀ t, t < 4 → qb_nx j t < 16 := by decide +kernel
theorem qb_ff (a b c d : Nat) : qb_f (qb_f a b c d) (qb_f b c d a) (qb_f c d a b) (qb_f d a b c) = qb_tw (qb_tw a) ^^^ a ^^^ qb_tw (qb_tw c) := by
  simp only [qb_f, qb_tw_l]
  generalize qb_tw (qb_tw a) = a2
  generalize qb_tw (qb_tw b) = b2
  generalize qb_tw (qb_tw c) = c2
  generalize qb_tw (qb_tw d) = d2
  generalize qb_tw a = a1
  generalize qb_tw b = b1
  generalize qb_tw c = c1
  generalize qb_tw d = d1
  simp only [Nat.xor_assoc, Nat.xor_comm, qb_xc, Nat.xor_self, qb_xl, Nat.xor_zero, Nat.zero_xor]
theorem qb_fg (a b c d : Nat) : qb_f (qb_tw (qb_tw a) ^^^ a ^^^ qb_tw (qb_tw c)) (qb_tw (qb_tw b) ^^^ b ^^^ qb_tw (qb_tw d)) (qb_tw (qb_tw c) ^^^ c ^^^ qb_tw (qb_tw a)) (qb_tw (qb_tw d) ^^^ d ^^^ qb_tw (qb_tw b))
    = (qb_tw (qb_tw (qb_tw a)) ^^^ qb_tw (qb_tw a) ^^^ qb_tw a) ^^^ (qb_tw (qb_tw (qb_tw b)) ^^^ qb_tw b ^^^ b) ^^^ (qb_tw (qb_tw (qb_tw c)) ^^^ qb_tw (qb_tw c) ^^^ c) ^^^ (qb_tw (qb_tw (qb_tw d)) ^^^ d) := by
  simp only [qb_f, qb_tw_l]
  generalize qb_tw (qb_tw (qb_tw a)) = a3
  generalize qb_tw (qb_tw (qb_tw b)) = b3
  generalize qb_tw (qb_tw (qb_tw c)) = c3
  generalize qb_tw (qb_tw (qb_tw d)) = d3
  generalize qb_tw (qb_tw a) = a2
  generalize qb_tw (qb_tw b) = b2
  generalize qb_tw (qb_tw c) = c2
  generalize qb_tw (qb_tw d) = d2
  generalize qb_tw a = a1
  generalize qb_tw b = b1
  generalize qb_tw c = c1
  generalize qb_tw d = d1
  simp only [Nat.xor_assoc, Nat.xor_comm, qb_xc, Nat.xor_self, qb_xl, Nat.xor_zero, Nat.zero_xor]
theorem qb_mcR (s : Nat → Nat) {j : Nat} (hj : j < 16) : qb_mc s (qb_nx j 1) = qb_f (s (qb_nx j 1)) (s (qb_nx j 2)) (s (qb_nx j 3)) (s j)
    ∧ qb_mc s (qb_nx j 2) = qb_f (s (qb_nx j 2)) (s (qb_nx j 3)) (s j) (s (qb_nx j 1))
    ∧ qb_mc s (qb_nx j 3) = qb_f (s (qb_nx j 3)) (s j) (s (qb_nx j 1)) (s (qb_nx j 2)) := by
  have h11 : qb_nx (qb_nx j 1) 1 = qb_nx j 2 := qb_nn j hj 1 (by decide) 1 (by decide)
  have h12 : qb_nx (qb_nx j 1) 2 = qb_nx j 3 := qb_nn j hj 1 (by decide) 2 (by decide)
  have h13 : qb_nx (qb_nx j 1) 3 = j := (qb_nn j hj 1 (by decide) 3 (by decide)).trans (qb_n0 j hj)
  have h21 : qb_nx (qb_nx j 2) 1 = qb_nx j 3 := qb_nn j hj 2 (by decide) 1 (by decide)
  have h22 : qb_nx (qb_nx j 2) 2 = j := (qb_nn j hj 2 (by decide) 2 (by decide)).trans (qb_n0 j hj)
  have h23 : qb_nx (qb_nx j 2) 3 = qb_nx j 1 := qb_nn j hj 2 (by decide) 3 (by decide)
  have h31 : qb_nx (qb_nx j 3) 1 = j := (qb_nn j hj 3 (by decide) 1 (by decide)).trans (qb_n0 j hj)
  have h32 : qb_nx (qb_nx j 3) 2 = qb_nx j 1 := qb_nn j hj 3 (by decide) 2 (by decide)
  have h33 : qb_nx (qb_nx j 3) 3 = qb_nx j 2 := qb_nn j hj 3 (by decide) 3 (by decide)
  refine ⟨?_, ?_, ?_⟩
  · unfold qb_mc; rw [h11, h12, h13]
  · unfold qb_mc; rw [h21, h22, h23]
  · unfold qb_mc; rw [h31, h32, h33]
theorem qb_m2 (s : Nat → Nat) {j : Nat} (hj : j < 16) : qb_mc (qb_mc s) j = qb_tw (qb_tw (s j)) ^^^ s j ^^^ qb_tw (qb_tw (s (qb_nx j 2))) := by
  have h := qb_mcR s hj
  show qb_f (qb_mc s j) (qb_mc s (qb_nx j 1)) (qb_mc s (qb_nx j 2)) (qb_mc s (qb_nx j 3)) = _
  rw [h.1, h.2.1, h.2.2]
  exact qb_ff _ _ _ _
theorem qb_m3 (s : Nat → Nat) {j : Nat} (hj : j < 16) (hs : ∀ k, k < 16 → s k < 256) : qb_mc (qb_mc (qb_mc s)) j = qb_mi s j := by
  have h1 := qb_m2 s (qb_n16 j hj 1 (by decide))
  have h2 := qb_m2 s (qb_n16 j hj 2 (by decide))
  have h3 := qb_m2 s (qb_n16 j hj 3 (by decide))
  have e12 : qb_nx (qb_nx j 1) 2 = qb_nx j 3 := qb_nn j hj 1 (by decide) 2 (by decide)
  have e22 : qb_nx (qb_nx j 2) 2 = j := (qb_nn j hj 2 (by decide) 2 (by decide)).trans (qb_n0 j hj)
  have e32 : qb_nx (qb_nx j 3) 2 = qb_nx j 1 := qb_nn j hj 3 (by decide) 2 (by decide)
  rw [e12] at h1
  rw [e22] at h2
  rw [e32] at h3
  show qb_f (qb_mc (qb_mc s) j) (qb_mc (qb_mc s) (qb_nx j 1)) (qb_mc (qb_mc s) (qb_nx j 2)) (qb_mc (qb_mc s) (qb_nx j 3)) = _
  rw [h1, h2, h3, qb_m2 s hj, qb_fg]
  unfold qb_mi
  rw [qb_x14 _ (hs j hj), qb_x11 _ (hs _ (qb_n16 j hj 1 (by decide))), qb_x13 _ (hs _ (qb_n16 j hj 2 (by decide))), qb_x9 _ (hs _ (qb_n16 j hj 3 (by decide)))]
theorem qb_xlt {a b : Nat} (ha : a < 256) (hb : b < 256) : a ^^^ b < 256 := Nat.xor_lt_two_pow (n := 8) ha hb
theorem qb_f_lt {a b c d : Nat} (ha : a < 256) (hb : b < 256) (hc : c < 256) (hd : d < 256) : qb_f a b c d < 256 :=
  qb_xlt (qb_xlt (qb_xlt (qb_tw_lt _ ha) (qb_xlt (qb_tw_lt _ hb) hb)) hc) hd
theorem qb_mc_lt (s : Nat → Nat) {j : Nat} (hj : j < 16) (hs : ∀ k, k < 16 → s k < 256) : qb_mc s j < 256 :=
  qb_f_lt (hs j hj) (hs _ (qb_n16 j hj 1 (by decide))) (hs _ (qb_n16 j hj 2 (by decide))) (hs _ (qb_n16 j hj 3 (by decide)))
theorem qb_mi_lt (s : Nat → Nat) {j : Nat} (hj : j < 16) (hs : ∀ k, k < 16 → s k < 256) : qb_mi s j < 256 :=
  qb_xlt (qb_xlt (qb_xlt (qb_tm_lt (hs j hj) _) (qb_tm_lt (hs _ (qb_n16 j hj 1 (by decide))) _)) (qb_tm_lt (hs _ (qb_n16 j hj 2 (by decide))) _)) (qb_tm_lt (hs _ (qb_n16 j hj 3 (by decide))) _)
/-- column mixing, as X reckons it -/
theorem qb_mcX (s : Nat → Nat) {j : Nat} (hj : j < 16) (hs : ∀ k, k < 16 → s k < 256) : qb_tm (s j) 2 ^^^ qb_tm (s (qb_nx j 1)) 3 ^^^ qb_tm (s (qb_nx j 2)) 1 ^^^ qb_tm (s (qb_nx j 3)) 1 = qb_mc s j := by
  rw [qb_x2 _ (hs j hj), qb_x3 _ (hs _ (qb_n16 j hj 1 (by decide))), qb_x1 _ (hs _ (qb_n16 j hj 2 (by decide))), qb_x1 _ (hs _ (qb_n16 j hj 3 (by decide)))]
  rfl
/-- and as Y does -/
theorem qb_mcY (s : Nat → Nat) {j : Nat} (hj : j < 16) (hs : ∀ k, k < 16 → s k < 256) : qb_tm 2 (s j) ^^^ qb_tm 3 (s (qb_nx j 1)) ^^^ s (qb_nx j 2) ^^^ s (qb_nx j 3) = qb_mc s j := by
  rw [qb_y2 _ (hs j hj), qb_y3 _ (hs _ (qb_n16 j hj 1 (by decide)))]
  rfl
/-! words and bytes -/
def qb_by (w : Int32) (i : Nat) : Nat := w.toBitVec.toNat / 2 ^ (24 - 8 * i) % 2 ^ 8
theorem qb_by_lt (w : Int32) (i : Nat) : qb_by w i < 256 := Nat.mod_lt _ (by decide)
theorem qb_byX (w : Int32) (k : Nat) (hk : k < 32) : (w.toUInt32 >>> ((nI k).toUInt32 &&& Int32.toUInt32 31)).toInt32 &&& 255 = nI (w.toBitVec.toNat / 2 ^ k % 2 ^ 8) := by
  rw [pk_and _ 8 (by decide), pk_ushr w _ k (s_u k hk)]
theorem qb_byS (w : Int32) (k : Nat) (hk : k < 25) : (w >>> (nI k &&& 31)) &&& 255 = (w.toUInt32 >>> ((nI k).toUInt32 &&& Int32.toUInt32 31)).toInt32 &&& 255 := by
  apply b_ext
  intro i hi
  rw [b_and, b_and, b_255, b_sshr k (by omega) w hi, b_ushr k (by omega)]
  by_cases h : i < 8
  · rw [if_pos (by omega)]
  · rw [decide_eq_false h, Bool.and_false, Bool.and_false]
theorem qb_24 : ∀ i, i < 4 → (24 : Int32) - 8 * nI i = nI (24 - 8 * i) := by decide +kernel
theorem qb_bX (w : Int32) {i : Nat} (hi : i < 4) : (w.toUInt32 >>> (((24 : Int32) - 8 * nI i).toUInt32 &&& Int32.toUInt32 31)).toInt32 &&& 255 = nI (qb_by w i) := by
  rw [qb_24 i hi]; exact qb_byX w (24 - 8 * i) (by omega)
theorem qb_bY (w : Int32) {i : Nat} (hi : i < 4) : (w >>> (((24 : Int32) - 8 * nI i) &&& 31)) &&& 255 = nI (qb_by w i) := by
  rw [qb_24 i hi, qb_byS w (24 - 8 * i) (by omega)]; exact qb_byX w (24 - 8 * i) (by omega)
/-- the first byte needs no mask -/
theorem qb_b0 (w : Int32) : (w.toUInt32 >>> ((24 : Int32).toUInt32 &&& Int32.toUInt32 31)).toInt32 = nI (qb_by w 0) := by
  have h : (w.toUInt32 >>> ((24 : Int32).toUInt32 &&& Int32.toUInt32 31)).toInt32 &&& 255 = (w.toUInt32 >>> ((24 : Int32).toUInt32 &&& Int32.toUInt32 31)).toInt32 := by
    apply b_ext
    intro i hi
    have e : bt ((w.toUInt32 >>> ((24 : Int32).toUInt32 &&& Int32.toUInt32 31)).toInt32) i = bt w (24 + i) := b_ushr 24 (by omega) w i
    rw [b_and, b_255, e]
    by_cases h : i < 8
    · rw [decide_eq_true h, Bool.and_true]
    · rw [b_big (by omega), Bool.false_and]
  rw [← h]; exact qb_byX w 24 (by omega)
theorem qb_shB (a s : Int32) (k : Nat) (hs : (s.toBitVec.smod 32).toNat = k) : (a <<< s).toBitVec = a.toBitVec <<< k := by
  show a.toBitVec <<< (s.toBitVec.smod 32).toNat = _
  rw [hs]
def qb_j4 (a b c d : Int32) : Int32 := (((a <<< ((24 : Int32) &&& 31)) ||| (b <<< ((16 : Int32) &&& 31))) ||| (c <<< ((8 : Int32) &&& 31))) ||| d
def qb_l8 (r a : Int32) : Int32 := (r <<< ((8 : Int32) &&& 31)) ||| a
theorem qb_j4l (a b c d : Int32) : qb_l8 (qb_l8 (qb_l8 (qb_l8 0 a) b) c) d = qb_j4 a b c d := by
  apply Int32.toBitVec_inj.mp
  unfold qb_l8 qb_j4
  simp only [Int32.toBitVec_or, qb_shB _ _ 8 (show (((8 : Int32) &&& 31).toBitVec.smod 32).toNat = 8 by decide), qb_shB _ _ 16 (show (((16 : Int32) &&& 31).toBitVec.smod 32).toNat = 16 by decide), qb_shB _ _ 24 (show (((24 : Int32) &&& 31).toBitVec.smod 32).toNat = 24 by decide), BitVec.shiftLeft_or_distrib, ← BitVec.shiftLeft_add, Nat.reduceAdd]
  rw [show (0 : Int32).toBitVec = 0#32 from rfl, BitVec.zero_shiftLeft, BitVec.zero_or]
/-- one bit, by either shift -/
theorem qb_bit (w : Int32) (k : Nat) (hk : k < 32) : (w >>> (nI k &&& 31)) &&& 1 = (w.toUInt32 >>> ((nI k).toUInt32 &&& Int32.toUInt32 31)).toInt32 &&& 1 := by
  apply b_ext
  intro i hi
  rw [b_and, b_and, b_sshr k hk w hi, b_ushr k hk]
  by_cases h : i = 0
  · subst h; rw [if_pos (by omega)]
  · have e : bt 1 i = false := (by decide +kernel : ∀ i, i < 32 → i ≠ 0 → bt 1 i = false) i hi h
    rw [e, Bool.and_false, Bool.and_false]
/-! the pictures of the cipher -/
def qb_ro (j : Nat) : Nat := (j % 4 + 4 * (j / 4 + j % 4)) % 16
theorem qb_ro_lt (j : Nat) : qb_ro j < 16 := Nat.mod_lt _ (by decide)
def qb_Sq (a : Nat → Int32) (s : Nat → Nat) : Prop := ∀ j, j < 16 → a j = nI (s j) ∧ s j < 256
theorem qb_Sq_c {a : Nat → Int32} {s t : Nat → Nat} (h : qb_Sq a s) (e : ∀ j, j < 16 → s j = t j) : qb_Sq a t := fun j hj => e j hj ▸ h j hj
def qb_ld (w : Nat → Int32) (j : Nat) : Nat := qb_by (w (j / 4)) (j % 4)
def qb_ak (rk : Nat → Int32) (q : Nat) (s : Nat → Nat) (j : Nat) : Nat := s j ^^^ qb_by (rk (4 * q + j / 4)) (j % 4)
def qb_su (s : Nat → Nat) (j : Nat) : Nat := qb_SB (s j)
def qb_un (s : Nat → Nat) (j : Nat) : Nat := qb_OG (s j)
def qb_sr (s : Nat → Nat) (j : Nat) : Nat := s (qb_ro j)
def qb_s3 (s : Nat → Nat) (j : Nat) : Nat := s (qb_ro (qb_ro (qb_ro j)))
def qb_e1 (rk : Nat → Int32) (q : Nat) (s : Nat → Nat) : Nat → Nat := qb_ak rk q (if q = 10 then qb_sr (qb_su s) else qb_mc (qb_sr (qb_su s)))
def qb_en (rk : Nat → Int32) (s : Nat → Nat) : Nat → Nat → Nat
  | 0 => qb_ak rk 0 s
  | q + 1 => qb_e1 rk (q + 1) (qb_en rk s q)
def qb_d1 (rk : Nat → Int32) (q : Nat) (s : Nat → Nat) : Nat → Nat := qb_un (qb_s3 (if q = 10 then qb_ak rk q s else qb_mi (qb_ak rk q s)))
def qb_de (rk : Nat → Int32) (s : Nat → Nat) : Nat → Nat → Nat
  | 0 => s
  | n + 1 => qb_d1 rk (10 - n) (qb_de rk s n)
def qb_jn (s : Nat → Nat) (c : Nat) : Int32 := qb_j4 (nI (s (4 * c))) (nI (s (4 * c + 1))) (nI (s (4 * c + 2))) (nI (s (4 * c + 3)))
end
section
/-! ===== writes, indices ===== -/
theorem qb_ul {a g : Nat → Int32} {i : Nat} {v : Int32} (h : ∀ j, j < i → a j = g j) (e : v = g i) : ∀ j, j < i + 1 → upd a i v j = g j := by
  intro j hj
  by_cases z : j = i
  · subst z; rw [pk_us, e]
  · rw [pk_un z]; exact h j (by omega)
theorem qb_uh {a g : Nat → Int32} {i N : Nat} {v : Int32} (h : ∀ j, i ≤ j → j < N → a j = g j) : ∀ j, i + 1 ≤ j → j < N → upd a i v j = g j := by
  intro j hj hN
  rw [pk_un (by omega)]; exact h j (by omega) hN
theorem qb_ge (e : Nat) (he : e < 2 ^ 31) {x : Int32} (hx : x = nI e) : x ≤ nI e := by rw [hx]; exact nI_le (Nat.le_refl e) he
theorem qb_nge {i e : Nat} (h : i < e) (he : e < 2 ^ 31) : ¬ nI e ≤ nI i := nI_ge h he
theorem qb_SqB {a : Nat → Int32} {s : Nat → Nat} (h : qb_Sq a s) : ∀ k, k < 16 → s k < 256 := fun k hk => (h k hk).2
theorem qb_SqV {a : Nat → Int32} {s : Nat → Nat} (h : qb_Sq a s) : ∀ k, k < 16 → a k = nI (s k) := fun k hk => (h k hk).1
end
section
/-! ===== product, inverse, substitution ===== -/
theorem qb_bitN {y i : Nat} (hy : y < 256) (hi : i < 8) : (nI y >>> (nI i &&& 31)) &&& 1 = nI ((y >>> i) % 2) := by
  have h : y / 2 ^ i ≤ y := Nat.div_le_self _ _
  rw [pk_shrN (by omega) _ i (s_l i (by omega)), pk_andN (by omega) 1 (by decide), Nat.shiftRight_eq_div_pow]
theorem qx_p28 (post : Int32 → Prop) (J : Int32 → Int32 → Int32 → Prop) (y r : Int32) {d : Nat} (hd : d < 256) (i : Nat) (H : J r (nI (qb_tw d)) (nI (i + 1))) : wX_product_28 post J y r (nI d) (nI i) := by
  unfold wX_product_28
  refine nm_r (pk_mul 2 d) ?_
  refine pk_le (2 * d) 255 (fun h => nm_r (nI_1 i) ?_) (fun h => nm_r (nx_xor (2 * d) 283) (nm_r (nI_1 i) ?_))
  · rw [(qb_tw_j d hd).2 (by omega)] at H; exact H
  · rw [(qb_tw_j d hd).1 (by omega)] at H; exact H
theorem qx_product (post : Int32 → Prop) {x y : Nat} (hx : x < 256) (hy : y < 256) (H : post (nI (qb_tm x y))) : wpX_product post (nI x) (nI y) := by
  show ∃ n, wX_product_7 post (nI y) n 0 (nI x) 0
  refine pk_loop (σ := Int32 × Int32) (fun n i s => wX_product_7 post (nI y) n s.1 s.2 (nI i)) (fun i s => s.1 = nI (qb_ps x y i) ∧ s.2 = nI (qb_dk x i)) 8 0 (0, nI x) (by decide) ⟨rfl, rfl⟩ ?_ ?_
  · rintro n ⟨r, d⟩ ⟨h1, h2⟩
    obtain rfl : r = nI (qb_ps x y 8) := h1
    exact br_t (nI_le (a := 8) (b := 8) (Nat.le_refl 8) (by decide)) H
  · rintro n i ⟨r, d⟩ hi ⟨h1, h2⟩ ih
    obtain rfl : r = nI (qb_ps x y i) := h1
    obtain rfl : d = nI (qb_dk x i) := h2
    have e1 := qb_bitN hy hi
    have hd := qb_dk_lt hx i
    rcases Nat.mod_two_eq_zero_or_one (y >>> i) with e | e
    · refine br_f (nI_ge (b := 8) hi (by decide)) (br_f (by rw [e1, e]; decide) (qx_p28 _ _ _ _ hd i (ih (nI (qb_ps x y i), nI (qb_tw (qb_dk x i))) ⟨?_, rfl⟩)))
      show nI (qb_ps x y i) = nI (qb_ps x y (i + 1))
      rw [qb_ps_s, e, Nat.zero_mul, Nat.xor_zero]
    · refine br_f (nI_ge (b := 8) hi (by decide)) (br_t (by rw [e1, e]; rfl) (nm_r (nx_xor _ _) (qx_p28 _ _ _ _ hd i (ih (nI (qb_ps x y i ^^^ qb_dk x i), nI (qb_tw (qb_dk x i))) ⟨?_, rfl⟩))))
      show nI (qb_ps x y i ^^^ qb_dk x i) = nI (qb_ps x y (i + 1))
      rw [qb_ps_s, e, Nat.one_mul]
theorem qx_inverse (post : Int32 → Prop) {x : Nat} (hx : x < 256) (H : post (nI (qb_IV x))) : wpX_inverse post (nI x) := by
  show ∃ n, wX_inverse_4 post (nI x) n 1 0
  refine pk_loop (σ := Int32) (fun n i s => wX_inverse_4 post (nI x) n s (nI i)) (fun i s => s = nI (qb_pw x i)) 7 0 1 (by decide) rfl ?_ ?_
  · rintro n s h
    obtain rfl : s = nI (qb_pw x 7) := h
    exact br_t (nI_le (a := 7) (b := 7) (Nat.le_refl 7) (by decide)) (qx_product _ (qb_pw_lt x 7) (qb_pw_lt x 7) (by rw [qb_iv x hx]; exact H))
  · rintro n i s hi h ih
    obtain rfl : s = nI (qb_pw x i) := h
    exact br_f (nI_ge (b := 7) hi (by decide)) (qx_product _ (qb_pw_lt x i) (qb_pw_lt x i) (qx_product _ (qb_tm_lt (qb_pw_lt x i) _) hx (nm_r (nI_1 i) (ih _ rfl))))
def qb_sX (v : Int32) : Int32 :=
  let t : Int32 := v ||| (v <<< ((8 : Int32) &&& 31))
  (((((t ^^^ (t >>> ((4 : Int32) &&& 31))) ^^^ (t >>> ((5 : Int32) &&& 31))) ^^^ (t >>> ((6 : Int32) &&& 31))) ^^^ (t >>> ((7 : Int32) &&& 31))) &&& 255) ^^^ 99
theorem qb_sE : ∀ x, x < 256 → qb_sX (nI (qb_IV x)) = nI (qb_SB x) := by decide +kernel
theorem qx_substitution (post : Int32 → Prop) {x : Nat} (hx : x < 256) (H : post (nI (qb_SB x))) : wpX_substitution post (nI x) := by
  rw [← qb_sE x hx] at H
  unfold wpX_substitution
  exact qx_inverse _ hx (nm_e (nm_e H))
theorem qy_twice (post : Int32 → Prop) {d : Nat} (hd : d < 256) (H : post (nI (qb_tw d))) : wpY_twice post (nI d) := by
  unfold wpY_twice
  have e : (2 : Int32) * nI d = nI (2 * d) := pk_mul 2 d
  have e2 : nI (2 * d) ^^^ 283 = nI ((2 * d) ^^^ 283) := nx_xor (2 * d) 283
  rw [e, e2]
  refine pk_le (2 * d) 255 (fun h => ?_) (fun h => ?_)
  · rw [(qb_tw_j d hd).2 (by omega)] at H; exact H
  · rw [(qb_tw_j d hd).1 (by omega)] at H; exact H
theorem qy_p28 (post : Int32 → Prop) (J : Int32 → Int32 → Int32 → Prop) (y r : Int32) {d : Nat} (hd : d < 256) (i : Nat) (H : J r (nI (qb_tw d)) (nI (i + 1))) : wY_times_28 post J y r (nI d) (nI i) := by
  unfold wY_times_28
  exact qy_twice _ hd (nm_r (nI_1 i) H)
theorem qy_times (post : Int32 → Prop) {x y : Nat} (hx : x < 256) (hy : y < 256) (H : post (nI (qb_tm x y))) : wpY_times post (nI x) (nI y) := by
  show ∃ n, wY_times_7 post (nI y) n 0 (nI x) 0
  refine pk_loop (σ := Int32 × Int32) (fun n i s => wY_times_7 post (nI y) n s.1 s.2 (nI i)) (fun i s => s.1 = nI (qb_ps x y i) ∧ s.2 = nI (qb_dk x i)) 8 0 (0, nI x) (by decide) ⟨rfl, rfl⟩ ?_ ?_
  · rintro n ⟨r, d⟩ ⟨h1, h2⟩
    obtain rfl : r = nI (qb_ps x y 8) := h1
    exact br_t (nI_le (a := 8) (b := 8) (Nat.le_refl 8) (by decide)) H
  · rintro n i ⟨r, d⟩ hi ⟨h1, h2⟩ ih
    obtain rfl : r = nI (qb_ps x y i) := h1
    obtain rfl : d = nI (qb_dk x i) := h2
    have e1 := qb_bitN hy hi
    have hd := qb_dk_lt hx i
    rcases Nat.mod_two_eq_zero_or_one (y >>> i) with e | e
    · refine br_f (nI_ge (b := 8) hi (by decide)) (br_f (by rw [e1, e]; decide) (qy_p28 _ _ _ _ hd i (ih (nI (qb_ps x y i), nI (qb_tw (qb_dk x i))) ⟨?_, rfl⟩)))
      show nI (qb_ps x y i) = nI (qb_ps x y (i + 1))
      rw [qb_ps_s, e, Nat.zero_mul, Nat.xor_zero]
    · refine br_f (nI_ge (b := 8) hi (by decide)) (br_t (by rw [e1, e]; rfl) (nm_r (nx_xor _ _) (qy_p28 _ _ _ _ hd i (ih (nI (qb_ps x y i ^^^ qb_dk x i), nI (qb_tw (qb_dk x i))) ⟨?_, rfl⟩))))
      show nI (qb_ps x y i ^^^ qb_dk x i) = nI (qb_ps x y (i + 1))
      rw [qb_ps_s, e, Nat.one_mul]
theorem qy_inv (post : Int32 → Prop) {x : Nat} (hx : x < 256) : ∀ n, n ≤ 255 → post (nI (qb_sc x n)) → wY_inverse_2 post (nI x) (n + 1) (nI (256 - n)) := by
  intro n
  induction n with
  | zero => exact fun _ H => br_t (nI_le (a := 256) (b := 256) (Nat.le_refl 256) (by decide)) H
  | succ n ih =>
    intro hn H
    have e : 256 - (n + 1) = 255 - n := by omega
    have hs : qb_sc x (n + 1) = cond (Nat.beq (qb_tm x (255 - n)) 1) (255 - n) (qb_sc x n) := rfl
    have ht : qb_tm x (255 - n) < 256 := qb_tm_lt hx _
    rw [e]
    refine br_f (nI_ge (b := 256) (by omega) (by decide)) (qy_times _ hx (by omega) ?_)
    refine pk_eq (qb_tm x (255 - n)) 1 (fun h => ?_) (fun h => ?_)
    · rw [hs, h] at H
      exact H
    · have hb : Nat.beq (qb_tm x (255 - n)) 1 = false := by
        cases hc : Nat.beq (qb_tm x (255 - n)) 1 with
        | false => rfl
        | true => exact absurd (Nat.eq_of_beq_eq_true hc) h
      rw [hs, hb] at H
      exact nm_r ((nI_1 (255 - n)).trans (congrArg nI (by omega : 255 - n + 1 = 256 - n))) (ih (by omega) H)
theorem qy_inverse (post : Int32 → Prop) {x : Nat} (hx : x < 256) (H : post (nI (qb_IV x))) : wpY_inverse post (nI x) := by
  rw [← qb_scI x hx] at H
  exact ⟨256, qy_inv post hx 255 (Nat.le_refl 255) H⟩
def qb_s1 (x0 x2 : Int32) : Int32 := (((((x0 >>> (x2 &&& 31)) ^^^ (x0 >>> (((x2 + 4) - (x2 + 4) / 8 * 8) &&& 31))) ^^^ (x0 >>> (((x2 + 5) - (x2 + 5) / 8 * 8) &&& 31))) ^^^ (x0 >>> (((x2 + 6) - (x2 + 6) / 8 * 8) &&& 31))) ^^^ (x0 >>> (((x2 + 7) - (x2 + 7) / 8 * 8) &&& 31))) ^^^ ((99 : Int32) >>> (x2 &&& 31))
def qb_sp (v : Int32) : Nat → Int32
  | 0 => 0
  | k + 1 => qb_sp v k ||| ((qb_s1 v (nI k) &&& 1) <<< (nI k &&& 31))
theorem qb_spE : ∀ x, x < 256 → qb_sp (nI (qb_IV x)) 8 = nI (qb_SB x) := by decide +kernel
theorem qy_spread (post : Int32 → Prop) {x : Nat} (hx : x < 256) (H : post (nI (qb_SB x))) : wpY_spread post (nI (qb_IV x)) := by
  rw [← qb_spE x hx] at H
  generalize nI (qb_IV x) = v at H ⊢
  show ∃ n, wY_spread_4 post v n 0 0
  refine pk_loop (σ := Int32) (fun n i s => wY_spread_4 post v n s (nI i)) (fun i s => s = qb_sp v i) 8 0 0 (by decide) rfl ?_ ?_
  · rintro n s h
    obtain rfl : s = qb_sp v 8 := h
    exact br_t (nI_le (a := 8) (b := 8) (Nat.le_refl 8) (by decide)) H
  · rintro n i s hi h ih
    obtain rfl : s = qb_sp v i := h
    exact br_f (nI_ge (b := 8) hi (by decide)) ⟨by decide, by decide, by decide, by decide, nm_e (nm_e (nm_r (nI_1 i) (ih (qb_sp v (i + 1)) rfl)))⟩
/-! a word substituted -/
def qb_sw (w : Int32) : Int32 := qb_j4 (nI (qb_SB (qb_by w 0))) (nI (qb_SB (qb_by w 1))) (nI (qb_SB (qb_by w 2))) (nI (qb_SB (qb_by w 3)))
def qb_Tab (a : Nat → Int32) : Prop := ∀ x, x < 256 → a x = nI (qb_SB x)
theorem qx_sw (post : Int32 → Prop) {a1 a2 a3 a4 a5 a6 a7 a8 a9 : Nat → Int32} (hT : qb_Tab a1) (w : Int32) (H : post (qb_sw w)) : wpX_substituteWord post (a1, a2, a3, a4, a5, a6, a7, a8, a9) w := by
  have e0 := qb_b0 w
  have e1 : (w.toUInt32 >>> ((16 : Int32).toUInt32 &&& Int32.toUInt32 31)).toInt32 &&& 255 = nI (qb_by w 1) := qb_byX w 16 (by decide)
  have e2 : (w.toUInt32 >>> ((8 : Int32).toUInt32 &&& Int32.toUInt32 31)).toInt32 &&& 255 = nI (qb_by w 2) := qb_byX w 8 (by decide)
  have e3 : w &&& 255 = nI (qb_by w 3) := by
    have e : qb_by w 3 = w.toBitVec.toNat % 2 ^ 8 := by
      show w.toBitVec.toNat / 1 % 2 ^ 8 = _
      rw [Nat.div_one]
    rw [e]; exact pk_and w 8 (by decide)
  have h0 := qb_by_lt w 0
  have h1 := qb_by_lt w 1
  have h2 := qb_by_lt w 2
  have h3 := qb_by_lt w 3
  unfold wpX_substituteWord
  dsimp only
  rw [e0, e1, e2, e3, nI_clamp (n := qb_by w 0) (by omega), nI_clamp (n := qb_by w 1) (by omega), nI_clamp (n := qb_by w 2) (by omega), nI_clamp (n := qb_by w 3) (by omega), hT _ h0, hT _ h1, hT _ h2, hT _ h3]
  exact ⟨vp_in_nI h0 (by decide), vp_in_nI h1 (by decide), vp_in_nI h2 (by decide), vp_in_nI h3 (by decide), H⟩
def qb_yl (w : Int32) : Nat → Int32
  | 0 => 0
  | i + 1 => qb_l8 (qb_yl w i) (nI (qb_SB (qb_by w i)))
theorem qb_yl4 (w : Int32) : qb_yl w 4 = qb_sw w := qb_j4l _ _ _ _
theorem qy_sw (post : Int32 → Prop) {b1 b2 b3 b4 b5 b6 b7 b8 b9 : Nat → Int32} (hT : qb_Tab b1) (w : Int32) (H : post (qb_sw w)) : wpY_substituted post (b1, b2, b3, b4, b5, b6, b7, b8, b9) w := by
  rw [← qb_yl4] at H
  show ∃ n, wY_substituted_4 post w b1 b2 b3 b4 b5 b6 b7 b8 b9 n 0 0
  refine pk_loop (σ := Int32) (fun n i s => wY_substituted_4 post w b1 b2 b3 b4 b5 b6 b7 b8 b9 n s (nI i)) (fun i s => s = qb_yl w i) 4 0 0 (by decide) rfl ?_ ?_
  · rintro n s h
    obtain rfl : s = qb_yl w 4 := h
    exact br_t (nI_le (a := 4) (b := 4) (Nat.le_refl 4) (by decide)) H
  · rintro n i s hi h ih
    obtain rfl : s = qb_yl w i := h
    refine br_f (nI_ge (b := 4) hi (by decide)) ?_
    unfold wpY_byteOf
    have hb := qb_by_lt w i
    rw [qb_bY w hi]
    refine ⟨vp_in_nI hb (by decide), nm_r ?_ (nm_r (nI_1 i) (ih (qb_yl w (i + 1)) rfl))⟩
    rw [nI_clamp (n := qb_by w i) (by omega), hT _ hb]
    rfl
end
section
/-! ===== X: the steps on the square ===== -/
theorem qb_ix1 : ∀ q, q < 11 → ∀ i, i < 16 → (4 : Int32) * nI q + (nI i >>> ((2 : Int32) &&& 31)) = nI (4 * q + i / 4) := by decide +kernel
theorem qb_ix2 : ∀ i, i < 16 → nI i &&& 3 = nI (i % 4) := by decide +kernel
theorem qb_ix3 : ∀ i, i < 16 → nI i >>> ((2 : Int32) &&& 31) = nI (i / 4) := by decide +kernel
theorem qb_m255 {n : Nat} (h : n < 256) : nI n &&& 255 = nI n := by
  rw [pk_andN (by omega) 8 (by decide), Nat.mod_eq_of_lt h]
def qb_rx (t j : Nat) : Nat := 4 * ((j / 4 + t * (j % 4)) % 4) + j % 4
theorem qb_ix4 : ∀ t, t < 4 → ∀ i, i < 16 → (4 : Int32) * (((nI i >>> ((2 : Int32) &&& 31)) + (nI t * (nI i &&& 3))) &&& 3) + (nI i &&& 3) = nI (qb_rx t i) := by decide +kernel
theorem qb_rx16 : ∀ t, t < 4 → ∀ i, i < 16 → qb_rx t i < 16 := by decide +kernel
theorem qb_rx1 : ∀ i, i < 16 → qb_rx 1 i = qb_ro i := by decide +kernel
theorem qb_rx3 : ∀ i, i < 16 → qb_rx 3 i = qb_ro (qb_ro (qb_ro i)) := by decide +kernel
theorem qb_ix5 : ∀ i, i < 16 → nI i - (nI i &&& 3) + (((nI i &&& 3) + 1) &&& 3) = nI (qb_nx i 1) := by decide +kernel
theorem qb_ix6 : ∀ i, i < 16 → nI i - (nI i &&& 3) + (((nI i &&& 3) + 2) &&& 3) = nI (qb_nx i 2) := by decide +kernel
theorem qb_ix7 : ∀ i, i < 16 → nI i - (nI i &&& 3) + (((nI i &&& 3) + 3) &&& 3) = nI (qb_nx i 3) := by decide +kernel
theorem qx_ark (post : SX → Prop) {a1 a2 a3 a4 a5 a6 a7 a8 a9 : Nat → Int32} {q : Nat} (hq : q < 11) (s : Nat → Nat) (hs : qb_Sq a6 s) (H : ∀ a, qb_Sq a (qb_ak a3 q s) → post (a1, a2, a3, a4, a5, a, a7, a8, a9)) : wpX_addRoundKey post (a1, a2, a3, a4, a5, a6, a7, a8, a9) (nI q) := by
  show ∃ n, wX_addRoundKey_2 post (nI q) n 0 a1 a2 a3 a4 a5 a6 a7 a8 a9
  refine pk_loop (σ := Nat → Int32) (fun n i a => wX_addRoundKey_2 post (nI q) n (nI i) a1 a2 a3 a4 a5 a a7 a8 a9) (fun i a => (∀ j, j < i → a j = nI (qb_ak a3 q s j)) ∧ (∀ j, i ≤ j → j < 16 → a j = nI (s j))) 16 0 a6 (by decide) ⟨fun j h => absurd h (Nat.not_lt_zero j), fun j _ h => (hs j h).1⟩ ?_ ?_
  · rintro n a ⟨h1, h2⟩
    exact br_t (nI_le (a := 16) (b := 16) (Nat.le_refl 16) (by decide)) (H a (fun j hj => ⟨h1 j hj, qb_xlt (hs j hj).2 (qb_by_lt _ _)⟩))
  · rintro n i a hi ⟨h1, h2⟩ ih
    have e1 := qb_ix1 q hq i hi
    have e2 := qb_ix2 i hi
    have hc : (nI i).toNatClampNeg = i := nI_clamp (by omega)
    have hd : (nI (4 * q + i / 4)).toNatClampNeg = 4 * q + i / 4 := nI_clamp (by omega)
    refine br_f (nI_ge (b := 16) hi (by decide)) ⟨vp_in_nI hi (by decide), ?_⟩
    rw [e1, e2, hc, hd]
    refine ⟨vp_in_nI (by omega) (by decide), ?_⟩
    unfold wpX_byteOf
    refine ⟨vp_in_nI hi (by decide), nm_r (e' := upd a i (nI (qb_ak a3 q s i))) ?_ (nm_r (nI_1 i) (ih _ ⟨qb_ul h1 rfl, qb_uh h2⟩))⟩
    rw [h2 i (Nat.le_refl i) hi, qb_bX _ (Nat.mod_lt _ (by decide)), nx_xor]
    rfl
theorem qx_ld_present (post : SX → Prop) {a1 a2 a3 a4 a5 a6 a7 a8 a9 : Nat → Int32} (w : Nat → Int32) (hw : ∀ c, c < 4 → a4 c = w c) (H : ∀ a, qb_Sq a (qb_ld w) → post (a1, a2, a3, a4, a5, a, a7, a8, a9)) : wpX_loadSquare__present post (a1, a2, a3, a4, a5, a6, a7, a8, a9) := by
  show ∃ n, wX_loadSquare__present_2 post n 0 a1 a2 a3 a4 a5 a6 a7 a8 a9
  refine pk_loop (σ := Nat → Int32) (fun n i a => wX_loadSquare__present_2 post n (nI i) a1 a2 a3 a4 a5 a a7 a8 a9) (fun i a => ∀ j, j < i → a j = nI (qb_ld w j)) 16 0 a6 (by decide) (fun j h => absurd h (Nat.not_lt_zero j)) ?_ ?_
  · intro n a h1
    exact br_t (nI_le (a := 16) (b := 16) (Nat.le_refl 16) (by decide)) (H a (fun j hj => ⟨h1 j hj, qb_by_lt _ _⟩))
  · intro n i a hi h1 ih
    have e1 := qb_ix3 i hi
    have e2 := qb_ix2 i hi
    have hc : (nI i).toNatClampNeg = i := nI_clamp (by omega)
    have hd : (nI (i / 4)).toNatClampNeg = i / 4 := nI_clamp (by omega)
    refine br_f (nI_ge (b := 16) hi (by decide)) ?_
    rw [e1, e2, hc, hd, hw _ (by omega)]
    refine ⟨vp_in_nI (by omega) (by decide), ?_⟩
    unfold wpX_byteOf
    refine ⟨vp_in_nI hi (by decide), nm_r (e' := upd a i (nI (qb_ld w i))) ?_ (nm_r (nI_1 i) (ih _ (qb_ul h1 rfl)))⟩
    rw [qb_bX _ (Nat.mod_lt _ (by decide))]
    rfl
theorem qx_st_present (post : SX → Prop) {a1 a2 a3 a4 a5 a6 a7 a8 a9 : Nat → Int32} (s : Nat → Nat) (hs : qb_Sq a6 s) (H : ∀ a, (∀ c, c < 4 → a c = qb_jn s c) → post (a1, a2, a3, a, a5, a6, a7, a8, a9)) : wpX_storeSquare__present post (a1, a2, a3, a4, a5, a6, a7, a8, a9) := by
  show ∃ n, wX_storeSquare__present_2 post n 0 a1 a2 a3 a4 a5 a6 a7 a8 a9
  refine pk_loop (σ := Nat → Int32) (fun n i a => wX_storeSquare__present_2 post n (nI i) a1 a2 a3 a a5 a6 a7 a8 a9) (fun i a => ∀ c, c < i → a c = qb_jn s c) 4 0 a4 (by decide) (fun j h => absurd h (Nat.not_lt_zero j)) ?_ ?_
  · intro n a h1
    exact br_t (nI_le (a := 4) (b := 4) (Nat.le_refl 4) (by decide)) (H a h1)
  · intro n i a hi h1 ih
    have hc : (nI i).toNatClampNeg = i := nI_clamp (by omega)
    have e1 : nI (4 * i) + 1 = nI (4 * i + 1) := nI_1 _
    have e2 : nI (4 * i) + 2 = nI (4 * i + 2) := nI_add _ 2
    have e3 : nI (4 * i) + 3 = nI (4 * i + 3) := nI_add _ 3
    refine br_f (nI_ge (b := 4) hi (by decide)) (nm_r (pk_mul 4 i) ?_)
    rw [e1, e2, e3, hc, nI_clamp (n := 4 * i) (by omega), nI_clamp (n := 4 * i + 1) (by omega), nI_clamp (n := 4 * i + 2) (by omega), nI_clamp (n := 4 * i + 3) (by omega), (hs (4 * i) (by omega)).1, (hs (4 * i + 1) (by omega)).1, (hs (4 * i + 2) (by omega)).1, (hs (4 * i + 3) (by omega)).1]
    exact ⟨vp_in_nI (by omega) (by decide), vp_in_nI (by omega) (by decide), vp_in_nI (by omega) (by decide), vp_in_nI (by omega) (by decide), vp_in_nI hi (by decide), nm_r (e' := upd a i (qb_jn s i)) rfl (nm_r (nI_1 i) (ih _ (qb_ul h1 rfl)))⟩
theorem qx_ld_factor (post : SX → Prop) {a1 a2 a3 a4 a5 a6 a7 a8 a9 : Nat → Int32} (w : Nat → Int32) (hw : ∀ c, c < 4 → a8 c = w c) (H : ∀ a, qb_Sq a (qb_ld w) → post (a1, a2, a3, a4, a5, a, a7, a8, a9)) : wpX_loadSquare__factor post (a1, a2, a3, a4, a5, a6, a7, a8, a9) := by
  show ∃ n, wX_loadSquare__factor_2 post n 0 a1 a2 a3 a4 a5 a6 a7 a8 a9
  refine pk_loop (σ := Nat → Int32) (fun n i a => wX_loadSquare__factor_2 post n (nI i) a1 a2 a3 a4 a5 a a7 a8 a9) (fun i a => ∀ j, j < i → a j = nI (qb_ld w j)) 16 0 a6 (by decide) (fun j h => absurd h (Nat.not_lt_zero j)) ?_ ?_
  · intro n a h1
    exact br_t (nI_le (a := 16) (b := 16) (Nat.le_refl 16) (by decide)) (H a (fun j hj => ⟨h1 j hj, qb_by_lt _ _⟩))
  · intro n i a hi h1 ih
    have e1 := qb_ix3 i hi
    have e2 := qb_ix2 i hi
    have hc : (nI i).toNatClampNeg = i := nI_clamp (by omega)
    have hd : (nI (i / 4)).toNatClampNeg = i / 4 := nI_clamp (by omega)
    refine br_f (nI_ge (b := 16) hi (by decide)) ?_
    rw [e1, e2, hc, hd, hw _ (by omega)]
    refine ⟨vp_in_nI (by omega) (by decide), ?_⟩
    unfold wpX_byteOf
    refine ⟨vp_in_nI hi (by decide), nm_r (e' := upd a i (nI (qb_ld w i))) ?_ (nm_r (nI_1 i) (ih _ (qb_ul h1 rfl)))⟩
    rw [qb_bX _ (Nat.mod_lt _ (by decide))]
    rfl
theorem qx_st_factor (post : SX → Prop) {a1 a2 a3 a4 a5 a6 a7 a8 a9 : Nat → Int32} (s : Nat → Nat) (hs : qb_Sq a6 s) (H : ∀ a, (∀ c, c < 4 → a c = qb_jn s c) → post (a1, a2, a3, a4, a5, a6, a7, a, a9)) : wpX_storeSquare__factor post (a1, a2, a3, a4, a5, a6, a7, a8, a9) := by
  show ∃ n, wX_storeSquare__factor_2 post n 0 a1 a2 a3 a4 a5 a6 a7 a8 a9
  refine pk_loop (σ := Nat → Int32) (fun n i a => wX_storeSquare__factor_2 post n (nI i) a1 a2 a3 a4 a5 a6 a7 a a9) (fun i a => ∀ c, c < i → a c = qb_jn s c) 4 0 a8 (by decide) (fun j h => absurd h (Nat.not_lt_zero j)) ?_ ?_
  · intro n a h1
    exact br_t (nI_le (a := 4) (b := 4) (Nat.le_refl 4) (by decide)) (H a h1)
  · intro n i a hi h1 ih
    have hc : (nI i).toNatClampNeg = i := nI_clamp (by omega)
    have e1 : nI (4 * i) + 1 = nI (4 * i + 1) := nI_1 _
    have e2 : nI (4 * i) + 2 = nI (4 * i + 2) := nI_add _ 2
    have e3 : nI (4 * i) + 3 = nI (4 * i + 3) := nI_add _ 3
    refine br_f (nI_ge (b := 4) hi (by decide)) (nm_r (pk_mul 4 i) ?_)
    rw [e1, e2, e3, hc, nI_clamp (n := 4 * i) (by omega), nI_clamp (n := 4 * i + 1) (by omega), nI_clamp (n := 4 * i + 2) (by omega), nI_clamp (n := 4 * i + 3) (by omega), (hs (4 * i) (by omega)).1, (hs (4 * i + 1) (by omega)).1, (hs (4 * i + 2) (by omega)).1, (hs (4 * i + 3) (by omega)).1]
    exact ⟨vp_in_nI (by omega) (by decide), vp_in_nI (by omega) (by decide), vp_in_nI (by omega) (by decide), vp_in_nI (by omega) (by decide), vp_in_nI hi (by decide), nm_r (e' := upd a i (qb_jn s i)) rfl (nm_r (nI_1 i) (ih _ (qb_ul h1 rfl)))⟩
theorem qx_rb_substitutes (post : SX → Prop) {a1 a2 a3 a4 a5 a6 a7 a8 a9 : Nat → Int32} (hT : ∀ x, x < 256 → a1 x = nI (qb_SB x)) (s : Nat → Nat) (hs : qb_Sq a6 s) (H : ∀ a, qb_Sq a (qb_su s) → post (a1, a2, a3, a4, a5, a, a7, a8, a9)) : wpX_replaceBytes__substitutes post (a1, a2, a3, a4, a5, a6, a7, a8, a9) := by
  show ∃ n, wX_replaceBytes__substitutes_2 post n 0 a1 a2 a3 a4 a5 a6 a7 a8 a9
  refine pk_loop (σ := Nat → Int32) (fun n i a => wX_replaceBytes__substitutes_2 post n (nI i) a1 a2 a3 a4 a5 a a7 a8 a9) (fun i a => (∀ j, j < i → a j = nI (qb_su s j)) ∧ (∀ j, i ≤ j → j < 16 → a j = nI (s j))) 16 0 a6 (by decide) ⟨fun j h => absurd h (Nat.not_lt_zero j), fun j _ h => (hs j h).1⟩ ?_ ?_
  · rintro n a ⟨h1, h2⟩
    exact br_t (nI_le (a := 16) (b := 16) (Nat.le_refl 16) (by decide)) (H a (fun j hj => ⟨h1 j hj, qb_SB_lt _⟩))
  · rintro n i a hi ⟨h1, h2⟩ ih
    have hc : (nI i).toNatClampNeg = i := nI_clamp (by omega)
    have hb := (hs i hi).2
    have hd : (nI (s i)).toNatClampNeg = s i := nI_clamp (by omega)
    refine br_f (nI_ge (b := 16) hi (by decide)) ⟨vp_in_nI hi (by decide), ?_⟩
    rw [hc, h2 i (Nat.le_refl i) hi, qb_m255 hb, hd, hT _ hb]
    exact ⟨vp_in_nI hb (by decide), vp_in_nI hi (by decide), nm_r (e' := upd a i (nI (qb_su s i))) rfl (nm_r (nI_1 i) (ih _ ⟨qb_ul h1 rfl, qb_uh h2⟩))⟩
theorem qx_rb_originals (post : SX → Prop) {a1 a2 a3 a4 a5 a6 a7 a8 a9 : Nat → Int32} (hT : ∀ x, x < 256 → a2 x = nI (qb_OG x)) (s : Nat → Nat) (hs : qb_Sq a6 s) (H : ∀ a, qb_Sq a (qb_un s) → post (a1, a2, a3, a4, a5, a, a7, a8, a9)) : wpX_replaceBytes__originals post (a1, a2, a3, a4, a5, a6, a7, a8, a9) := by
  show ∃ n, wX_replaceBytes__originals_2 post n 0 a1 a2 a3 a4 a5 a6 a7 a8 a9
  refine pk_loop (σ := Nat → Int32) (fun n i a => wX_replaceBytes__originals_2 post n (nI i) a1 a2 a3 a4 a5 a a7 a8 a9) (fun i a => (∀ j, j < i → a j = nI (qb_un s j)) ∧ (∀ j, i ≤ j → j < 16 → a j = nI (s j))) 16 0 a6 (by decide) ⟨fun j h => absurd h (Nat.not_lt_zero j), fun j _ h => (hs j h).1⟩ ?_ ?_
  · rintro n a ⟨h1, h2⟩
    exact br_t (nI_le (a := 16) (b := 16) (Nat.le_refl 16) (by decide)) (H a (fun j hj => ⟨h1 j hj, qb_OG_lt _⟩))
  · rintro n i a hi ⟨h1, h2⟩ ih
    have hc : (nI i).toNatClampNeg = i := nI_clamp (by omega)
    have hb := (hs i hi).2
    have hd : (nI (s i)).toNatClampNeg = s i := nI_clamp (by omega)
    refine br_f (nI_ge (b := 16) hi (by decide)) ⟨vp_in_nI hi (by decide), ?_⟩
    rw [hc, h2 i (Nat.le_refl i) hi, qb_m255 hb, hd, hT _ hb]
    exact ⟨vp_in_nI hb (by decide), vp_in_nI hi (by decide), nm_r (e' := upd a i (nI (qb_un s i))) rfl (nm_r (nI_1 i) (ih _ ⟨qb_ul h1 rfl, qb_uh h2⟩))⟩
theorem qx_ts (post : SX → Prop) {a1 a2 a3 a4 a5 a6 a7 a8 a9 : Nat → Int32} (H : ∀ a, (∀ j, j < 16 → a j = a7 j) → post (a1, a2, a3, a4, a5, a, a7, a8, a9)) : wpX_takeScratch post (a1, a2, a3, a4, a5, a6, a7, a8, a9) := by
  show ∃ n, wX_takeScratch_2 post n 0 a1 a2 a3 a4 a5 a6 a7 a8 a9
  refine pk_loop (σ := Nat → Int32) (fun n i a => wX_takeScratch_2 post n (nI i) a1 a2 a3 a4 a5 a a7 a8 a9) (fun i a => ∀ j, j < i → a j = a7 j) 16 0 a6 (by decide) (fun j h => absurd h (Nat.not_lt_zero j)) ?_ ?_
  · intro n a h1
    exact br_t (nI_le (a := 16) (b := 16) (Nat.le_refl 16) (by decide)) (H a h1)
  · intro n i a hi h1 ih
    have hc : (nI i).toNatClampNeg = i := nI_clamp (by omega)
    refine br_f (nI_ge (b := 16) hi (by decide)) ?_
    rw [hc]
    exact ⟨vp_in_nI hi (by decide), vp_in_nI hi (by decide), nm_e (nm_r (nI_1 i) (ih _ (qb_ul h1 rfl)))⟩
theorem qx_sr (post : SX → Prop) {a1 a2 a3 a4 a5 a6 a7 a8 a9 : Nat → Int32} {t : Nat} (ht : t < 4) (s : Nat → Nat) (hs : qb_Sq a6 s) (H : ∀ a c, qb_Sq a (fun j => s (qb_rx t j)) → post (a1, a2, a3, a4, a5, a, c, a8, a9)) : wpX_shiftRows post (a1, a2, a3, a4, a5, a6, a7, a8, a9) (nI t) := by
  show ∃ n, wX_shiftRows_2 post (nI t) n 0 a1 a2 a3 a4 a5 a6 a7 a8 a9
  refine pk_loop (σ := Nat → Int32) (fun n i c => wX_shiftRows_2 post (nI t) n (nI i) a1 a2 a3 a4 a5 a6 c a8 a9) (fun i c => ∀ j, j < i → c j = nI (s (qb_rx t j))) 16 0 a7 (by decide) (fun j h => absurd h (Nat.not_lt_zero j)) ?_ ?_
  · intro n c h1
    exact br_t (nI_le (a := 16) (b := 16) (Nat.le_refl 16) (by decide)) (qx_ts _ (fun a ha => H a c (fun j hj => ⟨(ha j hj).trans (h1 j hj), (hs _ (qb_rx16 t ht j hj)).2⟩)))
  · intro n i c hi h1 ih
    have hc : (nI i).toNatClampNeg = i := nI_clamp (by omega)
    have hr := qb_rx16 t ht i hi
    have hd : (nI (qb_rx t i)).toNatClampNeg = qb_rx t i := nI_clamp (by omega)
    refine br_f (nI_ge (b := 16) hi (by decide)) (nm_e (nm_e ?_))
    rw [qb_ix4 t ht i hi, hc, hd, (hs _ hr).1]
    exact ⟨vp_in_nI hr (by decide), vp_in_nI hi (by decide), nm_e (nm_r (nI_1 i) (ih _ (qb_ul h1 rfl)))⟩
def qb_mg (m0 m1 m2 m3 : Nat) (s : Nat → Nat) (j : Nat) : Nat := qb_tm (s j) m0 ^^^ qb_tm (s (qb_nx j 1)) m1 ^^^ qb_tm (s (qb_nx j 2)) m2 ^^^ qb_tm (s (qb_nx j 3)) m3
theorem qx_mg (post : SX → Prop) {a1 a2 a3 a4 a5 a6 a7 a8 a9 : Nat → Int32} {m0 m1 m2 m3 : Nat} (k0 : m0 < 256) (k1 : m1 < 256) (k2 : m2 < 256) (k3 : m3 < 256) (s : Nat → Nat) (hs : qb_Sq a6 s) (H : ∀ a c, qb_Sq a (qb_mg m0 m1 m2 m3 s) → post (a1, a2, a3, a4, a5, a, c, a8, a9)) : wpX_mixColumns post (a1, a2, a3, a4, a5, a6, a7, a8, a9) (nI m0) (nI m1) (nI m2) (nI m3) := by
  show ∃ n, wX_mixColumns_3 post (nI m0) (nI m1) (nI m2) (nI m3) n 0 a1 a2 a3 a4 a5 a6 a7 a8 a9
  have hn : ∀ j, j < 16 → ∀ t, t < 4 → s (qb_nx j t) < 256 := fun j hj t ht => (hs _ (qb_n16 j hj t ht)).2
  refine pk_loop (σ := Nat → Int32) (fun n i c => wX_mixColumns_3 post (nI m0) (nI m1) (nI m2) (nI m3) n (nI i) a1 a2 a3 a4 a5 a6 c a8 a9) (fun i c => ∀ j, j < i → c j = nI (qb_mg m0 m1 m2 m3 s j)) 16 0 a7 (by decide) (fun j h => absurd h (Nat.not_lt_zero j)) ?_ ?_
  · intro n c h1
    exact br_t (nI_le (a := 16) (b := 16) (Nat.le_refl 16) (by decide)) (qx_ts _ (fun a ha => H a c (fun j hj => ⟨(ha j hj).trans (h1 j hj), qb_xlt (qb_xlt (qb_xlt (qb_tm_lt (hs j hj).2 _) (qb_tm_lt (hn j hj 1 (by decide)) _)) (qb_tm_lt (hn j hj 2 (by decide)) _)) (qb_tm_lt (hn j hj 3 (by decide)) _)⟩)))
  · intro n i c hi h1 ih
    have hc : (nI i).toNatClampNeg = i := nI_clamp (by omega)
    have g1 := qb_n16 i hi 1 (by decide)
    have g2 := qb_n16 i hi 2 (by decide)
    have g3 := qb_n16 i hi 3 (by decide)
    refine br_f (nI_ge (b := 16) hi (by decide)) (nm_e (nm_e ⟨vp_in_nI hi (by decide), ?_⟩))
    rw [qb_ix5 i hi, qb_ix6 i hi, qb_ix7 i hi, hc, nI_clamp (n := qb_nx i 1) (by omega), nI_clamp (n := qb_nx i 2) (by omega), nI_clamp (n := qb_nx i 3) (by omega), (hs i hi).1, (hs _ g1).1, (hs _ g2).1, (hs _ g3).1]
    refine qx_product _ (hs i hi).2 k0 ⟨vp_in_nI g1 (by decide), qx_product _ (hs _ g1).2 k1 ⟨vp_in_nI g2 (by decide), qx_product _ (hs _ g2).2 k2 ⟨vp_in_nI g3 (by decide), qx_product _ (hs _ g3).2 k3 ⟨vp_in_nI hi (by decide), nm_r (e' := upd c i (nI (qb_mg m0 m1 m2 m3 s i))) ?_ (nm_r (nI_1 i) (ih _ (qb_ul h1 rfl)))⟩⟩⟩⟩
    rw [nx_xor, nx_xor, nx_xor]
    rfl
end
section
/-! ===== Y: the steps on the square ===== -/
theorem qb_iy1 : ∀ q, q < 11 → ∀ i, i < 16 → (4 : Int32) * nI q + nI i / 4 = nI (4 * q + i / 4) := by decide +kernel
theorem qb_iy2 : ∀ i, i < 16 → nI i - nI i / 4 * 4 = nI (i % 4) := by decide +kernel
theorem qb_iy3 : ∀ i, i < 16 → ((nI i - nI i / 4 * 4) + (4 * ((nI i / 4) + (nI i - nI i / 4 * 4)))) - ((nI i - nI i / 4 * 4) + (4 * ((nI i / 4) + (nI i - nI i / 4 * 4)))) / 16 * 16 = nI (qb_ro i) := by decide +kernel
theorem qb_iy5 : ∀ i, i < 16 → (nI i / 4) * 4 + ((nI i + 1) - (nI i + 1) / 4 * 4) = nI (qb_nx i 1) := by decide +kernel
theorem qb_iy6 : ∀ i, i < 16 → (nI i / 4) * 4 + ((nI i + 2) - (nI i + 2) / 4 * 4) = nI (qb_nx i 2) := by decide +kernel
theorem qb_iy7 : ∀ i, i < 16 → (nI i / 4) * 4 + ((nI i + 3) - (nI i + 3) / 4 * 4) = nI (qb_nx i 3) := by decide +kernel
theorem qb_d4 : ¬ (4 : Int32) = 0 := by decide
theorem qb_d16 : ¬ (16 : Int32) = 0 := by decide
theorem qy_ark (post : SY → Prop) {b1 b2 b3 b4 b5 b6 b7 b8 b9 : Nat → Int32} {q : Nat} (hq : q < 11) (s : Nat → Nat) (hs : qb_Sq b5 s) (H : ∀ a, qb_Sq a (qb_ak b2 q s) → post (b1, b2, b3, b4, a, b6, b7, b8, b9)) : wpY_addKey post (b1, b2, b3, b4, b5, b6, b7, b8, b9) (nI q) := by
  show ∃ n, wY_addKey_2 post (nI q) n 0 b1 b2 b3 b4 b5 b6 b7 b8 b9
  refine pk_loop (σ := Nat → Int32) (fun n i a => wY_addKey_2 post (nI q) n (nI i) b1 b2 b3 b4 a b6 b7 b8 b9) (fun i a => (∀ j, j < i → a j = nI (qb_ak b2 q s j)) ∧ (∀ j, i ≤ j → j < 16 → a j = nI (s j))) 16 0 b5 (by decide) ⟨fun j h => absurd h (Nat.not_lt_zero j), fun j _ h => (hs j h).1⟩ ?_ ?_
  · rintro n a ⟨h1, h2⟩
    exact br_t (nI_le (a := 16) (b := 16) (Nat.le_refl 16) (by decide)) (H a (fun j hj => ⟨h1 j hj, qb_xlt (hs j hj).2 (qb_by_lt _ _)⟩))
  · rintro n i a hi ⟨h1, h2⟩ ih
    have e1 := qb_iy1 q hq i hi
    have e2 := qb_iy2 i hi
    have hc : (nI i).toNatClampNeg = i := nI_clamp (by omega)
    have hd : (nI (4 * q + i / 4)).toNatClampNeg = 4 * q + i / 4 := nI_clamp (by omega)
    refine br_f (nI_ge (b := 16) hi (by decide)) ⟨vp_in_nI hi (by decide), qb_d4, ?_⟩
    rw [e1, e2, hc, hd]
    refine ⟨vp_in_nI (by omega) (by decide), qb_d4, ?_⟩
    unfold wpY_byteOf
    refine ⟨vp_in_nI hi (by decide), nm_r (e' := upd a i (nI (qb_ak b2 q s i))) ?_ (nm_r (nI_1 i) (ih _ ⟨qb_ul h1 rfl, qb_uh h2⟩))⟩
    rw [h2 i (Nat.le_refl i) hi, qb_bY _ (Nat.mod_lt _ (by decide)), nx_xor]
    rfl
theorem qy_rb (post : SY → Prop) {b1 b2 b3 b4 b5 b6 b7 b8 b9 : Nat → Int32} (hT : qb_Tab b1) (s : Nat → Nat) (hs : qb_Sq b5 s) (H : ∀ a, qb_Sq a (qb_su s) → post (b1, b2, b3, b4, a, b6, b7, b8, b9)) : wpY_replaceAll post (b1, b2, b3, b4, b5, b6, b7, b8, b9) := by
  show ∃ n, wY_replaceAll_2 post n 0 b1 b2 b3 b4 b5 b6 b7 b8 b9
  refine pk_loop (σ := Nat → Int32) (fun n i a => wY_replaceAll_2 post n (nI i) b1 b2 b3 b4 a b6 b7 b8 b9) (fun i a => (∀ j, j < i → a j = nI (qb_su s j)) ∧ (∀ j, i ≤ j → j < 16 → a j = nI (s j))) 16 0 b5 (by decide) ⟨fun j h => absurd h (Nat.not_lt_zero j), fun j _ h => (hs j h).1⟩ ?_ ?_
  · rintro n a ⟨h1, h2⟩
    exact br_t (nI_le (a := 16) (b := 16) (Nat.le_refl 16) (by decide)) (H a (fun j hj => ⟨h1 j hj, qb_SB_lt _⟩))
  · rintro n i a hi ⟨h1, h2⟩ ih
    have hc : (nI i).toNatClampNeg = i := nI_clamp (by omega)
    have hb := (hs i hi).2
    have hd : (nI (s i)).toNatClampNeg = s i := nI_clamp (by omega)
    refine br_f (nI_ge (b := 16) hi (by decide)) ⟨vp_in_nI hi (by decide), ?_⟩
    rw [hc, h2 i (Nat.le_refl i) hi, hd, hT _ hb]
    exact ⟨vp_in_nI hb (by decide), vp_in_nI hi (by decide), nm_r (e' := upd a i (nI (qb_su s i))) rfl (nm_r (nI_1 i) (ih _ ⟨qb_ul h1 rfl, qb_uh h2⟩))⟩
theorem qy_or (post : Int32 → Prop) {b1 b2 b3 b4 b5 b6 b7 b8 b9 : Nat → Int32} (hT : qb_Tab b1) {t : Nat} (ht : t < 256) (H : post (nI (qb_OG t))) : ∀ d i : Nat, i + d = qb_OG t → wY_origin_2 post (nI t) b1 b2 b3 b4 b5 b6 b7 b8 b9 (d + 1) (nI i) := by
  have hO := qb_OG_lt t
  intro d
  induction d with
  | zero =>
    intro i hi
    have hi' : i = qb_OG t := hi
    subst hi'
    have hc : (nI (qb_OG t)).toNatClampNeg = qb_OG t := nI_clamp (by omega)
    exact br_f (nI_ge (b := 256) hO (by decide)) ⟨vp_in_nI hO (by decide), br_t (by rw [hc, hT _ hO, qb_SO t ht]) H⟩
  | succ d ih =>
    intro i hi
    have hl : i < 256 := by omega
    have hc : (nI i).toNatClampNeg = i := nI_clamp (by omega)
    have hS := qb_SB_lt i
    have hne : ¬ b1 (nI i).toNatClampNeg = nI t := by
      rw [hc, hT _ hl, nI_eq (by omega) (by omega)]
      intro z
      have z2 := qb_OS i hl
      rw [z] at z2
      omega
    exact br_f (nI_ge (b := 256) hl (by decide)) ⟨vp_in_nI hl (by decide), br_f hne (nm_r (nI_1 i) (ih (i + 1) (by omega)))⟩
theorem qy_origin (post : Int32 → Prop) {b1 b2 b3 b4 b5 b6 b7 b8 b9 : Nat → Int32} (hT : qb_Tab b1) {t : Nat} (ht : t < 256) (H : post (nI (qb_OG t))) : wpY_origin post (b1, b2, b3, b4, b5, b6, b7, b8, b9) (nI t) :=
  ⟨qb_OG t + 1, qy_or post hT ht H (qb_OG t) 0 (Nat.zero_add _)⟩
theorem qy_ub (post : SY → Prop) {b1 b2 b3 b4 b5 b6 b7 b8 b9 : Nat → Int32} (hT : qb_Tab b1) (s : Nat → Nat) (hs : qb_Sq b5 s) (H : ∀ a, qb_Sq a (qb_un s) → post (b1, b2, b3, b4, a, b6, b7, b8, b9)) : wpY_restoreAll post (b1, b2, b3, b4, b5, b6, b7, b8, b9) := by
  show ∃ n, wY_restoreAll_2 post n 0 b1 b2 b3 b4 b5 b6 b7 b8 b9
  refine pk_loop (σ := Nat → Int32) (fun n i a => wY_restoreAll_2 post n (nI i) b1 b2 b3 b4 a b6 b7 b8 b9) (fun i a => (∀ j, j < i → a j = nI (qb_un s j)) ∧ (∀ j, i ≤ j → j < 16 → a j = nI (s j))) 16 0 b5 (by decide) ⟨fun j h => absurd h (Nat.not_lt_zero j), fun j _ h => (hs j h).1⟩ ?_ ?_
  · rintro n a ⟨h1, h2⟩
    exact br_t (nI_le (a := 16) (b := 16) (Nat.le_refl 16) (by decide)) (H a (fun j hj => ⟨h1 j hj, qb_OG_lt _⟩))
  · rintro n i a hi ⟨h1, h2⟩ ih
    have hc : (nI i).toNatClampNeg = i := nI_clamp (by omega)
    refine br_f (nI_ge (b := 16) hi (by decide)) ⟨vp_in_nI hi (by decide), ?_⟩
    rw [hc, h2 i (Nat.le_refl i) hi]
    exact qy_origin _ hT (hs i hi).2 ⟨vp_in_nI hi (by decide), nm_r (e' := upd a i (nI (qb_un s i))) rfl (nm_r (nI_1 i) (ih _ ⟨qb_ul h1 rfl, qb_uh h2⟩))⟩
theorem qy_s43 (post : SY → Prop) {b1 b2 b3 b4 b5 b6 b7 b8 b9 : Nat → Int32} (H : ∀ a, (∀ j, j < 16 → a j = b6 j) → post (b1, b2, b3, b4, a, b6, b7, b8, b9)) : ∃ n, wY_shift_43 post n 0 b1 b2 b3 b4 b5 b6 b7 b8 b9 := by
  refine pk_loop (σ := Nat → Int32) (fun n i a => wY_shift_43 post n (nI i) b1 b2 b3 b4 a b6 b7 b8 b9) (fun i a => ∀ j, j < i → a j = b6 j) 16 0 b5 (by decide) (fun j h => absurd h (Nat.not_lt_zero j)) ?_ ?_
  · intro n a h1
    exact br_t (nI_le (a := 16) (b := 16) (Nat.le_refl 16) (by decide)) (H a h1)
  · intro n i a hi h1 ih
    have hc : (nI i).toNatClampNeg = i := nI_clamp (by omega)
    refine br_f (nI_ge (b := 16) hi (by decide)) ?_
    rw [hc]
    exact ⟨vp_in_nI hi (by decide), vp_in_nI hi (by decide), nm_e (nm_r (nI_1 i) (ih _ (qb_ul h1 rfl)))⟩
theorem qy_sr (post : SY → Prop) {b1 b2 b3 b4 b5 b6 b7 b8 b9 : Nat → Int32} (s : Nat → Nat) (hs : qb_Sq b5 s) (H : ∀ a c, qb_Sq a (qb_sr s) → post (b1, b2, b3, b4, a, c, b7, b8, b9)) : wpY_shift post (b1, b2, b3, b4, b5, b6, b7, b8, b9) := by
  show ∃ n, wY_shift_2 post n 0 b1 b2 b3 b4 b5 b6 b7 b8 b9
  refine pk_loop (σ := Nat → Int32) (fun n i c => wY_shift_2 post n (nI i) b1 b2 b3 b4 b5 c b7 b8 b9) (fun i c => ∀ j, j < i → c j = nI (qb_sr s j)) 16 0 b6 (by decide) (fun j h => absurd h (Nat.not_lt_zero j)) ?_ ?_
  · intro n c h1
    exact br_t (nI_le (a := 16) (b := 16) (Nat.le_refl 16) (by decide)) (qy_s43 _ (fun a ha => H a c (fun j hj => ⟨(ha j hj).trans (h1 j hj), (hs _ (qb_ro_lt j)).2⟩)))
  · intro n i c hi h1 ih
    have hc : (nI i).toNatClampNeg = i := nI_clamp (by omega)
    have hr := qb_ro_lt i
    have hd : (nI (qb_ro i)).toNatClampNeg = qb_ro i := nI_clamp (by omega)
    refine br_f (nI_ge (b := 16) hi (by decide)) ⟨qb_d4, qb_d4, qb_d4, qb_d16, ?_⟩
    rw [qb_iy3 i hi, hc, hd, (hs _ hr).1]
    exact ⟨vp_in_nI hr (by decide), vp_in_nI hi (by decide), nm_e (nm_r (nI_1 i) (ih _ (qb_ul h1 rfl)))⟩
theorem qy_mixed (post : Int32 → Prop) {b1 b2 b3 b4 b5 b6 b7 b8 b9 : Nat → Int32} (s : Nat → Nat) (hs : qb_Sq b6 s) {i : Nat} (hi : i < 16) (H : post (nI (qb_mc s i))) : wpY_mixed post (b1, b2, b3, b4, b5, b6, b7, b8, b9) (nI i) := by
  have hc : (nI i).toNatClampNeg = i := nI_clamp (by omega)
  have g1 := qb_n16 i hi 1 (by decide)
  have g2 := qb_n16 i hi 2 (by decide)
  have g3 := qb_n16 i hi 3 (by decide)
  refine ⟨qb_d4, nm_e ?_⟩
  rw [qb_iy5 i hi, qb_iy6 i hi, qb_iy7 i hi, hc, nI_clamp (n := qb_nx i 1) (by omega), nI_clamp (n := qb_nx i 2) (by omega), nI_clamp (n := qb_nx i 3) (by omega), (hs i hi).1, (hs _ g1).1, (hs _ g2).1, (hs _ g3).1]
  refine ⟨qb_d4, vp_in_nI g1 (by decide), nm_e ⟨qb_d4, vp_in_nI g2 (by decide), nm_e ⟨qb_d4, vp_in_nI g3 (by decide), nm_e ⟨vp_in_nI hi (by decide), qy_times (x := 2) _ (by decide) (hs i hi).2 (qy_times (x := 3) _ (by decide) (hs _ g1).2 ?_)⟩⟩⟩⟩
  rw [nx_xor, nx_xor, nx_xor, qb_mcY s hi (fun k hk => (hs k hk).2)]
  exact H
theorem qy_m28 (post : SY → Prop) {b1 b2 b3 b4 b5 b6 b7 b8 b9 : Nat → Int32} (s : Nat → Nat) (hs : qb_Sq b6 s) (H : ∀ a, qb_Sq a (qb_mc s) → post (b1, b2, b3, b4, a, b6, b7, b8, b9)) : ∃ n, wY_mixColumns_28 post n 0 b1 b2 b3 b4 b5 b6 b7 b8 b9 := by
  refine pk_loop (σ := Nat → Int32) (fun n i a => wY_mixColumns_28 post n (nI i) b1 b2 b3 b4 a b6 b7 b8 b9) (fun i a => ∀ j, j < i → a j = nI (qb_mc s j)) 16 0 b5 (by decide) (fun j h => absurd h (Nat.not_lt_zero j)) ?_ ?_
  · intro n a h1
    exact br_t (nI_le (a := 16) (b := 16) (Nat.le_refl 16) (by decide)) (H a (fun j hj => ⟨h1 j hj, qb_mc_lt s hj (fun k hk => (hs k hk).2)⟩))
  · intro n i a hi h1 ih
    have hc : (nI i).toNatClampNeg = i := nI_clamp (by omega)
    refine br_f (nI_ge (b := 16) hi (by decide)) (qy_mixed _ s hs hi ?_)
    rw [hc]
    exact ⟨vp_in_nI hi (by decide), nm_e (nm_r (nI_1 i) (ih _ (qb_ul h1 rfl)))⟩
theorem qy_mc (post : SY → Prop) {b1 b2 b3 b4 b5 b6 b7 b8 b9 : Nat → Int32} (s : Nat → Nat) (hs : qb_Sq b5 s) (H : ∀ a c, qb_Sq a (qb_mc s) → post (b1, b2, b3, b4, a, c, b7, b8, b9)) : wpY_mixColumns post (b1, b2, b3, b4, b5, b6, b7, b8, b9) := by
  show ∃ n, wY_mixColumns_2 post n 0 b1 b2 b3 b4 b5 b6 b7 b8 b9
  refine pk_loop (σ := Nat → Int32) (fun n i c => wY_mixColumns_2 post n (nI i) b1 b2 b3 b4 b5 c b7 b8 b9) (fun i c => ∀ j, j < i → c j = nI (s j)) 16 0 b6 (by decide) (fun j h => absurd h (Nat.not_lt_zero j)) ?_ ?_
  · intro n c h1
    exact br_t (nI_le (a := 16) (b := 16) (Nat.le_refl 16) (by decide)) (qy_m28 _ s (fun j hj => ⟨h1 j hj, (hs j hj).2⟩) (fun a ha => H a c ha))
  · intro n i c hi h1 ih
    have hc : (nI i).toNatClampNeg = i := nI_clamp (by omega)
    refine br_f (nI_ge (b := 16) hi (by decide)) ?_
    rw [hc, (hs i hi).1]
    exact ⟨vp_in_nI hi (by decide), vp_in_nI hi (by decide), nm_e (nm_r (nI_1 i) (ih _ (qb_ul h1 rfl)))⟩
theorem qb_lay1 (w : Nat → Int32) (a : Nat → Int32) {i : Nat} (hi : i < 4) (h1 : ∀ j, j < i → a j = nI (qb_by (w 0) j) ∧ a (4 + j) = nI (qb_by (w 1) j) ∧ a (8 + j) = nI (qb_by (w 2) j) ∧ a (12 + j) = nI (qb_by (w 3) j)) :
    ∀ j, j < i + 1 → upd (upd (upd (upd a i (nI (qb_by (w 0) i))) (4 + i) (nI (qb_by (w 1) i))) (8 + i) (nI (qb_by (w 2) i))) (12 + i) (nI (qb_by (w 3) i)) j = nI (qb_by (w 0) j)
      ∧ upd (upd (upd (upd a i (nI (qb_by (w 0) i))) (4 + i) (nI (qb_by (w 1) i))) (8 + i) (nI (qb_by (w 2) i))) (12 + i) (nI (qb_by (w 3) i)) (4 + j) = nI (qb_by (w 1) j)
      ∧ upd (upd (upd (upd a i (nI (qb_by (w 0) i))) (4 + i) (nI (qb_by (w 1) i))) (8 + i) (nI (qb_by (w 2) i))) (12 + i) (nI (qb_by (w 3) i)) (8 + j) = nI (qb_by (w 2) j)
      ∧ upd (upd (upd (upd a i (nI (qb_by (w 0) i))) (4 + i) (nI (qb_by (w 1) i))) (8 + i) (nI (qb_by (w 2) i))) (12 + i) (nI (qb_by (w 3) i)) (12 + j) = nI (qb_by (w 3) j) := by
  intro j hj
  by_cases z : j = i
  · subst z
    refine ⟨?_, ?_, ?_, ?_⟩
    · rw [pk_un (by omega), pk_un (by omega), pk_un (by omega), pk_us]
    · rw [pk_un (by omega), pk_un (by omega), pk_us]
    · rw [pk_un (by omega), pk_us]
    · rw [pk_us]
  · obtain ⟨g0, g1, g2, g3⟩ := h1 j (by omega)
    refine ⟨?_, ?_, ?_, ?_⟩
    · rw [pk_un (by omega), pk_un (by omega), pk_un (by omega), pk_un (by omega)]; exact g0
    · rw [pk_un (by omega), pk_un (by omega), pk_un (by omega), pk_un (by omega)]; exact g1
    · rw [pk_un (by omega), pk_un (by omega), pk_un (by omega), pk_un (by omega)]; exact g2
    · rw [pk_un (by omega), pk_un (by omega), pk_un (by omega), pk_un (by omega)]; exact g3
theorem qb_lay2 (w : Nat → Int32) (a : Nat → Int32) (h1 : ∀ j, j < 4 → a j = nI (qb_by (w 0) j) ∧ a (4 + j) = nI (qb_by (w 1) j) ∧ a (8 + j) = nI (qb_by (w 2) j) ∧ a (12 + j) = nI (qb_by (w 3) j)) : qb_Sq a (qb_ld w) := by
  intro j hj
  refine ⟨?_, qb_by_lt _ _⟩
  unfold qb_ld
  have hr : j % 4 < 4 := Nat.mod_lt _ (by decide)
  obtain ⟨g0, g1, g2, g3⟩ := h1 (j % 4) hr
  rcases (by omega : j / 4 = 0 ∧ j = j % 4 ∨ j / 4 = 1 ∧ j = 4 + j % 4 ∨ j / 4 = 2 ∧ j = 8 + j % 4 ∨ j / 4 = 3 ∧ j = 12 + j % 4) with ⟨e, f⟩ | ⟨e, f⟩ | ⟨e, f⟩ | ⟨e, f⟩
  · rw [e, ← g0, ← f]
  · rw [e, ← g1, ← f]
  · rw [e, ← g2, ← f]
  · rw [e, ← g3, ← f]
theorem qy_lay (post : SY → Prop) {b1 b2 b3 b4 b5 b6 b7 b8 b9 : Nat → Int32} (w : Nat → Int32) (H : ∀ a, qb_Sq a (qb_ld w) → post (b1, b2, b3, b4, a, b6, b7, b8, b9)) : wpY_lay post (b1, b2, b3, b4, b5, b6, b7, b8, b9) (w 0) (w 1) (w 2) (w 3) := by
  show ∃ n, wY_lay_3 post (w 0) (w 1) (w 2) (w 3) n 0 b1 b2 b3 b4 b5 b6 b7 b8 b9
  refine pk_loop (σ := Nat → Int32) (fun n i a => wY_lay_3 post (w 0) (w 1) (w 2) (w 3) n (nI i) b1 b2 b3 b4 a b6 b7 b8 b9) (fun i a => ∀ j, j < i → a j = nI (qb_by (w 0) j) ∧ a (4 + j) = nI (qb_by (w 1) j) ∧ a (8 + j) = nI (qb_by (w 2) j) ∧ a (12 + j) = nI (qb_by (w 3) j)) 4 0 b5 (by decide) (fun j h => absurd h (Nat.not_lt_zero j)) ?_ ?_
  · intro n a h1
    exact br_t (nI_le (a := 4) (b := 4) (Nat.le_refl 4) (by decide)) (H a (qb_lay2 w a h1))
  · intro n i a hi h1 ih
    have hc : (nI i).toNatClampNeg = i := nI_clamp (by omega)
    have e4 : (4 : Int32) + nI i = nI (4 + i) := nI_add 4 i
    have e8 : (8 : Int32) + nI i = nI (8 + i) := nI_add 8 i
    have e12 : (12 : Int32) + nI i = nI (12 + i) := nI_add 12 i
    refine br_f (nI_ge (b := 4) hi (by decide)) ?_
    unfold wpY_byteOf
    rw [e4, e8, e12, hc, nI_clamp (n := 4 + i) (by omega), nI_clamp (n := 8 + i) (by omega), nI_clamp (n := 12 + i) (by omega), qb_bY (w 0) hi, qb_bY (w 1) hi, qb_bY (w 2) hi, qb_bY (w 3) hi]
    exact ⟨vp_in_nI (by omega) (by decide), nm_e ⟨vp_in_nI (by omega) (by decide), nm_e ⟨vp_in_nI (by omega) (by decide), nm_e ⟨vp_in_nI (by omega) (by decide), nm_e (nm_r (nI_1 i) (ih _ (qb_lay1 w a hi h1)))⟩⟩⟩⟩
theorem qy_joined (post : Int32 → Prop) {b1 b2 b3 b4 b5 b6 b7 b8 b9 : Nat → Int32} (s : Nat → Nat) (hs : qb_Sq b5 s) {i : Nat} (hi : i < 4) (H : post (qb_jn s i)) : wpY_joined post (b1, b2, b3, b4, b5, b6, b7, b8, b9) (nI i) := by
  have e0 : (4 : Int32) * nI i = nI (4 * i) := pk_mul 4 i
  have e1 : nI (4 * i) + 1 = nI (4 * i + 1) := nI_1 _
  have e2 : nI (4 * i) + 2 = nI (4 * i + 2) := nI_add _ 2
  have e3 : nI (4 * i) + 3 = nI (4 * i + 3) := nI_add _ 3
  unfold wpY_joined
  dsimp only
  rw [e0, e1, e2, e3, nI_clamp (n := 4 * i) (by omega), nI_clamp (n := 4 * i + 1) (by omega), nI_clamp (n := 4 * i + 2) (by omega), nI_clamp (n := 4 * i + 3) (by omega), (hs (4 * i) (by omega)).1, (hs (4 * i + 1) (by omega)).1, (hs (4 * i + 2) (by omega)).1, (hs (4 * i + 3) (by omega)).1]
  exact ⟨vp_in_nI (by omega) (by decide), vp_in_nI (by omega) (by decide), vp_in_nI (by omega) (by decide), vp_in_nI (by omega) (by decide), H⟩
end
section
/-! ===== the rounds ===== -/
theorem qb_mgE {s : Nat → Nat} (hs : ∀ k, k < 16 → s k < 256) : ∀ j, j < 16 → qb_mg 2 3 1 1 s j = qb_mc s j := fun _ hj => qb_mcX s hj hs
theorem qb_srX (s : Nat → Nat) : ∀ j, j < 16 → s (qb_rx 1 j) = qb_sr s j := fun j hj => congrArg s (qb_rx1 j hj)
theorem qb_s3X (s : Nat → Nat) : ∀ j, j < 16 → s (qb_rx 3 j) = qb_s3 s j := fun j hj => congrArg s (qb_rx3 j hj)
theorem qb_e1_10 (rk : Nat → Int32) (s : Nat → Nat) : qb_e1 rk 10 s = qb_ak rk 10 (qb_sr (qb_su s)) := rfl
theorem qb_e1_n (rk : Nat → Int32) {q : Nat} (h : q ≠ 10) (s : Nat → Nat) : qb_e1 rk q s = qb_ak rk q (qb_mc (qb_sr (qb_su s))) := by unfold qb_e1; rw [if_neg h]
theorem qb_d1_10 (rk : Nat → Int32) (s : Nat → Nat) : qb_d1 rk 10 s = qb_un (qb_s3 (qb_ak rk 10 s)) := rfl
theorem qb_d1_n (rk : Nat → Int32) {q : Nat} (h : q ≠ 10) (s : Nat → Nat) : qb_d1 rk q s = qb_un (qb_s3 (qb_mi (qb_ak rk q s))) := by unfold qb_d1; rw [if_neg h]
theorem qb_de0 (rk : Nat → Int32) {a : Nat → Int32} {s : Nat → Nat} (h : qb_Sq a s) : qb_Sq a (qb_de rk s (10 - 10)) := by
  show qb_Sq a (qb_de rk s 0)
  exact h
theorem qb_de_s (rk : Nat → Int32) (s : Nat → Nat) {i : Nat} (hi : i ≤ 9) : qb_de rk s (10 - i) = qb_d1 rk (i + 1) (qb_de rk s (10 - (i + 1))) := by
  have e1 : 10 - i = (9 - i) + 1 := by omega
  have e2 : 10 - (i + 1) = 9 - i := by omega
  have e3 : 10 - (9 - i) = i + 1 := by omega
  rw [e1, e2]
  show qb_d1 rk (10 - (9 - i)) (qb_de rk s (9 - i)) = _
  rw [e3]
theorem qx_e45_present (post : SX → Prop) (J : Int32 → (Nat → Int32) → (Nat → Int32) → (Nat → Int32) → (Nat → Int32) → (Nat → Int32) → (Nat → Int32) → (Nat → Int32) → (Nat → Int32) → (Nat → Int32) → Prop) {a1 a2 a3 a4 a5 a6 a7 a8 a9 : Nat → Int32} {q : Nat} (hq : q < 11) (s : Nat → Nat) (hs : qb_Sq a6 s) (H : ∀ a, qb_Sq a (qb_ak a3 q s) → J (nI (q + 1)) a1 a2 a3 a4 a5 a a7 a8 a9) : wX_encryptWords__present_45 post J (nI q) a1 a2 a3 a4 a5 a6 a7 a8 a9 := by
  unfold wX_encryptWords__present_45
  refine qx_ark _ hq s hs (fun a ha => ?_)
  exact nm_r (nI_1 q) (H a ha)
theorem qx_en_present (post : SX → Prop) {a1 a2 a3 a4 a5 a6 a7 a8 a9 : Nat → Int32} (hT : qb_Tab a1) (w : Nat → Int32) (hw : ∀ c, c < 4 → a4 c = w c) (H : ∀ p a c, (∀ k, k < 4 → p k = qb_jn (qb_en a3 (qb_ld w) 10) k) → post (a1, a2, a3, p, a5, a, c, a8, a9)) : wpX_encryptWords__present post (a1, a2, a3, a4, a5, a6, a7, a8, a9) := by
  unfold wpX_encryptWords__present
  dsimp only
  refine qx_ld_present _ w hw (fun a0 h0 => ?_)
  dsimp only
  refine qx_ark (q := 0) _ (by decide) _ h0 (fun a01 h01 => ?_)
  dsimp only
  refine pk_loop (σ := (Nat → Int32) × (Nat → Int32)) (fun n i s => wX_encryptWords__present_12 post n (nI (i + 1)) a1 a2 a3 a4 a5 s.1 s.2 a8 a9) (fun i s => qb_Sq s.1 (qb_en a3 (qb_ld w) i)) 10 0 (a01, a7) (by decide) h01 ?_ ?_
  · rintro n ⟨a, c⟩ h
    refine br_t (nI_lt (a := 10) (b := 11) (by decide) (by decide)) (qx_st_present _ _ h (fun p hp => ?_))
    exact H p a c hp
  · rintro n i ⟨a, c⟩ hi h ih
    have hn : ¬ (10 : Int32) < nI (i + 1) := nI_nlt (a := 10) (b := i + 1) (by omega) (by decide)
    refine br_f hn (qx_rb_substitutes _ hT _ h (fun a2' h2 => ?_))
    dsimp only
    refine qx_sr (t := 1) _ (by decide) _ h2 (fun a3' c3 h3 => ?_)
    have h3' := qb_Sq_c h3 (qb_srX _)
    dsimp only
    by_cases z : i = 9
    · subst z
      exact br_t rfl (qx_e45_present _ _ (by decide) _ h3' (fun a4' h4 => ih (a4', c3) h4))
    · refine br_f (fun y => z (by have := (nI_eq (a := i + 1) (b := 10) (by omega) (by decide)).mp y; omega)) ?_
      refine qx_mg (m0 := 2) (m1 := 3) (m2 := 1) (m3 := 1) _ (by decide) (by decide) (by decide) (by decide) _ h3' (fun a4' c4 h4 => ?_)
      have h4' := qb_Sq_c h4 (qb_mgE (fun k hk => (h3' k hk).2))
      refine qx_e45_present _ _ (by omega) _ h4' (fun a5' h5 => ih (a5', c4) ?_)
      show qb_Sq a5' (qb_e1 a3 (i + 1) (qb_en a3 (qb_ld w) i))
      rw [qb_e1_n a3 (by omega)]
      exact h5
theorem qx_e45_factor (post : SX → Prop) (J : Int32 → (Nat → Int32) → (Nat → Int32) → (Nat → Int32) → (Nat → Int32) → (Nat → Int32) → (Nat → Int32) → (Nat → Int32) → (Nat → Int32) → (Nat → Int32) → Prop) {a1 a2 a3 a4 a5 a6 a7 a8 a9 : Nat → Int32} {q : Nat} (hq : q < 11) (s : Nat → Nat) (hs : qb_Sq a6 s) (H : ∀ a, qb_Sq a (qb_ak a3 q s) → J (nI (q + 1)) a1 a2 a3 a4 a5 a a7 a8 a9) : wX_encryptWords__factor_45 post J (nI q) a1 a2 a3 a4 a5 a6 a7 a8 a9 := by
  unfold wX_encryptWords__factor_45
  refine qx_ark _ hq s hs (fun a ha => ?_)
  exact nm_r (nI_1 q) (H a ha)
theorem qx_en_factor (post : SX → Prop) {a1 a2 a3 a4 a5 a6 a7 a8 a9 : Nat → Int32} (hT : qb_Tab a1) (w : Nat → Int32) (hw : ∀ c, c < 4 → a8 c = w c) (H : ∀ p a c, (∀ k, k < 4 → p k = qb_jn (qb_en a3 (qb_ld w) 10) k) → post (a1, a2, a3, a4, a5, a, c, p, a9)) : wpX_encryptWords__factor post (a1, a2, a3, a4, a5, a6, a7, a8, a9) := by
  unfold wpX_encryptWords__factor
  dsimp only
  refine qx_ld_factor _ w hw (fun a0 h0 => ?_)
  dsimp only
  refine qx_ark (q := 0) _ (by decide) _ h0 (fun a01 h01 => ?_)
  dsimp only
  refine pk_loop (σ := (Nat → Int32) × (Nat → Int32)) (fun n i s => wX_encryptWords__factor_12 post n (nI (i + 1)) a1 a2 a3 a4 a5 s.1 s.2 a8 a9) (fun i s => qb_Sq s.1 (qb_en a3 (qb_ld w) i)) 10 0 (a01, a7) (by decide) h01 ?_ ?_
  · rintro n ⟨a, c⟩ h
    refine br_t (nI_lt (a := 10) (b := 11) (by decide) (by decide)) (qx_st_factor _ _ h (fun p hp => ?_))
    exact H p a c hp
  · rintro n i ⟨a, c⟩ hi h ih
    have hn : ¬ (10 : Int32) < nI (i + 1) := nI_nlt (a := 10) (b := i + 1) (by omega) (by decide)
    refine br_f hn (qx_rb_substitutes _ hT _ h (fun a2' h2 => ?_))
    dsimp only
    refine qx_sr (t := 1) _ (by decide) _ h2 (fun a3' c3 h3 => ?_)
    have h3' := qb_Sq_c h3 (qb_srX _)
    dsimp only
    by_cases z : i = 9
    · subst z
      exact br_t rfl (qx_e45_factor _ _ (by decide) _ h3' (fun a4' h4 => ih (a4', c3) h4))
    · refine br_f (fun y => z (by have := (nI_eq (a := i + 1) (b := 10) (by omega) (by decide)).mp y; omega)) ?_
      refine qx_mg (m0 := 2) (m1 := 3) (m2 := 1) (m3 := 1) _ (by decide) (by decide) (by decide) (by decide) _ h3' (fun a4' c4 h4 => ?_)
      have h4' := qb_Sq_c h4 (qb_mgE (fun k hk => (h3' k hk).2))
      refine qx_e45_factor _ _ (by omega) _ h4' (fun a5' h5 => ih (a5', c4) ?_)
      show qb_Sq a5' (qb_e1 a3 (i + 1) (qb_en a3 (qb_ld w) i))
      rw [qb_e1_n a3 (by omega)]
      exact h5
theorem qx_d36 (post : SX → Prop) (J : Int32 → (Nat → Int32) → (Nat → Int32) → (Nat → Int32) → (Nat → Int32) → (Nat → Int32) → (Nat → Int32) → (Nat → Int32) → (Nat → Int32) → (Nat → Int32) → Prop) {a1 a2 a3 a4 a5 a6 a7 a8 a9 : Nat → Int32} (hO : ∀ x, x < 256 → a2 x = nI (qb_OG x)) (q : Nat) (s : Nat → Nat) (hs : qb_Sq a6 s) (H : ∀ a c, qb_Sq a (qb_un (qb_s3 s)) → J (nI q) a1 a2 a3 a4 a5 a c a8 a9) : wX_decryptWords__present_36 post J (nI (q + 1)) a1 a2 a3 a4 a5 a6 a7 a8 a9 := by
  unfold wX_decryptWords__present_36
  refine qx_sr (t := 3) _ (by decide) s hs (fun a c h => ?_)
  have h' := qb_Sq_c h (qb_s3X s)
  dsimp only
  refine qx_rb_originals _ hO _ h' (fun a2' h2 => ?_)
  exact nm_r (pk_m1 q) (H a2' c h2)
theorem qx_de_present (post : SX → Prop) {a1 a2 a3 a4 a5 a6 a7 a8 a9 : Nat → Int32} (hO : ∀ x, x < 256 → a2 x = nI (qb_OG x)) (w : Nat → Int32) (hw : ∀ c, c < 4 → a4 c = w c) (H : ∀ p a c, (∀ k, k < 4 → p k = qb_jn (qb_ak a3 0 (qb_de a3 (qb_ld w) 10)) k) → post (a1, a2, a3, p, a5, a, c, a8, a9)) : wpX_decryptWords__present post (a1, a2, a3, a4, a5, a6, a7, a8, a9) := by
  unfold wpX_decryptWords__present
  dsimp only
  refine qx_ld_present _ w hw (fun a0 h0 => ?_)
  dsimp only
  refine ⟨11, pk_loopD (σ := (Nat → Int32) × (Nat → Int32)) (fun n i s => wX_decryptWords__present_8 post n (nI i) a1 a2 a3 a4 a5 s.1 s.2 a8 a9) (fun i s => i ≤ 10 ∧ qb_Sq s.1 (qb_de a3 (qb_ld w) (10 - i))) ?_ ?_ 10 (a0, a7) ⟨Nat.le_refl 10, qb_de0 a3 h0⟩⟩
  · rintro n ⟨a, c⟩ ⟨_, h⟩
    refine br_t (nI_lt (a := 0) (b := 1) (by decide) (by decide)) (qx_ark (q := 0) _ (by decide) _ h (fun a2' h2 => ?_))
    dsimp only
    refine qx_st_present _ _ h2 (fun p hp => ?_)
    exact H p a2' c hp
  · rintro n i ⟨a, c⟩ ⟨hi, h⟩ ih
    have hn : ¬ nI (i + 1) < (1 : Int32) := nI_nlt (a := i + 1) (b := 1) (by omega) (by omega)
    refine br_f hn (qx_ark _ (by omega) _ h (fun a2' h2 => ?_))
    dsimp only
    by_cases z : i = 9
    · subst z
      refine br_t rfl (qx_d36 _ _ hO 9 _ h2 (fun a3' c3 h3 => ih (a3', c3) ⟨by decide, ?_⟩))
      show qb_Sq a3' (qb_de a3 (qb_ld w) (10 - 9))
      rw [qb_de_s _ _ (by decide)]
      exact h3
    · refine br_f (fun y => z (by have := (nI_eq (a := i + 1) (b := 10) (by omega) (by decide)).mp y; omega)) ?_
      refine qx_mg (m0 := 14) (m1 := 11) (m2 := 13) (m3 := 9) _ (by decide) (by decide) (by decide) (by decide) _ h2 (fun a4' c4 h4 => ?_)
      refine qx_d36 _ _ hO i _ h4 (fun a5' c5 h5 => ih (a5', c5) ⟨by omega, ?_⟩)
      show qb_Sq a5' (qb_de a3 (qb_ld w) (10 - i))
      rw [qb_de_s _ _ (by omega), qb_d1_n a3 (by omega)]
      exact h5
theorem qy_e31 (post : SY → Prop) (J : Int32 → (Nat → Int32) → (Nat → Int32) → (Nat → Int32) → (Nat → Int32) → (Nat → Int32) → (Nat → Int32) → (Nat → Int32) → (Nat → Int32) → (Nat → Int32) → Prop) {b1 b2 b3 b4 b5 b6 b7 b8 b9 : Nat → Int32} {q : Nat} (hq : q < 11) (s : Nat → Nat) (hs : qb_Sq b5 s) (H : ∀ a, qb_Sq a (qb_ak b2 q s) → J (nI (q + 1)) b1 b2 b3 b4 a b6 b7 b8 b9) : wY_rounds_31 post J (nI q) b1 b2 b3 b4 b5 b6 b7 b8 b9 := by
  unfold wY_rounds_31
  refine qy_ark _ hq s hs (fun a ha => ?_)
  exact nm_r (nI_1 q) (H a ha)
theorem qy_rounds (post : SY → Prop) {b1 b2 b3 b4 b5 b6 b7 b8 b9 : Nat → Int32} (hT : qb_Tab b1) (s : Nat → Nat) (hs : qb_Sq b5 s) (H : ∀ a c, qb_Sq a (qb_en b2 s 10) → post (b1, b2, b3, b4, a, c, b7, b8, b9)) : wpY_rounds post (b1, b2, b3, b4, b5, b6, b7, b8, b9) := by
  unfold wpY_rounds
  dsimp only
  refine qy_ark (q := 0) _ (by decide) _ hs (fun a01 h01 => ?_)
  dsimp only
  refine pk_loop (σ := (Nat → Int32) × (Nat → Int32)) (fun n i t => wY_rounds_7 post n (nI (i + 1)) b1 b2 b3 b4 t.1 t.2 b7 b8 b9) (fun i t => qb_Sq t.1 (qb_en b2 s i)) 10 0 (a01, b6) (by decide) h01 ?_ ?_
  · rintro n ⟨a, c⟩ h
    exact br_t (nI_lt (a := 10) (b := 11) (by decide) (by decide)) (H a c h)
  · rintro n i ⟨a, c⟩ hi h ih
    have hn : ¬ (10 : Int32) < nI (i + 1) := nI_nlt (a := 10) (b := i + 1) (by omega) (by decide)
    refine br_f hn (qy_rb _ hT _ h (fun a2' h2 => ?_))
    dsimp only
    refine qy_sr _ _ h2 (fun a3' c3 h3 => ?_)
    dsimp only
    by_cases z : i = 9
    · subst z
      exact br_t (nI_le (a := 10) (b := 10) (Nat.le_refl 10) (by decide)) (qy_e31 _ _ (by decide) _ h3 (fun a4' h4 => ih (a4', c3) h4))
    · refine br_f (nI_ge (b := 10) (by omega) (by decide)) ?_
      refine qy_mc _ _ h3 (fun a4' c4 h4 => ?_)
      refine qy_e31 _ _ (by omega) _ h4 (fun a5' h5 => ih (a5', c4) ?_)
      show qb_Sq a5' (qb_e1 b2 (i + 1) (qb_en b2 s i))
      rw [qb_e1_n b2 (by omega)]
      exact h5
def qb_ms (s : Nat → Nat) : Nat → Nat → Nat
  | 0 => s
  | k + 1 => qb_mc (qb_ms s k)
def qb_rs (s : Nat → Nat) : Nat → Nat → Nat
  | 0 => s
  | k + 1 => qb_sr (qb_rs s k)
theorem qb_rs3 (s : Nat → Nat) : qb_rs s 3 = qb_s3 s := rfl
theorem qb_ms3 {s : Nat → Nat} (hs : ∀ k, k < 16 → s k < 256) : ∀ j, j < 16 → qb_ms s 3 j = qb_mi s j := fun _ hj => qb_m3 s hj hs
theorem qy_d38 (post : SY → Prop) (J : Int32 → (Nat → Int32) → (Nat → Int32) → (Nat → Int32) → (Nat → Int32) → (Nat → Int32) → (Nat → Int32) → (Nat → Int32) → (Nat → Int32) → (Nat → Int32) → Prop) {b1 b2 b3 b4 b5 b6 b7 b8 b9 : Nat → Int32} (hT : qb_Tab b1) (q : Nat) (s : Nat → Nat) (hs : qb_Sq b5 s) (H : ∀ a c, qb_Sq a (qb_un (qb_s3 s)) → J (nI q) b1 b2 b3 b4 a c b7 b8 b9) : ∃ n, wY_roundsBack_38 post J (nI (q + 1)) n 0 b1 b2 b3 b4 b5 b6 b7 b8 b9 := by
  refine pk_loop (σ := (Nat → Int32) × (Nat → Int32)) (fun n i t => wY_roundsBack_38 post J (nI (q + 1)) n (nI i) b1 b2 b3 b4 t.1 t.2 b7 b8 b9) (fun i t => qb_Sq t.1 (qb_rs s i)) 3 0 (b5, b6) (by decide) hs ?_ ?_
  · rintro n ⟨a, c⟩ h
    refine br_t (nI_le (a := 3) (b := 3) (Nat.le_refl 3) (by decide)) (qy_ub _ hT _ h (fun a2' h2 => ?_))
    exact nm_r (pk_m1 q) (H a2' c h2)
  · rintro n i ⟨a, c⟩ hi h ih
    refine br_f (nI_ge (b := 3) hi (by decide)) (qy_sr _ _ h (fun a2' c2 h2 => ?_))
    exact nm_r (nI_1 i) (ih (a2', c2) h2)
theorem qy_d15 (post : SY → Prop) (J : Int32 → (Nat → Int32) → (Nat → Int32) → (Nat → Int32) → (Nat → Int32) → (Nat → Int32) → (Nat → Int32) → (Nat → Int32) → (Nat → Int32) → (Nat → Int32) → Prop) {b1 b2 b3 b4 b5 b6 b7 b8 b9 : Nat → Int32} {q : Nat} (hq : q < 9) (s : Nat → Nat) (hs : qb_Sq b5 s) (H : ∀ a c, qb_Sq a (qb_mi s) → ∃ n, wY_roundsBack_38 post J (nI (q + 1)) n 0 b1 b2 b3 b4 a c b7 b8 b9) : ∃ n, wY_roundsBack_15 post J (nI (q + 1)) n 0 b1 b2 b3 b4 b5 b6 b7 b8 b9 := by
  refine pk_loop (σ := (Nat → Int32) × (Nat → Int32)) (fun n i t => wY_roundsBack_15 post J (nI (q + 1)) n (nI i) b1 b2 b3 b4 t.1 t.2 b7 b8 b9) (fun i t => qb_Sq t.1 (qb_ms s i)) 3 0 (b5, b6) (by decide) hs ?_ ?_
  · rintro n ⟨a, c⟩ h
    exact br_t (nI_le (a := 3) (b := 3) (Nat.le_refl 3) (by decide)) (H a c (qb_Sq_c h (qb_ms3 (fun k hk => (hs k hk).2))))
  · rintro n i ⟨a, c⟩ hi h ih
    refine br_f (nI_ge (b := 3) hi (by decide)) (br_f (nI_ge (b := 10) (by omega) (by decide)) (qy_mc _ _ h (fun a2' c2 h2 => ?_)))
    exact nm_r (nI_1 i) (ih (a2', c2) h2)
theorem qy_back (post : SY → Prop) {b1 b2 b3 b4 b5 b6 b7 b8 b9 : Nat → Int32} (hT : qb_Tab b1) (s : Nat → Nat) (hs : qb_Sq b5 s) (H : ∀ a c, qb_Sq a (qb_ak b2 0 (qb_de b2 s 10)) → post (b1, b2, b3, b4, a, c, b7, b8, b9)) : wpY_roundsBack post (b1, b2, b3, b4, b5, b6, b7, b8, b9) := by
  unfold wpY_roundsBack
  dsimp only
  refine ⟨11, pk_loopD (σ := (Nat → Int32) × (Nat → Int32)) (fun n i t => wY_roundsBack_3 post n (nI i) b1 b2 b3 b4 t.1 t.2 b7 b8 b9) (fun i t => i ≤ 10 ∧ qb_Sq t.1 (qb_de b2 s (10 - i))) ?_ ?_ 10 (b5, b6) ⟨Nat.le_refl 10, qb_de0 b2 hs⟩⟩
  · rintro n ⟨a, c⟩ ⟨_, h⟩
    refine br_t (nI_lt (a := 0) (b := 1) (by decide) (by decide)) (qy_ark (q := 0) _ (by decide) _ h (fun a2' h2 => ?_))
    exact H a2' c h2
  · rintro n i ⟨a, c⟩ ⟨hi, h⟩ ih
    have hn : ¬ nI (i + 1) < (1 : Int32) := nI_nlt (a := i + 1) (b := 1) (by omega) (by omega)
    refine br_f hn (qy_ark _ (by omega) _ h (fun a2' h2 => ?_))
    dsimp only
    by_cases z : i = 9
    · subst z
      refine ⟨1, br_f (nI_ge (a := 0) (b := 3) (by decide) (by decide)) (br_t (nI_le (a := 10) (b := 10) (Nat.le_refl 10) (by decide)) (qy_d38 _ _ hT 9 _ h2 (fun a3' c3 h3 => ih (a3', c3) ⟨by decide, ?_⟩)))⟩
      show qb_Sq a3' (qb_de b2 s (10 - 9))
      rw [qb_de_s _ _ (by decide)]
      exact h3
    · refine qy_d15 _ _ (by omega) _ h2 (fun a3' c3 h3 => qy_d38 _ _ hT i _ h3 (fun a4' c4 h4 => ih (a4', c4) ⟨by omega, ?_⟩))
      show qb_Sq a4' (qb_de b2 s (10 - i))
      rw [qb_de_s _ _ (by omega), qb_d1_n b2 (by omega)]
      exact h4
theorem qy_encrypt (post : SY → Prop) {b1 b2 b3 b4 b5 b6 b7 b8 b9 : Nat → Int32} (hT : qb_Tab b1) (w : Nat → Int32) (hw : ∀ c, c < 4 → b3 c = w c) (H : ∀ p a c, (∀ k, k < 4 → p k = qb_jn (qb_en b2 (qb_ld w) 10) k) → post (b1, b2, p, b4, a, c, b7, b8, b9)) : wpY_encrypt post (b1, b2, b3, b4, b5, b6, b7, b8, b9) := by
  unfold wpY_encrypt
  dsimp only
  rw [hw 0 (by decide), hw 1 (by decide), hw 2 (by decide), hw 3 (by decide)]
  refine qy_lay _ w (fun a0 h0 => ?_)
  dsimp only
  refine qy_rounds _ hT _ h0 (fun a1' c1 h1 => ?_)
  dsimp only
  refine pk_loop (σ := Nat → Int32) (fun n i p => wY_encrypt_34 post n (nI i) b1 b2 p b4 a1' c1 b7 b8 b9) (fun i p => ∀ k, k < i → p k = qb_jn (qb_en b2 (qb_ld w) 10) k) 4 0 b3 (by decide) (fun j h => absurd h (Nat.not_lt_zero j)) ?_ ?_
  · intro n p hp
    exact br_t (nI_le (a := 4) (b := 4) (Nat.le_refl 4) (by decide)) (H p a1' c1 hp)
  · intro n i p hi hp ih
    have hc : (nI i).toNatClampNeg = i := nI_clamp (by omega)
    refine br_f (nI_ge (b := 4) hi (by decide)) (qy_joined _ _ h1 hi ?_)
    rw [hc]
    exact ⟨vp_in_nI hi (by decide), nm_e (nm_r (nI_1 i) (ih _ (qb_ul hp rfl)))⟩
theorem qy_decrypt (post : SY → Prop) {b1 b2 b3 b4 b5 b6 b7 b8 b9 : Nat → Int32} (hT : qb_Tab b1) (w : Nat → Int32) (hw : ∀ c, c < 4 → b3 c = w c) (H : ∀ p a c, (∀ k, k < 4 → p k = qb_jn (qb_ak b2 0 (qb_de b2 (qb_ld w) 10)) k) → post (b1, b2, p, b4, a, c, b7, b8, b9)) : wpY_decrypt post (b1, b2, b3, b4, b5, b6, b7, b8, b9) := by
  unfold wpY_decrypt
  dsimp only
  rw [hw 0 (by decide), hw 1 (by decide), hw 2 (by decide), hw 3 (by decide)]
  refine qy_lay _ w (fun a0 h0 => ?_)
  dsimp only
  refine qy_back _ hT _ h0 (fun a1' c1 h1 => ?_)
  dsimp only
  refine pk_loop (σ := Nat → Int32) (fun n i p => wY_decrypt_34 post n (nI i) b1 b2 p b4 a1' c1 b7 b8 b9) (fun i p => ∀ k, k < i → p k = qb_jn (qb_ak b2 0 (qb_de b2 (qb_ld w) 10)) k) 4 0 b3 (by decide) (fun j h => absurd h (Nat.not_lt_zero j)) ?_ ?_
  · intro n p hp
    exact br_t (nI_le (a := 4) (b := 4) (Nat.le_refl 4) (by decide)) (H p a1' c1 hp)
  · intro n i p hi hp ih
    have hc : (nI i).toNatClampNeg = i := nI_clamp (by omega)
    refine br_f (nI_ge (b := 4) hi (by decide)) (qy_joined _ _ h1 hi ?_)
    rw [hc]
    exact ⟨vp_in_nI hi (by decide), nm_e (nm_r (nI_1 i) (ih _ (qb_ul hp rfl)))⟩
end
section
/-! ===== round keys ===== -/
def qb_rt (t : Int32) : Int32 := (t <<< ((8 : Int32) &&& 31)) ||| ((t.toUInt32 >>> ((24 : Int32).toUInt32 &&& Int32.toUInt32 31)).toInt32)
def qb_kt (m p : Nat) (a : Nat → Int32) : Int32 := if (m + 4) % 4 = 0 then qb_sw (qb_rt (a (m + 3))) ^^^ (nI p <<< ((24 : Int32) &&& 31)) else a (m + 3)
def qb_kp (a : Nat → Int32) : Nat → Nat × (Nat → Int32)
  | 0 => (1, a)
  | m + 1 => (if (m + 4) % 4 = 0 then qb_tw (qb_kp a m).1 else (qb_kp a m).1, upd (qb_kp a m).2 (m + 4) ((qb_kp a m).2 m ^^^ qb_kt m (qb_kp a m).1 (qb_kp a m).2))
theorem qb_kp1 (a : Nat → Int32) (m : Nat) : (qb_kp a (m + 1)).1 = if (m + 4) % 4 = 0 then qb_tw (qb_kp a m).1 else (qb_kp a m).1 := rfl
theorem qb_kp2 (a : Nat → Int32) (m : Nat) : (qb_kp a (m + 1)).2 = upd (qb_kp a m).2 (m + 4) ((qb_kp a m).2 m ^^^ qb_kt m (qb_kp a m).1 (qb_kp a m).2) := rfl
theorem qb_kp_lt (a : Nat → Int32) (m : Nat) : (qb_kp a m).1 < 256 := by
  induction m with
  | zero => exact (by decide : 1 < 256)
  | succ m ih =>
    rw [qb_kp1]
    by_cases h : (m + 4) % 4 = 0
    · rw [if_pos h]; exact qb_tw_lt _ ih
    · rw [if_neg h]; exact ih
theorem qx_k50 (post : SX → Prop) (J : Int32 → Int32 → (Nat → Int32) → (Nat → Int32) → (Nat → Int32) → (Nat → Int32) → (Nat → Int32) → (Nat → Int32) → (Nat → Int32) → (Nat → Int32) → (Nat → Int32) → Prop) {a1 a2 a3 a4 a5 a6 a7 a8 a9 : Nat → Int32} (p v : Int32) {m : Nat} (hm : m < 40) (H : J p (nI (m + 1 + 4)) a1 a2 (upd a3 (m + 4) (a3 m ^^^ v)) a4 a5 a6 a7 a8 a9) : wX_expandKey_50 post J p (nI (m + 4)) v a1 a2 a3 a4 a5 a6 a7 a8 a9 := by
  have e4 : nI (m + 4) - 4 = nI m := pk_sub (a := m + 4) (b := 4) (by omega)
  have h1 : (nI m).toNatClampNeg = m := nI_clamp (by omega)
  have h2 : (nI (m + 4)).toNatClampNeg = m + 4 := nI_clamp (by omega)
  unfold wX_expandKey_50
  rw [e4, h1, h2]
  exact ⟨vp_in_nI (by omega) (by decide), vp_in_nI (by omega) (by decide), nm_e (nm_r ((nI_1 (m + 4)).trans (congrArg nI (by omega : m + 4 + 1 = m + 1 + 4))) H)⟩
theorem qy_k94 (post : SY → Prop) (J : Int32 → Int32 → (Nat → Int32) → (Nat → Int32) → (Nat → Int32) → (Nat → Int32) → (Nat → Int32) → (Nat → Int32) → (Nat → Int32) → (Nat → Int32) → (Nat → Int32) → Prop) {b1 b2 b3 b4 b5 b6 b7 b8 b9 : Nat → Int32} (p v : Int32) {m : Nat} (hm : m < 40) (H : J p (nI (m + 1 + 4)) b1 (upd b2 (m + 4) (b2 m ^^^ v)) b3 b4 b5 b6 b7 b8 b9) : wY_key_94 post J p (nI (m + 4)) v b1 b2 b3 b4 b5 b6 b7 b8 b9 := by
  have e4 : nI (m + 4) - 4 = nI m := pk_sub (a := m + 4) (b := 4) (by omega)
  have h1 : (nI m).toNatClampNeg = m := nI_clamp (by omega)
  have h2 : (nI (m + 4)).toNatClampNeg = m + 4 := nI_clamp (by omega)
  unfold wY_key_94
  rw [e4, h1, h2]
  exact ⟨vp_in_nI (by omega) (by decide), vp_in_nI (by omega) (by decide), nm_e (nm_r ((nI_1 (m + 4)).trans (congrArg nI (by omega : m + 4 + 1 = m + 1 + 4))) H)⟩
theorem qx_ek (post : SX → Prop) {a1 a2 a3 a4 a5 a6 a7 a8 a9 : Nat → Int32} (hT : qb_Tab a1) (H : post (a1, a2, (qb_kp a3 40).2, a4, a5, a6, a7, a8, a9)) : wpX_expandKey post (a1, a2, a3, a4, a5, a6, a7, a8, a9) := by
  show ∃ n, wX_expandKey_4 post n 1 4 a1 a2 a3 a4 a5 a6 a7 a8 a9
  refine pk_loop (σ := Int32 × (Nat → Int32)) (fun n m s => wX_expandKey_4 post n s.1 (nI (m + 4)) a1 a2 s.2 a4 a5 a6 a7 a8 a9) (fun m s => s.1 = nI (qb_kp a3 m).1 ∧ s.2 = (qb_kp a3 m).2) 40 0 (1, a3) (by decide) ⟨rfl, rfl⟩ ?_ ?_
  · rintro n ⟨p, a⟩ ⟨h1, h2⟩
    obtain rfl : a = (qb_kp a3 40).2 := h2
    exact br_t (nI_le (a := 44) (b := 44) (Nat.le_refl 44) (by decide)) H
  · rintro n m ⟨p, a⟩ hm ⟨h1, h2⟩ ih
    obtain rfl : p = nI (qb_kp a3 m).1 := h1
    obtain rfl : a = (qb_kp a3 m).2 := h2
    have hp := qb_kp_lt a3 m
    have e1 : nI (m + 4) - 1 = nI (m + 3) := nI_pred (m + 3)
    have e4 : nI (m + 4) - nI (m + 4) / 4 * 4 = nI ((m + 4) % 4) := pk_rem (a := m + 4) (d := 4) (by omega) (by decide) (by decide)
    have h3 : (nI (m + 3)).toNatClampNeg = m + 3 := nI_clamp (by omega)
    have hk := ih (nI (qb_kp a3 (m + 1)).1, (qb_kp a3 (m + 1)).2) ⟨rfl, rfl⟩
    dsimp only at hk
    rw [qb_kp1, qb_kp2] at hk
    refine br_f (nI_ge (b := 44) (by omega) (by decide)) ?_
    rw [e1, h3, e4]
    refine ⟨vp_in_nI (by omega) (by decide), nm_e ⟨by decide, ?_⟩⟩
    by_cases z : (m + 4) % 4 = 0
    · rw [if_pos z] at hk
      unfold qb_kt at hk
      rw [if_pos z] at hk
      refine br_t (by rw [z]; rfl) (qx_sw _ hT _ (nm_e (qx_product (y := 2) _ hp (by decide) ?_)))
      rw [qb_x2 _ hp]
      exact qx_k50 _ _ _ _ hm hk
    · rw [if_neg z] at hk
      unfold qb_kt at hk
      rw [if_neg z] at hk
      exact br_f (nI_ne0 (by omega) (by omega)) (qx_k50 _ _ _ _ hm hk)
theorem qy_ek (post : SY → Prop) {b1 b2 b3 b4 b5 b6 b7 b8 b9 : Nat → Int32} (hT : qb_Tab b1) (H : post (b1, (qb_kp b2 40).2, b3, b4, b5, b6, b7, b8, b9)) : ∃ n, wY_key_35 post n 1 4 b1 b2 b3 b4 b5 b6 b7 b8 b9 := by
  refine pk_loop (σ := Int32 × (Nat → Int32)) (fun n m s => wY_key_35 post n s.1 (nI (m + 4)) b1 s.2 b3 b4 b5 b6 b7 b8 b9) (fun m s => s.1 = nI (qb_kp b2 m).1 ∧ s.2 = (qb_kp b2 m).2) 40 0 (1, b2) (by decide) ⟨rfl, rfl⟩ ?_ ?_
  · rintro n ⟨p, a⟩ ⟨h1, h2⟩
    obtain rfl : a = (qb_kp b2 40).2 := h2
    exact br_t (nI_le (a := 44) (b := 44) (Nat.le_refl 44) (by decide)) H
  · rintro n m ⟨p, a⟩ hm ⟨h1, h2⟩ ih
    obtain rfl : p = nI (qb_kp b2 m).1 := h1
    obtain rfl : a = (qb_kp b2 m).2 := h2
    have hp := qb_kp_lt b2 m
    have e1 : nI (m + 4) - 1 = nI (m + 3) := nI_pred (m + 3)
    have e4 : nI (m + 4) - nI (m + 4) / 4 * 4 = nI ((m + 4) % 4) := pk_rem (a := m + 4) (d := 4) (by omega) (by decide) (by decide)
    have h3 : (nI (m + 3)).toNatClampNeg = m + 3 := nI_clamp (by omega)
    have hk := ih (nI (qb_kp b2 (m + 1)).1, (qb_kp b2 (m + 1)).2) ⟨rfl, rfl⟩
    dsimp only at hk
    rw [qb_kp1, qb_kp2] at hk
    refine br_f (nI_ge (b := 44) (by omega) (by decide)) ?_
    rw [e1, h3, e4]
    refine ⟨vp_in_nI (by omega) (by decide), nm_e ⟨by decide, ?_⟩⟩
    by_cases z : (m + 4) % 4 = 0
    · rw [if_pos z] at hk
      unfold qb_kt at hk
      rw [if_pos z] at hk
      exact br_t (by rw [z]; rfl) (nm_e (qy_sw _ hT _ (nm_e (qy_twice _ hp (qy_k94 _ _ _ _ hm hk)))))
    · rw [if_neg z] at hk
      unfold qb_kt at hk
      rw [if_neg z] at hk
      exact br_f (nI_ne0 (by omega) (by omega)) (qy_k94 _ _ _ _ hm hk)
/-! ===== the tables are filled ===== -/
theorem qx_fill (post : SX → Prop) {a1 a2 a3 a4 a5 a6 a7 a8 a9 : Nat → Int32} (H : ∀ t o, qb_Tab t → (∀ x, x < 256 → o x = nI (qb_OG x)) → post (t, o, a3, a4, a5, a6, a7, a8, a9)) : wpX_fillSubstitution post (a1, a2, a3, a4, a5, a6, a7, a8, a9) := by
  show ∃ n, wX_fillSubstitution_2 post n 0 a1 a2 a3 a4 a5 a6 a7 a8 a9
  refine pk_loop (σ := (Nat → Int32) × (Nat → Int32)) (fun n i s => wX_fillSubstitution_2 post n (nI i) s.1 s.2 a3 a4 a5 a6 a7 a8 a9) (fun i s => (∀ x, x < i → s.1 x = nI (qb_SB x)) ∧ (∀ x, x < i → s.2 (qb_SB x) = nI x)) 256 0 (a1, a2) (by decide) ⟨fun j h => absurd h (Nat.not_lt_zero j), fun j h => absurd h (Nat.not_lt_zero j)⟩ ?_ ?_
  · rintro n ⟨t, q⟩ ⟨h1, h2⟩
    refine br_t (nI_le (a := 256) (b := 256) (Nat.le_refl 256) (by decide)) (H t q h1 (fun x hx => ?_))
    have g := h2 (qb_OG x) (qb_OG_lt x)
    rw [qb_SO x hx] at g
    exact g
  · rintro n i ⟨t, q⟩ hi ⟨h1, h2⟩ ih
    have hc : (nI i).toNatClampNeg = i := nI_clamp (by omega)
    have hS := qb_SB_lt i
    have hd : (nI (qb_SB i)).toNatClampNeg = qb_SB i := nI_clamp (by omega)
    refine br_f (nI_ge (b := 256) hi (by decide)) (qx_substitution _ hi ?_)
    rw [qb_m255 hS, hc, hd]
    refine ⟨vp_in_nI hi (by decide), nm_e ⟨vp_in_nI hS (by decide), nm_e (nm_r (nI_1 i) (ih (upd t i (nI (qb_SB i)), upd q (qb_SB i) (nI i)) ⟨qb_ul h1 rfl, ?_⟩))⟩⟩
    intro x hx
    show upd q (qb_SB i) (nI i) (qb_SB x) = nI x
    by_cases z : x = i
    · subst z; rw [pk_us]
    · have hne : qb_SB x ≠ qb_SB i := by
        intro y
        have g1 := qb_OS x (by omega)
        rw [y, qb_OS i hi] at g1
        exact z g1.symm
      rw [pk_un hne]
      exact h2 x (by omega)
theorem qb_z4 : upd (upd (upd (upd (fun _ => 0) 0 0) 1 0) 2 0) 3 0 = (fun _ => 0) := by
  funext j
  unfold upd
  by_cases h3 : j = 3
  · rw [if_pos h3]
  · rw [if_neg h3]
    by_cases h2 : j = 2
    · rw [if_pos h2]
    · rw [if_neg h2]
      by_cases h1 : j = 1
      · rw [if_pos h1]
      · rw [if_neg h1]
        by_cases h0 : j = 0
        · rw [if_pos h0]
        · rw [if_neg h0]
theorem qy_init (post : SY → Prop) (H : ∀ t, qb_Tab t → post (t, (qb_kp (fun _ => 0) 40).2, (fun _ => 0), (fun _ => 0), (fun _ => 0), (fun _ => 0), (fun _ => 0), (fun _ => 0), (fun _ => 0))) : wpY_init post := by
  show ∃ n, wY_init_74 post n 0 (fun _ => 0) (fun _ => 0) (fun _ => 0) (fun _ => 0) (fun _ => 0) (fun _ => 0) (fun _ => 0) (fun _ => 0) (fun _ => 0)
  refine pk_loop (σ := Nat → Int32) (fun n i t => wY_init_74 post n (nI i) t (fun _ => 0) (fun _ => 0) (fun _ => 0) (fun _ => 0) (fun _ => 0) (fun _ => 0) (fun _ => 0) (fun _ => 0)) (fun i t => ∀ x, x < i → t x = nI (qb_SB x)) 256 0 (fun _ => 0) (by decide) (fun j h => absurd h (Nat.not_lt_zero j)) ?_ ?_
  · intro n t h1
    refine br_t (nI_le (a := 256) (b := 256) (Nat.le_refl 256) (by decide)) ?_
    unfold wpY_key
    dsimp only
    refine nm_e (nm_e (nm_e (nm_r qb_z4 ?_)))
    exact qy_ek _ h1 (H t h1)
  · intro n i t hi h1 ih
    have hc : (nI i).toNatClampNeg = i := nI_clamp (by omega)
    refine br_f (nI_ge (b := 256) hi (by decide)) (qy_inverse _ hi (qy_spread _ hi ?_))
    rw [hc]
    exact ⟨vp_in_nI hi (by decide), nm_e (nm_r (nI_1 i) (ih _ (qb_ul h1 rfl)))⟩
end
section
/-! ===== the hash ===== -/
def qb_u1 (x : Int32) : Int32 := (x.toUInt32 >>> ((1 : Int32).toUInt32 &&& Int32.toUInt32 31)).toInt32
def qb_mw (m : Nat → Int32) (c : Nat) : Int32 := qb_u1 (m c) ||| (m (c - 1) <<< ((31 : Int32) &&& 31))
def qb_mv (m : Nat → Int32) (c : Nat) : Int32 := if c = 0 then (if m 3 &&& 1 = 1 then qb_u1 (m 0) ^^^ (-520093696) else qb_u1 (m 0)) else qb_mw m c
def qb_MV (m : Nat → Int32) : Nat → Nat → Int32
  | 0 => m
  | i + 1 => qb_mv (qb_MV m i)
def qb_tb (z : Nat → Int32) (i : Nat) : Int32 := ((z (i / 32)).toUInt32 >>> ((nI (31 - i % 32)).toUInt32 &&& Int32.toUInt32 31)).toInt32 &&& 1
def qb_PR (z m : Nat → Int32) : Nat → Nat → Int32
  | 0 => fun _ => 0
  | i + 1 => fun c => if qb_tb z i = 1 then qb_PR z m i c ^^^ qb_MV m i c else qb_PR z m i c
theorem qb_PRt (z m : Nat → Int32) {i : Nat} (h : qb_tb z i = 1) (c : Nat) : qb_PR z m (i + 1) c = qb_PR z m i c ^^^ qb_MV m i c := if_pos h
theorem qb_PRf (z m : Nat → Int32) {i : Nat} (h : ¬ qb_tb z i = 1) (c : Nat) : qb_PR z m (i + 1) c = qb_PR z m i c := if_neg h
theorem qb_mv_c {m f : Nat → Int32} (h : ∀ c, c < 4 → f c = m c) : ∀ c, c < 4 → qb_mv f c = qb_mv m c := by
  intro c hc
  unfold qb_mv qb_mw
  rw [h 3 (by decide), h 0 (by decide), h c hc, h (c - 1) (by omega)]
/-- what the last part of a move leaves -/
theorem qb_mv_t (m f : Nat → Int32) (h0 : f 0 = m 0) (h1 : ∀ c, 0 < c → c < 4 → f c = qb_mw m c) (h : m 3 &&& 1 = 1) : ∀ c, c < 4 → upd (upd f 0 (qb_u1 (f 0))) 0 (upd f 0 (qb_u1 (f 0)) 0 ^^^ (-520093696)) c = qb_mv m c := by
  intro c hc
  unfold qb_mv
  by_cases z : c = 0
  · subst z; rw [pk_us, pk_us, if_pos rfl, if_pos h, h0]
  · rw [pk_un z, pk_un z, if_neg z]; exact h1 c (by omega) hc
theorem qb_mv_f (m f : Nat → Int32) (h0 : f 0 = m 0) (h1 : ∀ c, 0 < c → c < 4 → f c = qb_mw m c) (h : ¬ m 3 &&& 1 = 1) : ∀ c, c < 4 → upd f 0 (qb_u1 (f 0)) c = qb_mv m c := by
  intro c hc
  unfold qb_mv
  by_cases z : c = 0
  · subst z; rw [pk_us, if_pos rfl, if_neg h, h0]
  · rw [pk_un z, if_neg z]; exact h1 c (by omega) hc
def qb_MI (m : Nat → Int32) (i : Nat) (f : Nat → Int32) : Prop := i ≤ 3 ∧ (∀ c, i < c → c < 4 → f c = qb_mw m c) ∧ (∀ c, c ≤ i → f c = m c)
theorem qb_MIs {m f : Nat → Int32} {i : Nat} (h : qb_MI m (i + 1) f) {v : Int32} (hv : v = qb_mw m (i + 1)) : qb_MI m i (upd f (i + 1) v) := by
  obtain ⟨hi, h1, h2⟩ := h
  refine ⟨by omega, fun c hc h4 => ?_, fun c hc => ?_⟩
  · by_cases z : c = i + 1
    · subst z; rw [pk_us, hv]
    · rw [pk_un z]; exact h1 c (by omega) h4
  · rw [pk_un (by omega)]; exact h2 c (by omega)
theorem qb_i5 : ∀ i, i < 128 → nI i >>> ((5 : Int32) &&& 31) = nI (i / 32) := by decide +kernel
theorem qb_i6 : ∀ i, i < 128 → (31 : Int32) - (nI i &&& 31) = nI (31 - i % 32) := by decide +kernel
theorem qb_i7 : ∀ i, i < 128 → nI i / 32 = nI (i / 32) := by decide +kernel
theorem qb_i8 : ∀ i, i < 128 → (31 : Int32) - (nI i - nI i / 32 * 32) = nI (31 - i % 32) := by decide +kernel
theorem qb_d32 : ¬ (32 : Int32) = 0 := by decide
theorem qx_mv (post : SX → Prop) {a1 a2 a3 a4 a5 a6 a7 a8 a9 : Nat → Int32} (m : Nat → Int32) (hm : ∀ c, c < 4 → a8 c = m c) (H : ∀ f, (∀ c, c < 4 → f c = qb_mv m c) → post (a1, a2, a3, a4, a5, a6, a7, f, a9)) : wpX_moveFactor post (a1, a2, a3, a4, a5, a6, a7, a8, a9) := by
  unfold wpX_moveFactor
  dsimp only
  refine nm_e ?_
  refine ⟨4, pk_loopD (σ := Nat → Int32) (fun n i f => wX_moveFactor_11 post (a8 3 &&& 1) n (nI i) a1 a2 a3 a4 a5 a6 a7 f a9) (fun i f => qb_MI a8 i f) ?_ ?_ 3 a8 ⟨Nat.le_refl 3, fun c h1 h2 => absurd h1 (by omega), fun c _ => rfl⟩⟩
  · rintro n f ⟨_, h1, h2⟩
    refine br_t (nI_le (a := 0) (b := 0) (Nat.le_refl 0) (by decide)) (nm_e ?_)
    by_cases z : a8 3 &&& 1 = 1
    · exact br_t z (nm_e (H _ (fun c hc => (qb_mv_t a8 f (h2 0 (Nat.le_refl 0)) h1 z c hc).trans (qb_mv_c hm c hc))))
    · exact br_f z (H _ (fun c hc => (qb_mv_f a8 f (h2 0 (Nat.le_refl 0)) h1 z c hc).trans (qb_mv_c hm c hc)))
  · rintro n i f h ih
    have hi := h.1
    have hc : (nI (i + 1)).toNatClampNeg = i + 1 := nI_clamp (by omega)
    have hd : (nI i).toNatClampNeg = i := nI_clamp (by omega)
    have e1 : nI (i + 1) - 1 = nI i := nI_pred i
    refine br_f (nI_nle (by omega) (by omega)) ?_
    rw [e1, hc, hd]
    refine ⟨vp_in_nI (by omega) (by decide), vp_in_nI (by omega) (by decide), vp_in_nI (by omega) (by decide), nm_e (nm_r (pk_m1 i) (ih _ (qb_MIs h ?_)))⟩
    rw [h.2.2 (i + 1) (Nat.le_refl _), h.2.2 i (by omega)]
    rfl
theorem qy_m20 (post : SY → Prop) {b1 b2 b3 b4 b5 b6 b7 b8 b9 : Nat → Int32} (m : Nat → Int32) (hm : ∀ c, c < 4 → b8 c = m c) (x1 : Int32) (hx : x1 = 1 ∧ b8 3 &&& 1 = 1 ∨ x1 = 0 ∧ ¬ b8 3 &&& 1 = 1) (H : ∀ f, (∀ c, c < 4 → f c = qb_mv m c) → post (b1, b2, b3, b4, b5, b6, b7, f, b9)) : ∃ n, wY_moveBit_20 post x1 n 3 b1 b2 b3 b4 b5 b6 b7 b8 b9 := by
  refine ⟨4, pk_loopD (σ := Nat → Int32) (fun n i f => wY_moveBit_20 post x1 n (nI i) b1 b2 b3 b4 b5 b6 b7 f b9) (fun i f => qb_MI b8 i f) ?_ ?_ 3 b8 ⟨Nat.le_refl 3, fun c h1 h2 => absurd h1 (by omega), fun c _ => rfl⟩⟩
  · rintro n f ⟨_, h1, h2⟩
    refine br_t (nI_le (a := 0) (b := 0) (Nat.le_refl 0) (by decide)) (nm_e ?_)
    rcases hx with ⟨e, z⟩ | ⟨e, z⟩
    · exact br_f (by rw [e]; decide) (nm_e (H _ (fun c hc => (qb_mv_t b8 f (h2 0 (Nat.le_refl 0)) h1 z c hc).trans (qb_mv_c hm c hc))))
    · exact br_t e (H _ (fun c hc => (qb_mv_f b8 f (h2 0 (Nat.le_refl 0)) h1 z c hc).trans (qb_mv_c hm c hc)))
  · rintro n i f h ih
    have hi := h.1
    have hc : (nI (i + 1)).toNatClampNeg = i + 1 := nI_clamp (by omega)
    have hd : (nI i).toNatClampNeg = i := nI_clamp (by omega)
    have e1 : nI (i + 1) - 1 = nI i := nI_pred i
    refine br_f (nI_nle (by omega) (by omega)) ?_
    rw [e1, hc, hd]
    refine ⟨vp_in_nI (by omega) (by decide), vp_in_nI (by omega) (by decide), vp_in_nI (by omega) (by decide), nm_e (nm_r (pk_m1 i) (ih _ (qb_MIs h ?_)))⟩
    rw [h.2.2 (i + 1) (Nat.le_refl _), h.2.2 i (by omega)]
    rfl
theorem qy_mv (post : SY → Prop) {b1 b2 b3 b4 b5 b6 b7 b8 b9 : Nat → Int32} (m : Nat → Int32) (hm : ∀ c, c < 4 → b8 c = m c) (H : ∀ f, (∀ c, c < 4 → f c = qb_mv m c) → post (b1, b2, b3, b4, b5, b6, b7, f, b9)) : wpY_moveBit post (b1, b2, b3, b4, b5, b6, b7, b8, b9) := by
  unfold wpY_moveBit
  dsimp only
  exact br_c (fun z => qy_m20 post m hm 1 (Or.inl ⟨rfl, z⟩) H) (fun z => qy_m20 post m hm 0 (Or.inr ⟨rfl, z⟩) H)
theorem qx_cl_sum (post : SX → Prop) {a1 a2 a3 a4 a5 a6 a7 a8 a9 : Nat → Int32} (H : ∀ a, (∀ c, c < 4 → a c = 0) → post (a1, a2, a3, a4, a5, a6, a7, a8, a)) : wpX_clear__sum post (a1, a2, a3, a4, a5, a6, a7, a8, a9) := by
  show ∃ n, wX_clear__sum_2 post n 0 a1 a2 a3 a4 a5 a6 a7 a8 a9
  refine pk_loop (σ := Nat → Int32) (fun n i a => wX_clear__sum_2 post n (nI i) a1 a2 a3 a4 a5 a6 a7 a8 a) (fun i a => ∀ c, c < i → a c = 0) 4 0 a9 (by decide) (fun j h => absurd h (Nat.not_lt_zero j)) ?_ ?_
  · intro n a h1
    exact br_t (nI_le (a := 4) (b := 4) (Nat.le_refl 4) (by decide)) (H a h1)
  · intro n i a hi h1 ih
    have hc : (nI i).toNatClampNeg = i := nI_clamp (by omega)
    refine br_f (nI_ge (b := 4) hi (by decide)) ?_
    rw [hc]
    exact ⟨vp_in_nI hi (by decide), nm_e (nm_r (nI_1 i) (ih _ (qb_ul (g := fun _ => 0) h1 rfl)))⟩
theorem qx_cl_hashed (post : SX → Prop) {a1 a2 a3 a4 a5 a6 a7 a8 a9 : Nat → Int32} (H : ∀ a, (∀ c, c < 4 → a c = 0) → post (a1, a2, a3, a4, a, a6, a7, a8, a9)) : wpX_clear__hashed post (a1, a2, a3, a4, a5, a6, a7, a8, a9) := by
  show ∃ n, wX_clear__hashed_2 post n 0 a1 a2 a3 a4 a5 a6 a7 a8 a9
  refine pk_loop (σ := Nat → Int32) (fun n i a => wX_clear__hashed_2 post n (nI i) a1 a2 a3 a4 a a6 a7 a8 a9) (fun i a => ∀ c, c < i → a c = 0) 4 0 a5 (by decide) (fun j h => absurd h (Nat.not_lt_zero j)) ?_ ?_
  · intro n a h1
    exact br_t (nI_le (a := 4) (b := 4) (Nat.le_refl 4) (by decide)) (H a h1)
  · intro n i a hi h1 ih
    have hc : (nI i).toNatClampNeg = i := nI_clamp (by omega)
    refine br_f (nI_ge (b := 4) hi (by decide)) ?_
    rw [hc]
    exact ⟨vp_in_nI hi (by decide), nm_e (nm_r (nI_1 i) (ih _ (qb_ul (g := fun _ => 0) h1 rfl)))⟩
theorem qx_cl_factor (post : SX → Prop) {a1 a2 a3 a4 a5 a6 a7 a8 a9 : Nat → Int32} (H : ∀ a, (∀ c, c < 4 → a c = 0) → post (a1, a2, a3, a4, a5, a6, a7, a, a9)) : wpX_clear__factor post (a1, a2, a3, a4, a5, a6, a7, a8, a9) := by
  show ∃ n, wX_clear__factor_2 post n 0 a1 a2 a3 a4 a5 a6 a7 a8 a9
  refine pk_loop (σ := Nat → Int32) (fun n i a => wX_clear__factor_2 post n (nI i) a1 a2 a3 a4 a5 a6 a7 a a9) (fun i a => ∀ c, c < i → a c = 0) 4 0 a8 (by decide) (fun j h => absurd h (Nat.not_lt_zero j)) ?_ ?_
  · intro n a h1
    exact br_t (nI_le (a := 4) (b := 4) (Nat.le_refl 4) (by decide)) (H a h1)
  · intro n i a hi h1 ih
    have hc : (nI i).toNatClampNeg = i := nI_clamp (by omega)
    refine br_f (nI_ge (b := 4) hi (by decide)) ?_
    rw [hc]
    exact ⟨vp_in_nI hi (by decide), nm_e (nm_r (nI_1 i) (ih _ (qb_ul (g := fun _ => 0) h1 rfl)))⟩
theorem qx_aw_hashed_sum (post : SX → Prop) {a1 a2 a3 a4 a5 a6 a7 a8 a9 : Nat → Int32} (H : ∀ a, (∀ c, c < 4 → a c = a5 c ^^^ a9 c) → post (a1, a2, a3, a4, a, a6, a7, a8, a9)) : wpX_addWords__hashed_sum post (a1, a2, a3, a4, a5, a6, a7, a8, a9) := by
  show ∃ n, wX_addWords__hashed_sum_2 post n 0 a1 a2 a3 a4 a5 a6 a7 a8 a9
  refine pk_loop (σ := Nat → Int32) (fun n i a => wX_addWords__hashed_sum_2 post n (nI i) a1 a2 a3 a4 a a6 a7 a8 a9) (fun i a => (∀ c, c < i → a c = a5 c ^^^ a9 c) ∧ (∀ c, i ≤ c → c < 4 → a c = a5 c)) 4 0 a5 (by decide) ⟨fun j h => absurd h (Nat.not_lt_zero j), fun j _ _ => rfl⟩ ?_ ?_
  · rintro n a ⟨h1, h2⟩
    exact br_t (nI_le (a := 4) (b := 4) (Nat.le_refl 4) (by decide)) (H a h1)
  · rintro n i a hi ⟨h1, h2⟩ ih
    have hc : (nI i).toNatClampNeg = i := nI_clamp (by omega)
    refine br_f (nI_ge (b := 4) hi (by decide)) ?_
    rw [hc, h2 i (Nat.le_refl i) hi]
    exact ⟨vp_in_nI hi (by decide), vp_in_nI hi (by decide), vp_in_nI hi (by decide), nm_e (nm_r (nI_1 i) (ih _ ⟨qb_ul h1 rfl, qb_uh h2⟩))⟩
theorem qx_aw_sum_factor (post : SX → Prop) {a1 a2 a3 a4 a5 a6 a7 a8 a9 : Nat → Int32} (H : ∀ a, (∀ c, c < 4 → a c = a9 c ^^^ a8 c) → post (a1, a2, a3, a4, a5, a6, a7, a8, a)) : wpX_addWords__sum_factor post (a1, a2, a3, a4, a5, a6, a7, a8, a9) := by
  show ∃ n, wX_addWords__sum_factor_2 post n 0 a1 a2 a3 a4 a5 a6 a7 a8 a9
  refine pk_loop (σ := Nat → Int32) (fun n i a => wX_addWords__sum_factor_2 post n (nI i) a1 a2 a3 a4 a5 a6 a7 a8 a) (fun i a => (∀ c, c < i → a c = a9 c ^^^ a8 c) ∧ (∀ c, i ≤ c → c < 4 → a c = a9 c)) 4 0 a9 (by decide) ⟨fun j h => absurd h (Nat.not_lt_zero j), fun j _ _ => rfl⟩ ?_ ?_
  · rintro n a ⟨h1, h2⟩
    exact br_t (nI_le (a := 4) (b := 4) (Nat.le_refl 4) (by decide)) (H a h1)
  · rintro n i a hi ⟨h1, h2⟩ ih
    have hc : (nI i).toNatClampNeg = i := nI_clamp (by omega)
    refine br_f (nI_ge (b := 4) hi (by decide)) ?_
    rw [hc, h2 i (Nat.le_refl i) hi]
    exact ⟨vp_in_nI hi (by decide), vp_in_nI hi (by decide), vp_in_nI hi (by decide), nm_e (nm_r (nI_1 i) (ih _ ⟨qb_ul h1 rfl, qb_uh h2⟩))⟩
theorem qx_aw_hashed_present (post : SX → Prop) {a1 a2 a3 a4 a5 a6 a7 a8 a9 : Nat → Int32} (H : ∀ a, (∀ c, c < 4 → a c = a5 c ^^^ a4 c) → post (a1, a2, a3, a4, a, a6, a7, a8, a9)) : wpX_addWords__hashed_present post (a1, a2, a3, a4, a5, a6, a7, a8, a9) := by
  show ∃ n, wX_addWords__hashed_present_2 post n 0 a1 a2 a3 a4 a5 a6 a7 a8 a9
  refine pk_loop (σ := Nat → Int32) (fun n i a => wX_addWords__hashed_present_2 post n (nI i) a1 a2 a3 a4 a a6 a7 a8 a9) (fun i a => (∀ c, c < i → a c = a5 c ^^^ a4 c) ∧ (∀ c, i ≤ c → c < 4 → a c = a5 c)) 4 0 a5 (by decide) ⟨fun j h => absurd h (Nat.not_lt_zero j), fun j _ _ => rfl⟩ ?_ ?_
  · rintro n a ⟨h1, h2⟩
    exact br_t (nI_le (a := 4) (b := 4) (Nat.le_refl 4) (by decide)) (H a h1)
  · rintro n i a hi ⟨h1, h2⟩ ih
    have hc : (nI i).toNatClampNeg = i := nI_clamp (by omega)
    refine br_f (nI_ge (b := 4) hi (by decide)) ?_
    rw [hc, h2 i (Nat.le_refl i) hi]
    exact ⟨vp_in_nI hi (by decide), vp_in_nI hi (by decide), vp_in_nI hi (by decide), nm_e (nm_r (nI_1 i) (ih _ ⟨qb_ul h1 rfl, qb_uh h2⟩))⟩
theorem qx_m49 (post : SX → Prop) (J : Int32 → (Nat → Int32) → (Nat → Int32) → (Nat → Int32) → (Nat → Int32) → (Nat → Int32) → (Nat → Int32) → (Nat → Int32) → (Nat → Int32) → (Nat → Int32) → Prop) {a1 a2 a3 a4 a5 a6 a7 a8 a9 : Nat → Int32} (i : Nat) (m : Nat → Int32) (hm : ∀ c, c < 4 → a8 c = m c) (H : ∀ f, (∀ c, c < 4 → f c = qb_mv m c) → J (nI (i + 1)) a1 a2 a3 a4 a5 a6 a7 f a9) : wX_multiplyHashByFactor_49 post J (nI i) a1 a2 a3 a4 a5 a6 a7 a8 a9 := by
  unfold wX_multiplyHashByFactor_49
  refine qx_mv _ m hm (fun f hf => ?_)
  exact nm_r (nI_1 i) (H f hf)
theorem qx_mul (post : SX → Prop) {a1 a2 a3 a4 a5 a6 a7 a8 a9 : Nat → Int32} (z m : Nat → Int32) (hz : ∀ c, c < 4 → a5 c = z c) (hm : ∀ c, c < 4 → a8 c = m c) (H : ∀ h f g, (∀ c, c < 4 → h c = qb_PR z m 128 c) → post (a1, a2, a3, a4, h, a6, a7, f, g)) : wpX_multiplyHashByFactor post (a1, a2, a3, a4, a5, a6, a7, a8, a9) := by
  unfold wpX_multiplyHashByFactor
  dsimp only
  refine qx_cl_sum _ (fun g0 h0 => ?_)
  dsimp only
  refine pk_loop (σ := (Nat → Int32) × (Nat → Int32)) (fun n i s => wX_multiplyHashByFactor_9 post n (nI i) a1 a2 a3 a4 a5 a6 a7 s.1 s.2) (fun i s => (∀ c, c < 4 → s.1 c = qb_MV m i c) ∧ (∀ c, c < 4 → s.2 c = qb_PR z m i c)) 128 0 (a8, g0) (by decide) ⟨hm, h0⟩ ?_ ?_
  · rintro n ⟨f, g⟩ ⟨h1, h2⟩
    refine br_t (nI_le (a := 128) (b := 128) (Nat.le_refl 128) (by decide)) (qx_cl_hashed _ (fun h hh => ?_))
    dsimp only
    refine qx_aw_hashed_sum _ (fun h' hh' => ?_)
    refine H h' f g (fun c hc => ?_)
    rw [hh' c hc, hh c hc, Int32.zero_xor]
    exact h2 c hc
  · rintro n i ⟨f, g⟩ hi ⟨h1, h2⟩ ih
    have hd : (nI (i / 32)).toNatClampNeg = i / 32 := nI_clamp (by omega)
    refine br_f (nI_ge (b := 128) hi (by decide)) ?_
    rw [qb_i5 i hi, qb_i6 i hi, hd, hz _ (by omega)]
    refine ⟨vp_in_nI (by omega) (by decide), ?_⟩
    by_cases b : qb_tb z i = 1
    · refine br_t b (qx_aw_sum_factor _ (fun g' hg => ?_))
      dsimp only
      refine qx_m49 _ _ i _ h1 (fun f' hf => ih (f', g') ⟨hf, fun c hc => ?_⟩)
      rw [qb_PRt z m b]
      have e1 := h1 c hc
      have e2 := h2 c hc
      dsimp only at e1 e2
      rw [← e1, ← e2]
      exact hg c hc
    · refine br_f b (qx_m49 _ _ i _ h1 (fun f' hf => ih (f', g) ⟨hf, fun c hc => ?_⟩))
      rw [qb_PRf z m b]
      exact h2 c hc
theorem qx_absorb (post : SX → Prop) {a1 a2 a3 a4 a5 a6 a7 a8 a9 : Nat → Int32} (hT : qb_Tab a1) (H : ∀ h a c f g, (∀ k, k < 4 → h k = qb_PR (fun k => a5 k ^^^ a4 k) (qb_jn (qb_en a3 (qb_ld (fun _ => 0)) 10)) 128 k) → post (a1, a2, a3, a4, h, a, c, f, g)) : wpX_absorb post (a1, a2, a3, a4, a5, a6, a7, a8, a9) := by
  unfold wpX_absorb
  dsimp only
  refine qx_cl_factor _ (fun f0 h0 => ?_)
  dsimp only
  refine qx_en_factor _ hT (fun _ => 0) h0 (fun p a c hp => ?_)
  dsimp only
  refine qx_aw_hashed_present _ (fun h hh => ?_)
  dsimp only
  refine qx_mul _ (fun k => a5 k ^^^ a4 k) _ hh hp (fun h' f g hg => ?_)
  exact H h' a c f g hg
/-! the same for Y -/
theorem qy_ab134 (post : SY → Prop) {b1 b2 b3 b4 b5 b6 b7 b8 b9 : Nat → Int32} (H : ∀ h, (∀ c, c < 4 → h c = b9 c) → post (b1, b2, b3, h, b5, b6, b7, b8, b9)) : ∃ n, wY_absorb_134 post n 0 b1 b2 b3 b4 b5 b6 b7 b8 b9 := by
  refine pk_loop (σ := Nat → Int32) (fun n i a => wY_absorb_134 post n (nI i) b1 b2 b3 a b5 b6 b7 b8 b9) (fun i a => ∀ c, c < i → a c = b9 c) 4 0 b4 (by decide) (fun j h => absurd h (Nat.not_lt_zero j)) ?_ ?_
  · intro n a h1
    exact br_t (nI_le (a := 4) (b := 4) (Nat.le_refl 4) (by decide)) (H a h1)
  · intro n i a hi h1 ih
    have hc : (nI i).toNatClampNeg = i := nI_clamp (by omega)
    refine br_f (nI_ge (b := 4) hi (by decide)) ?_
    rw [hc]
    exact ⟨vp_in_nI hi (by decide), vp_in_nI hi (by decide), nm_e (nm_r (nI_1 i) (ih _ (qb_ul h1 rfl)))⟩
theorem qy_ab73 (post : SY → Prop) (J : Int32 → (Nat → Int32) → (Nat → Int32) → (Nat → Int32) → (Nat → Int32) → (Nat → Int32) → (Nat → Int32) → (Nat → Int32) → (Nat → Int32) → (Nat → Int32) → Prop) {b1 b2 b3 b4 b5 b6 b7 b8 b9 : Nat → Int32} (z m : Nat → Int32) {i : Nat} (hi : i < 128) (hz : ∀ c, c < 4 → b7 c = z c) (hm : ∀ c, c < 4 → b8 c = qb_MV m i c) (hp : ∀ c, c < 4 → b9 c = qb_PR z m i c) (H : ∀ f g, (∀ c, c < 4 → f c = qb_MV m (i + 1) c) → (∀ c, c < 4 → g c = qb_PR z m (i + 1) c) → J (nI (i + 1)) b1 b2 b3 b4 b5 b6 b7 f g) : ∃ n, wY_absorb_73 post J (nI i) n 0 b1 b2 b3 b4 b5 b6 b7 b8 b9 := by
  have hd : (nI (i / 32)).toNatClampNeg = i / 32 := nI_clamp (by omega)
  have hb : (z (i / 32) >>> (nI (31 - i % 32) &&& 31)) &&& 1 = qb_tb z i := qb_bit _ _ (by omega)
  refine pk_loop (σ := Nat → Int32) (fun n k g => wY_absorb_73 post J (nI i) n (nI k) b1 b2 b3 b4 b5 b6 b7 b8 g) (fun k g => (∀ c, c < k → g c = qb_PR z m (i + 1) c) ∧ (∀ c, k ≤ c → c < 4 → g c = qb_PR z m i c)) 4 0 b9 (by decide) ⟨fun j h => absurd h (Nat.not_lt_zero j), fun j _ h => hp j h⟩ ?_ ?_
  · rintro n g ⟨h1, h2⟩
    refine br_t (nI_le (a := 4) (b := 4) (Nat.le_refl 4) (by decide)) (qy_mv _ _ hm (fun f hf => ?_))
    exact nm_r (nI_1 i) (H f g hf h1)
  · rintro n k g hk ⟨h1, h2⟩ ih
    have hc : (nI k).toNatClampNeg = k := nI_clamp (by omega)
    refine br_f (nI_ge (b := 4) hk (by decide)) ⟨qb_d32, ?_⟩
    rw [qb_i8 i hi, qb_i7 i hi, hd, hz _ (by omega), hb, hc, h2 k (Nat.le_refl k) hk, hm k hk]
    refine ⟨vp_in_nI (by omega) (by decide), qb_d32, ?_⟩
    by_cases b : qb_tb z i = 1
    · exact br_t b ⟨vp_in_nI hk (by decide), vp_in_nI hk (by decide), vp_in_nI hk (by decide), nm_e (nm_r (nI_1 k) (ih _ ⟨qb_ul h1 (qb_PRt z m b k).symm, qb_uh h2⟩))⟩
    · refine br_f b (nm_r (nI_1 k) (ih g ⟨fun c h => ?_, fun c h h4 => h2 c (by omega) h4⟩))
      by_cases y : c = k
      · subst y; rw [qb_PRf z m b]; exact h2 c (Nat.le_refl c) hk
      · exact h1 c (by omega)
theorem qy_ab64 (post : SY → Prop) {b1 b2 b3 b4 b5 b6 b7 b8 b9 : Nat → Int32} (z m : Nat → Int32) (hz : ∀ c, c < 4 → b7 c = z c) (hm : ∀ c, c < 4 → b8 c = m c) (hp : ∀ c, c < 4 → b9 c = 0) (H : ∀ h f g, (∀ c, c < 4 → h c = qb_PR z m 128 c) → post (b1, b2, b3, h, b5, b6, b7, f, g)) : ∃ n, wY_absorb_64 post n 0 b1 b2 b3 b4 b5 b6 b7 b8 b9 := by
  refine pk_loop (σ := (Nat → Int32) × (Nat → Int32)) (fun n i s => wY_absorb_64 post n (nI i) b1 b2 b3 b4 b5 b6 b7 s.1 s.2) (fun i s => (∀ c, c < 4 → s.1 c = qb_MV m i c) ∧ (∀ c, c < 4 → s.2 c = qb_PR z m i c)) 128 0 (b8, b9) (by decide) ⟨hm, hp⟩ ?_ ?_
  · rintro n ⟨f, g⟩ ⟨h1, h2⟩
    exact br_t (nI_le (a := 128) (b := 128) (Nat.le_refl 128) (by decide)) (qy_ab134 _ (fun h hh => H h f g (fun c hc => (hh c hc).trans (h2 c hc))))
  · rintro n i ⟨f, g⟩ hi ⟨h1, h2⟩ ih
    exact br_f (nI_ge (b := 128) hi (by decide)) (qy_ab73 _ _ z m hi hz h1 h2 (fun f' g' hf hg => ih (f', g') ⟨hf, hg⟩))
theorem qy_ab14 (post : SY → Prop) {b1 b2 b3 b4 b5 b6 b7 b8 b9 : Nat → Int32} (s : Nat → Nat) (hs : qb_Sq b5 s) (H : ∀ q f g, (∀ c, c < 4 → q c = b4 c ^^^ b3 c) → (∀ c, c < 4 → f c = qb_jn s c) → (∀ c, c < 4 → g c = 0) → ∃ n, wY_absorb_64 post n 0 b1 b2 b3 b4 b5 b6 q f g) : ∃ n, wY_absorb_14 post n 0 b1 b2 b3 b4 b5 b6 b7 b8 b9 := by
  refine pk_loop (σ := (Nat → Int32) × (Nat → Int32) × (Nat → Int32)) (fun n i t => wY_absorb_14 post n (nI i) b1 b2 b3 b4 b5 b6 t.1 t.2.1 t.2.2) (fun i t => (∀ c, c < i → t.1 c = b4 c ^^^ b3 c) ∧ (∀ c, c < i → t.2.1 c = qb_jn s c) ∧ (∀ c, c < i → t.2.2 c = 0)) 4 0 (b7, b8, b9) (by decide) ⟨fun j h => absurd h (Nat.not_lt_zero j), fun j h => absurd h (Nat.not_lt_zero j), fun j h => absurd h (Nat.not_lt_zero j)⟩ ?_ ?_
  · rintro n ⟨q, f, g⟩ ⟨h1, h2, h3⟩
    exact br_t (nI_le (a := 4) (b := 4) (Nat.le_refl 4) (by decide)) (H q f g h1 h2 h3)
  · rintro n i ⟨q, f, g⟩ hi ⟨h1, h2, h3⟩ ih
    have hc : (nI i).toNatClampNeg = i := nI_clamp (by omega)
    refine br_f (nI_ge (b := 4) hi (by decide)) (qy_joined _ s hs hi ?_)
    rw [hc]
    exact ⟨vp_in_nI hi (by decide), nm_e ⟨vp_in_nI hi (by decide), vp_in_nI hi (by decide), vp_in_nI hi (by decide), nm_e ⟨vp_in_nI hi (by decide), nm_e (nm_r (nI_1 i) (ih (upd q i (b4 i ^^^ b3 i), upd f i (qb_jn s i), upd g i 0) ⟨qb_ul h1 rfl, qb_ul h2 rfl, qb_ul (g := fun _ => 0) h3 rfl⟩))⟩⟩⟩
theorem qb_PR_c {z y m : Nat → Int32} (hz : ∀ c, c < 4 → z c = y c) : ∀ i, i ≤ 128 → ∀ c, qb_PR z m i c = qb_PR y m i c := by
  intro i
  induction i with
  | zero => exact fun _ _ => rfl
  | succ i ih =>
    intro hi c
    have e : qb_tb z i = qb_tb y i := by unfold qb_tb; rw [hz (i / 32) (by omega)]
    by_cases b : qb_tb z i = 1
    · rw [qb_PRt z m b, qb_PRt y m (e ▸ b), ih (by omega)]
    · rw [qb_PRf z m b, qb_PRf y m (e ▸ b), ih (by omega)]
theorem qy_absorb (post : SY → Prop) {b1 b2 b3 b4 b5 b6 b7 b8 b9 : Nat → Int32} (hT : qb_Tab b1) (H : ∀ h a c q f g, (∀ k, k < 4 → h k = qb_PR (fun k => b4 k ^^^ b3 k) (qb_jn (qb_en b2 (qb_ld (fun _ => 0)) 10)) 128 k) → post (b1, b2, b3, h, a, c, q, f, g)) : wpY_absorb post (b1, b2, b3, b4, b5, b6, b7, b8, b9) := by
  unfold wpY_absorb
  dsimp only
  refine qy_lay _ (fun _ => 0) (fun a0 h0 => ?_)
  dsimp only
  refine qy_rounds _ hT _ h0 (fun a c h1 => ?_)
  dsimp only
  refine qy_ab14 _ _ h1 (fun q f g hq hf hg => ?_)
  exact qy_ab64 _ (fun k => b4 k ^^^ b3 k) _ hq hf hg (fun h f' g' hh => H h a c q f' g' hh)
end
section
theorem qb_uv {a b : Nat → Int32} (h : ∀ c, c < 4 → a c = b c) (i : Nat) {v w : Int32} (e : v = w) : ∀ c, c < 4 → upd a i v c = upd b i w c := by
  intro c hc
  by_cases z : c = i
  · subst z; rw [pk_us, pk_us, e]
  · rw [pk_un z, pk_un z]; exact h c hc
theorem qb_a3 (x : Int32) : ∃ j : Nat, j < 4 ∧ x &&& 3 = nI j := pk_andE x 2 (by decide)
theorem qb_rk (q : Int32) : (0 ≤ q - q / 11 * 11 ∧ ∃ j : Nat, j < 11 ∧ q - q / 11 * 11 = nI j) ∨ (¬ 0 ≤ q - q / 11 * 11 ∧ ∃ j : Nat, j < 11 ∧ q - q / 11 * 11 + 11 = nI j) := by
  have h := rem_toInt q 11
  have e11 : (11 : Int32).toInt = 11 := by decide
  have e0 : (0 : Int32).toInt = 0 := by decide
  have hb := tmod_bounds (a := q.toInt) (M := 11) (by decide)
  rw [e11] at h
  rw [← h] at hb
  generalize q - q / 11 * 11 = x at hb ⊢
  by_cases z : 0 ≤ x
  · refine Or.inl ⟨z, ?_⟩
    obtain ⟨j, hj, e⟩ := nI_of (x := x) (Int32.not_lt.mpr z)
    refine ⟨j, ?_, e⟩
    rw [e, nI_toInt hj] at hb
    omega
  · refine Or.inr ⟨z, ?_⟩
    have hn : x.toInt < 0 := by
      rw [Int32.le_iff_toInt_le, e0] at z
      omega
    have hs : (x + 11).toInt = x.toInt + 11 := by
      rw [Int32.toInt_add, e11]
      exact Int.bmod_eq_of_le (by omega) (by omega)
    have hp : ¬ x + 11 < 0 := by
      rw [Int32.lt_iff_toInt_lt, e0, hs]
      omega
    obtain ⟨j, hj, e⟩ := nI_of hp
    refine ⟨j, ?_, e⟩
    rw [e, nI_toInt hj] at hs
    omega
end
section
/-! ===== what is owed ===== -/
theorem qy_restart (post : SY → Prop) {b1 b2 b3 b4 b5 b6 b7 b8 b9 : Nat → Int32} (H : ∀ a, (∀ c, c < 4 → a c = 0) → post (b1, b2, b3, a, b5, b6, b7, b8, b9)) : wpY_restart post (b1, b2, b3, b4, b5, b6, b7, b8, b9) := by
  show ∃ n, wY_restart_2 post n 0 b1 b2 b3 b4 b5 b6 b7 b8 b9
  refine pk_loop (σ := Nat → Int32) (fun n i a => wY_restart_2 post n (nI i) b1 b2 b3 a b5 b6 b7 b8 b9) (fun i a => ∀ c, c < i → a c = 0) 4 0 b4 (by decide) (fun j h => absurd h (Nat.not_lt_zero j)) ?_ ?_
  · intro n a h1
    exact br_t (nI_le (a := 4) (b := 4) (Nat.le_refl 4) (by decide)) (H a h1)
  · intro n i a hi h1 ih
    have hc : (nI i).toNatClampNeg = i := nI_clamp (by omega)
    refine br_f (nI_ge (b := 4) hi (by decide)) ?_
    rw [hc]
    exact ⟨vp_in_nI hi (by decide), nm_e (nm_r (nI_1 i) (ih _ (qb_ul (g := fun _ => 0) h1 rfl)))⟩
def i_Rel (k : Nat) (u : SX) (v : SY) : Prop := qb_Tab u.1 ∧ (∀ x, x < 256 → u.2.1 x = nI (qb_OG x)) ∧ qb_Tab v.1 ∧ u.2.2.1 = v.2.1 ∧ (∀ c, c < 4 → u.2.2.2.1 c = v.2.2.1 c) ∧ (∀ c, c < 4 → u.2.2.2.2.1 c = v.2.2.2.1 c)
theorem i_up {k : Nat} {u : SX} {v : SY} (h : i_Rel k u v) : i_Rel (k + 5) u v := h
theorem i_vc0 : wpX_init (fun u => wpY_init (fun v => i_Rel 0 u v)) := by
  unfold wpX_init
  refine qx_fill _ (fun t q ht ho => ?_)
  dsimp only
  refine qx_ek _ ht ?_
  dsimp only
  refine qy_init _ (fun t' ht' => ?_)
  exact ⟨ht, ho, ht', rfl, fun _ _ => rfl, fun _ _ => rfl⟩
theorem i_vc_key {k : Nat} {u : SX} {v : SY} (I : i_Rel k u v) (hk : k + 5 ≤ 2560) (v1 : Int32) (v2 : Int32) (v3 : Int32) (v4 : Int32) : wpX_key (fun u' => wpY_key (fun v' => i_Rel (k + 5) u' v') v v1 v2 v3 v4) u v1 v2 v3 v4 := by
  obtain ⟨a1, a2, a3, a4, a5, a6, a7, a8, a9⟩ := u
  obtain ⟨b1, b2, b3, b4, b5, b6, b7, b8, b9⟩ := v
  obtain ⟨hT, hO, hY, he, hp, hh⟩ := I
  dsimp only at hT hO hY he hp hh
  subst he
  unfold wpX_key
  dsimp only
  refine nm_e (nm_e (nm_e (nm_e (qx_ek _ hT ?_))))
  dsimp only
  unfold wpY_key
  dsimp only
  refine nm_e (nm_e (nm_e (nm_e (qy_ek _ hY ?_))))
  exact ⟨hT, hO, hY, rfl, hp, hh⟩
theorem i_vc_block {k : Nat} {u : SX} {v : SY} (I : i_Rel k u v) (hk : k + 5 ≤ 2560) (v1 : Int32) (v2 : Int32) (v3 : Int32) (v4 : Int32) : wpX_block (fun u' => wpY_block (fun v' => i_Rel (k + 5) u' v') v v1 v2 v3 v4) u v1 v2 v3 v4 := by
  obtain ⟨a1, a2, a3, a4, a5, a6, a7, a8, a9⟩ := u
  obtain ⟨b1, b2, b3, b4, b5, b6, b7, b8, b9⟩ := v
  obtain ⟨hT, hO, hY, he, hp, hh⟩ := I
  dsimp only at hT hO hY he hp hh
  subst he
  unfold wpX_block
  dsimp only
  refine nm_e (nm_e (nm_e (nm_e ?_)))
  unfold wpY_block
  dsimp only
  refine nm_e (nm_e (nm_e (nm_e ?_)))
  exact ⟨hT, hO, hY, rfl, qb_uv (qb_uv (qb_uv (qb_uv hp 0 rfl) 1 rfl) 2 rfl) 3 rfl, hh⟩
theorem i_vc_mix {k : Nat} {u : SX} {v : SY} (I : i_Rel k u v) (hk : k + 5 ≤ 2560) (v1 : Int32) (v2 : Int32) (v3 : Int32) (v4 : Int32) : wpX_mix (fun u' => wpY_mix (fun v' => i_Rel (k + 5) u' v') v v1 v2 v3 v4) u v1 v2 v3 v4 := by
  obtain ⟨a1, a2, a3, a4, a5, a6, a7, a8, a9⟩ := u
  obtain ⟨b1, b2, b3, b4, b5, b6, b7, b8, b9⟩ := v
  obtain ⟨hT, hO, hY, he, hp, hh⟩ := I
  dsimp only at hT hO hY he hp hh
  subst he
  unfold wpX_mix
  dsimp only
  refine nm_e (nm_e (nm_e (nm_e ?_)))
  unfold wpY_mix
  dsimp only
  unfold wpY_block
  dsimp only
  refine nm_e (nm_e (nm_e (nm_e ?_)))
  refine ⟨hT, hO, hY, rfl, qb_uv (qb_uv (qb_uv (qb_uv hp 0 ?_) 1 ?_) 2 ?_) 3 ?_, hh⟩
  · rw [hp 0 (by decide)]
  · rw [pk_un (by decide), hp 1 (by decide)]
  · rw [pk_un (by decide), pk_un (by decide), hp 2 (by decide)]
  · rw [pk_un (by decide), pk_un (by decide), pk_un (by decide), hp 3 (by decide)]
theorem i_vc_encrypt {k : Nat} {u : SX} {v : SY} (I : i_Rel k u v) (hk : k + 5 ≤ 2560) : wpX_encrypt (fun u' => wpY_encrypt (fun v' => i_Rel (k + 5) u' v') v) u := by
  obtain ⟨a1, a2, a3, a4, a5, a6, a7, a8, a9⟩ := u
  obtain ⟨b1, b2, b3, b4, b5, b6, b7, b8, b9⟩ := v
  obtain ⟨hT, hO, hY, he, hp, hh⟩ := I
  dsimp only at hT hO hY he hp hh
  subst he
  unfold wpX_encrypt
  dsimp only
  refine qx_en_present _ hT b3 hp (fun p a c h => ?_)
  dsimp only
  refine qy_encrypt _ hY b3 (fun _ _ => rfl) (fun p' a' c' h' => ?_)
  exact ⟨hT, hO, hY, rfl, fun j hj => (h j hj).trans (h' j hj).symm, hh⟩
theorem i_vc_decrypt {k : Nat} {u : SX} {v : SY} (I : i_Rel k u v) (hk : k + 5 ≤ 2560) : wpX_decrypt (fun u' => wpY_decrypt (fun v' => i_Rel (k + 5) u' v') v) u := by
  obtain ⟨a1, a2, a3, a4, a5, a6, a7, a8, a9⟩ := u
  obtain ⟨b1, b2, b3, b4, b5, b6, b7, b8, b9⟩ := v
  obtain ⟨hT, hO, hY, he, hp, hh⟩ := I
  dsimp only at hT hO hY he hp hh
  subst he
  unfold wpX_decrypt
  dsimp only
  refine qx_de_present _ hO b3 hp (fun p a c h => ?_)
  dsimp only
  refine qy_decrypt _ hY b3 (fun _ _ => rfl) (fun p' a' c' h' => ?_)
  exact ⟨hT, hO, hY, rfl, fun j hj => (h j hj).trans (h' j hj).symm, hh⟩
theorem i_vc_next {k : Nat} {u : SX} {v : SY} (I : i_Rel k u v) (hk : k + 5 ≤ 2560) : wpX_next (fun u' => wpY_next (fun v' => i_Rel (k + 5) u' v') v) u := by
  obtain ⟨a1, a2, a3, a4, a5, a6, a7, a8, a9⟩ := u
  obtain ⟨b1, b2, b3, b4, b5, b6, b7, b8, b9⟩ := v
  obtain ⟨hT, hO, hY, he, hp, hh⟩ := I
  dsimp only at hT hO hY he hp hh
  subst he
  unfold wpX_next
  dsimp only
  refine nm_e ?_
  unfold wpY_next
  dsimp only
  refine nm_e ?_
  exact ⟨hT, hO, hY, rfl, qb_uv hp 3 (by rw [hp 3 (by decide)]), hh⟩
theorem i_vc_word {k : Nat} {u : SX} {v : SY} (I : i_Rel k u v) (hk : k + 5 ≤ 2560) (v1 : Int32) : wpX_word (fun r => wpY_word (fun r' => r' = r ∧ i_Rel (k + 5) u v) v v1) u v1 := by
  obtain ⟨a1, a2, a3, a4, a5, a6, a7, a8, a9⟩ := u
  obtain ⟨b1, b2, b3, b4, b5, b6, b7, b8, b9⟩ := v
  obtain ⟨hT, hO, hY, he, hp, hh⟩ := I
  dsimp only at hT hO hY he hp hh
  subst he
  obtain ⟨j, hj, e⟩ := qb_a3 v1
  have hc : (nI j).toNatClampNeg = j := nI_clamp (by omega)
  unfold wpX_word
  dsimp only
  unfold wpY_word
  dsimp only
  rw [e, hc]
  exact ⟨vp_in_nI hj (by decide), vp_in_nI hj (by decide), (hp j hj).symm, hT, hO, hY, rfl, hp, hh⟩
theorem i_vc_hash {k : Nat} {u : SX} {v : SY} (I : i_Rel k u v) (hk : k + 5 ≤ 2560) (v1 : Int32) : wpX_hash (fun r => wpY_hash (fun r' => r' = r ∧ i_Rel (k + 5) u v) v v1) u v1 := by
  obtain ⟨a1, a2, a3, a4, a5, a6, a7, a8, a9⟩ := u
  obtain ⟨b1, b2, b3, b4, b5, b6, b7, b8, b9⟩ := v
  obtain ⟨hT, hO, hY, he, hp, hh⟩ := I
  dsimp only at hT hO hY he hp hh
  subst he
  obtain ⟨j, hj, e⟩ := qb_a3 v1
  have hc : (nI j).toNatClampNeg = j := nI_clamp (by omega)
  unfold wpX_hash
  dsimp only
  unfold wpY_hash
  dsimp only
  rw [e, hc]
  exact ⟨vp_in_nI hj (by decide), vp_in_nI hj (by decide), (hh j hj).symm, hT, hO, hY, rfl, hp, hh⟩
theorem i_vc_absorb {k : Nat} {u : SX} {v : SY} (I : i_Rel k u v) (hk : k + 5 ≤ 2560) : wpX_absorb (fun u' => wpY_absorb (fun v' => i_Rel (k + 5) u' v') v) u := by
  obtain ⟨a1, a2, a3, a4, a5, a6, a7, a8, a9⟩ := u
  obtain ⟨b1, b2, b3, b4, b5, b6, b7, b8, b9⟩ := v
  obtain ⟨hT, hO, hY, he, hp, hh⟩ := I
  dsimp only at hT hO hY he hp hh
  subst he
  have hz : ∀ c, c < 4 → (fun k => a5 k ^^^ a4 k) c = (fun k => b4 k ^^^ b3 k) c := by
    intro c hc
    show a5 c ^^^ a4 c = b4 c ^^^ b3 c
    rw [hh c hc, hp c hc]
  refine qx_absorb _ hT (fun h a c f g hg => ?_)
  refine qy_absorb _ hY (fun h' a' c' q' f' g' hg' => ?_)
  exact ⟨hT, hO, hY, rfl, hp, fun j hj => ((hg j hj).trans (qb_PR_c hz 128 (Nat.le_refl 128) j)).trans (hg' j hj).symm⟩
theorem i_vc_restart {k : Nat} {u : SX} {v : SY} (I : i_Rel k u v) (hk : k + 5 ≤ 2560) : wpX_restart (fun u' => wpY_restart (fun v' => i_Rel (k + 5) u' v') v) u := by
  obtain ⟨a1, a2, a3, a4, a5, a6, a7, a8, a9⟩ := u
  obtain ⟨b1, b2, b3, b4, b5, b6, b7, b8, b9⟩ := v
  obtain ⟨hT, hO, hY, he, hp, hh⟩ := I
  dsimp only at hT hO hY he hp hh
  subst he
  unfold wpX_restart
  dsimp only
  refine qx_cl_hashed _ (fun h h1 => ?_)
  dsimp only
  refine qy_restart _ (fun h' h2 => ?_)
  exact ⟨hT, hO, hY, rfl, hp, fun j hj => (h1 j hj).trans (h2 j hj).symm⟩
theorem i_vc_roundKey {k : Nat} {u : SX} {v : SY} (I : i_Rel k u v) (hk : k + 5 ≤ 2560) (v1 : Int32) (v2 : Int32) : wpX_roundKey (fun r => wpY_roundKey (fun r' => r' = r ∧ i_Rel (k + 5) u v) v v1 v2) u v1 v2 := by
  obtain ⟨a1, a2, a3, a4, a5, a6, a7, a8, a9⟩ := u
  obtain ⟨b1, b2, b3, b4, b5, b6, b7, b8, b9⟩ := v
  obtain ⟨hT, hO, hY, he, hp, hh⟩ := I
  dsimp only at hT hO hY he hp hh
  subst he
  obtain ⟨l, hl, e⟩ := qb_a3 v2
  unfold wpX_roundKey
  dsimp only
  unfold wpY_roundKey
  dsimp only
  unfold wX_roundKey_12 wY_roundKey_12
  rw [e]
  rcases qb_rk v1 with ⟨z, j, hj, ej⟩ | ⟨z, j, hj, ej⟩
  · have e2 : (4 : Int32) * nI j + nI l = nI (4 * j + l) := (congrArg (· + nI l) (pk_mul 4 j)).trans (nI_add _ _)
    have hc : (nI (4 * j + l)).toNatClampNeg = 4 * j + l := nI_clamp (by omega)
    refine ⟨by decide, nm_e (br_t z ?_)⟩
    rw [ej, e2, hc]
    rw [ej] at z
    exact ⟨vp_in_nI (by omega) (by decide), by decide, nm_e (br_t z ⟨by rw [e2]; exact vp_in_nI (by omega) (by decide), by rw [e2, hc], hT, hO, hY, rfl, hp, hh⟩)⟩
  · have e2 : (4 : Int32) * nI j + nI l = nI (4 * j + l) := (congrArg (· + nI l) (pk_mul 4 j)).trans (nI_add _ _)
    have hc : (nI (4 * j + l)).toNatClampNeg = 4 * j + l := nI_clamp (by omega)
    refine ⟨by decide, nm_e (br_f z (nm_r ej ?_))⟩
    rw [e2, hc]
    refine ⟨vp_in_nI (by omega) (by decide), by decide, nm_e (br_f z (nm_r ej ?_))⟩
    rw [e2, hc]
    exact ⟨vp_in_nI (by omega) (by decide), rfl, hT, hO, hY, rfl, hp, hh⟩
end
