/-! ===== bytes: doubling, product, tables ===== -/
def qb_tw (d : Nat) : Nat := Nat.xor (Nat.mul 2 d) (Nat.mul (Nat.mod (Nat.shiftRight d 7) 2) 283)
theorem qb_tw_e (d : Nat) : qb_tw d = (2 * d) ^^^ ((d >>> 7) % 2 * 283) := rfl
theorem qb_xl (a b : Nat) : a ^^^ (a ^^^ b) = b := by rw [← Nat.xor_assoc, Nat.xor_self, Nat.zero_xor]
theorem qb_xc (a b c : Nat) : a ^^^ (b ^^^ c) = b ^^^ (a ^^^ c) := by rw [← Nat.xor_assoc, Nat.xor_comm a b, Nat.xor_assoc]
theorem qb_tw_l (a b : Nat) : qb_tw (a ^^^ b) = qb_tw a ^^^ qb_tw b := by
  have h1 : 2 * (a ^^^ b) = (2 * a) ^^^ (2 * b) := by
    have h : (a ^^^ b) <<< 1 = a <<< 1 ^^^ b <<< 1 := Nat.shiftLeft_xor_distrib
    rw [Nat.shiftLeft_eq, Nat.shiftLeft_eq, Nat.shiftLeft_eq, Nat.pow_one] at h
    rw [Nat.mul_comm 2, Nat.mul_comm 2 a, Nat.mul_comm 2 b]
    exact h
  have h2 : ((a ^^^ b) >>> 7) % 2 = ((a >>> 7) % 2) ^^^ ((b >>> 7) % 2) := by
    rw [Nat.shiftRight_xor_distrib]
    exact Nat.xor_mod_two_pow (n := 1)
  have h3 : ∀ p, p < 2 → ∀ q, q < 2 → (p ^^^ q) * 283 = (p * 283) ^^^ (q * 283) := by decide +kernel
  rw [qb_tw_e, qb_tw_e a, qb_tw_e b, h1, h2, h3 _ (Nat.mod_lt _ (by decide)) _ (Nat.mod_lt _ (by decide))]
  generalize (a >>> 7) % 2 * 283 = p
  generalize (b >>> 7) % 2 * 283 = q
  generalize 2 * a = x
  generalize 2 * b = y
  rw [Nat.xor_assoc, Nat.xor_assoc, qb_xc y p q]
def qb_dk (x : Nat) : Nat → Nat
  | 0 => x
  | k + 1 => qb_tw (qb_dk x k)
def qb_ps (x y : Nat) : Nat → Nat
  | 0 => 0
  | k + 1 => Nat.xor (qb_ps x y k) (Nat.mul (Nat.mod (Nat.shiftRight y k) 2) (qb_dk x k))
def qb_tm (x y : Nat) : Nat := Nat.xor (Nat.xor (Nat.xor (Nat.xor (Nat.xor (Nat.xor (Nat.xor (Nat.xor 0 (Nat.mul (Nat.mod (Nat.shiftRight y 0) 2) x)) (Nat.mul (Nat.mod (Nat.shiftRight y 1) 2) (qb_tw x))) (Nat.mul (Nat.mod (Nat.shiftRight y 2) 2) (qb_tw (qb_tw x)))) (Nat.mul (Nat.mod (Nat.shiftRight y 3) 2) (qb_tw (qb_tw (qb_tw x))))) (Nat.mul (Nat.mod (Nat.shiftRight y 4) 2) (qb_tw (qb_tw (qb_tw (qb_tw x)))))) (Nat.mul (Nat.mod (Nat.shiftRight y 5) 2) (qb_tw (qb_tw (qb_tw (qb_tw (qb_tw x))))))) (Nat.mul (Nat.mod (Nat.shiftRight y 6) 2) (qb_tw (qb_tw (qb_tw (qb_tw (qb_tw (qb_tw x)))))))) (Nat.mul (Nat.mod (Nat.shiftRight y 7) 2) (qb_tw (qb_tw (qb_tw (qb_tw (qb_tw (qb_tw (qb_tw x))))))))
theorem qb_tm_e (x y : Nat) : qb_tm x y = qb_ps x y 8 := rfl
theorem qb_tw_lt : ∀ d, d < 256 → qb_tw d < 256 := by decide +kernel
theorem qb_tw_j : ∀ d, d < 256 → (255 < 2 * d → qb_tw d = (2 * d) ^^^ 283) ∧ (¬ 255 < 2 * d → qb_tw d = 2 * d) := by decide +kernel
theorem qb_dk_lt {x : Nat} (hx : x < 256) (k : Nat) : qb_dk x k < 256 := by
  induction k with
  | zero => exact hx
  | succ k ih => exact qb_tw_lt _ ih
theorem qb_ps_s (x y k : Nat) : qb_ps x y (k + 1) = qb_ps x y k ^^^ ((y >>> k) % 2 * qb_dk x k) := rfl
theorem qb_ps_lt {x : Nat} (hx : x < 256) (y k : Nat) : qb_ps x y k < 256 := by
  induction k with
  | zero => exact (by decide : (0 : Nat) < 256)
  | succ k ih =>
    rw [qb_ps_s]
    have h3 := qb_dk_lt hx k
    have h2 : (y >>> k) % 2 * qb_dk x k < 256 := by
      rcases Nat.mod_two_eq_zero_or_one (y >>> k) with e | e
      · rw [e]; omega
      · rw [e]; omega
    exact Nat.xor_lt_two_pow (n := 8) ih h2
theorem qb_tm_lt {x : Nat} (hx : x < 256) (y : Nat) : qb_tm x y < 256 := by
  rw [qb_tm_e]; exact qb_ps_lt hx y 8
theorem qb_x2 : ∀ b, b < 256 → qb_tm b 2 = qb_tw b := by decide +kernel
theorem qb_y2 : ∀ b, b < 256 → qb_tm 2 b = qb_tw b := by decide +kernel
theorem qb_x3 : ∀ b, b < 256 → qb_tm b 3 = qb_tw b ^^^ b := by decide +kernel
theorem qb_y3 : ∀ b, b < 256 → qb_tm 3 b = qb_tw b ^^^ b := by decide +kernel
theorem qb_x1 : ∀ b, b < 256 → qb_tm b 1 = b := by decide +kernel
theorem qb_x14 : ∀ b, b < 256 → qb_tm b 14 = qb_tw (qb_tw (qb_tw b)) ^^^ qb_tw (qb_tw b) ^^^ qb_tw b := by decide +kernel
theorem qb_x11 : ∀ b, b < 256 → qb_tm b 11 = qb_tw (qb_tw (qb_tw b)) ^^^ qb_tw b ^^^ b := by decide +kernel
theorem qb_x13 : ∀ b, b < 256 → qb_tm b 13 = qb_tw (qb_tw (qb_tw b)) ^^^ qb_tw (qb_tw b) ^^^ b := by decide +kernel
theorem qb_x9 : ∀ b, b < 256 → qb_tm b 9 = qb_tw (qb_tw (qb_tw b)) ^^^ b := by decide +kernel
/-! the tables: substitution, its inverse, the inverse bytes -/
def qb_SB (x : Nat) : Nat := Nat.mod (Nat.shiftRight 0x16bb54b00f2d99416842e6bf0d89a18cdf2855cee9871e9b948ed9691198f8e19e1dc186b95735610ef6034866b53e708a8bbd4b1f74dde8c6b4a61c2e2578ba08ae7a65eaf4566ca94ed58d6d37c8e779e4959162acd3c25c2406490a3a32e0db0b5ede14b8ee4688902a22dc4f816073195d643d7ea7c41744975fec130ccdd2f3ff1021dab6bcf5389d928f40a351a89f3c507f02f94585334d43fbaaefd0cf584c4a39becb6a5bb1fc20ed00d153842fe329b3d63b52a05a6e1b1a2c830975b227ebe28012079a059618c323c7041531d871f1e5a534ccf73f362693fdb7c072a49cafa2d4adf04759fa7dc982ca76abd7fe2b670130c56f6bf27b777c63 (Nat.mul 8 x)) 256
def qb_OG (x : Nat) : Nat := Nat.mod (Nat.shiftRight 0x7d0c2155631469e126d677ba7e042b17619953833cbbebc8b0f52aae4d3be0a0ef9cc9939f7ae52d0d4ab519a97f51605fec8027591012b131c7078833a8dd1ff45acd78fec0db9a2079d2c64b3e56fc1bbe18aa0e62b76f89c5291d711af1476edf751ce837f9e28535ade72274ac9673e6b4f0cecff297eadc674f4111913a6b8a130103bdafc1020f3fca8f1e2cd00645b3b80558e4f70ad3bc8c00abd890849d8da75746155edab9edfd5048706c92b6655dcc5ca4d41698688664f6f87225d18b6d49a25b76b224d92866a12e084ec3fa420b954cee3d23c2a632947b54cbe9dec444438e3487ff2f9b8239e37cfbd7f3819ea340bf38a53630d56a0952 (Nat.mul 8 x)) 256
def qb_IV (x : Nat) : Nat := Nat.mod (Nat.shiftRight 0x1c411acda07d9cdd8c0346683438235bb31e505de3d74e08adcf0ec6ebd60db16b90f89dd5c48b94eae2dbc563ae077ae6acfc1b045327a90fe4d4daa32f280b5786bcbd3d768ea571787511ef1fe00c62d2e7ce4a12c8264865b88fc32e7cfb9a89dcf9889f142a72848ad86d326adea4b902f7d9959e9b56be7396807f7e838281faa106d070b63cbab5108597b7793b219333df9147f44336a649d3af5e161761ec51f0223e18bf87244cca055ced09e9255413ab64a769f5312d6737fe1d1959bb776f2035f2426639f36c92452cc2a2443015980ac1c9a84d55f15a6e3ab2ee40ffccfd3f585f602b994baab474c7e5e1b0c0294fe8d17b52cbf68d0100 (Nat.mul 8 x)) 256
theorem qb_SB_lt (x : Nat) : qb_SB x < 256 := Nat.mod_lt _ (by decide)
theorem qb_OG_lt (x : Nat) : qb_OG x < 256 := Nat.mod_lt _ (by decide)
theorem qb_IV_lt (x : Nat) : qb_IV x < 256 := Nat.mod_lt _ (by decide)
theorem qb_SO : ∀ x, x < 256 → qb_SB (qb_OG x) = x := by decide +kernel
theorem qb_OS : ∀ x, x < 256 → qb_OG (qb_SB x) = x := by decide +kernel
def qb_pw (x : Nat) : Nat → Nat
  | 0 => 1
  | k + 1 => qb_tm (qb_tm (qb_pw x k) (qb_pw x k)) x
theorem qb_pw_lt (x : Nat) (k : Nat) : qb_pw x k < 256 := by
  induction k with
  | zero => exact (by decide : (1 : Nat) < 256)
  | succ k ih => exact qb_tm_lt (qb_tm_lt ih _) _
theorem qb_iv : ∀ x, x < 256 → qb_tm (qb_pw x 7) (qb_pw x 7) = qb_IV x := by decide +kernel
/-- the reference's scan: fuel n + 1 stands at 255 - n -/
def qb_sc (x : Nat) : Nat → Nat
  | 0 => 0
  | n + 1 => cond (Nat.beq (qb_tm x (Nat.sub 255 n)) 1) (Nat.sub 255 n) (qb_sc x n)
theorem qb_sc0 : ∀ x, x < 32 → qb_sc (Nat.add 0 x) 255 = qb_IV (Nat.add 0 x) := by decide +kernel
theorem qb_sc1 : ∀ x, x < 32 → qb_sc (Nat.add 32 x) 255 = qb_IV (Nat.add 32 x) := by decide +kernel
theorem qb_sc2 : ∀ x, x < 32 → qb_sc (Nat.add 64 x) 255 = qb_IV (Nat.add 64 x) := by decide +kernel
theorem qb_sc3 : ∀ x, x < 32 → qb_sc (Nat.add 96 x) 255 = qb_IV (Nat.add 96 x) := by decide +kernel
theorem qb_sc4 : ∀ x, x < 32 → qb_sc (Nat.add 128 x) 255 = qb_IV (Nat.add 128 x) := by decide +kernel
theorem qb_sc5 : ∀ x, x < 32 → qb_sc (Nat.add 160 x) 255 = qb_IV (Nat.add 160 x) := by decide +kernel
theorem qb_sc6 : ∀ x, x < 32 → qb_sc (Nat.add 192 x) 255 = qb_IV (Nat.add 192 x) := by decide +kernel
theorem qb_sc7 : ∀ x, x < 32 → qb_sc (Nat.add 224 x) 255 = qb_IV (Nat.add 224 x) := by decide +kernel
theorem qb_scI (x : Nat) (hx : x < 256) : qb_sc x 255 = qb_IV x := by
  rcases (by omega : x = 0 + (x - 0) ∧ x - 0 < 32 ∨ x = 32 + (x - 32) ∧ x - 32 < 32 ∨ x = 64 + (x - 64) ∧ x - 64 < 32 ∨ x = 96 + (x - 96) ∧ x - 96 < 32 ∨ x = 128 + (x - 128) ∧ x - 128 < 32 ∨ x = 160 + (x - 160) ∧ x - 160 < 32 ∨ x = 192 + (x - 192) ∧ x - 192 < 32 ∨ x = 224 + (x - 224) ∧ x - 224 < 32) with ⟨e, h⟩ | ⟨e, h⟩ | ⟨e, h⟩ | ⟨e, h⟩ | ⟨e, h⟩ | ⟨e, h⟩ | ⟨e, h⟩ | ⟨e, h⟩
  · rw [e]; exact qb_sc0 _ h
  · rw [e]; exact qb_sc1 _ h
  · rw [e]; exact qb_sc2 _ h
  · rw [e]; exact qb_sc3 _ h
  · rw [e]; exact qb_sc4 _ h
  · rw [e]; exact qb_sc5 _ h
  · rw [e]; exact qb_sc6 _ h
  · rw [e]; exact qb_sc7 _ h
