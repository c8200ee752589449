def sr_bI (b : Bool) : Int32 := if b = true then 1 else 0
theorem sr_bI_t : sr_bI true = 1 := rfl
theorem sr_bI_f : sr_bI false = 0 := rfl
theorem sr_bI_n (b : Bool) : sr_bI b = nI (if b = true then 1 else 0) := by cases b <;> rfl
theorem sr_bI_i {a b : Bool} : sr_bI a = sr_bI b ↔ a = b := by cases a <;> cases b <;> decide
theorem sr_bI_0 {b : Bool} : sr_bI b = 0 ↔ b = false := by cases b <;> decide
theorem sr_bI_1 {b : Bool} : sr_bI b = 1 ↔ b = true := by cases b <;> decide
theorem sr_nar (b : Bool) : vp_nar .boolean (sr_bI b) = sr_bI b := by cases b <;> decide
theorem sr_nrw (b : Bool) : narrow .boolean (.int (sr_bI b)) = .int (sr_bI b) := by cases b <;> rfl
def sr_lb (w : Int64) (f : Nat) : Bool := w.toBitVec.getLsbD f
theorem sr_lb_x {v w : Int64} (h : ∀ f, f < 64 → sr_lb v f = sr_lb w f) : v = w := wb_inj (BitVec.eq_of_getLsbD_eq (fun i hi => h i hi))
theorem sr_lb_or (v w : Int64) (f : Nat) : sr_lb (v ||| w) f = (sr_lb v f || sr_lb w f) := by unfold sr_lb; rw [Int64.toBitVec_or, BitVec.getLsbD_or]
theorem sr_lb_and (v w : Int64) (f : Nat) : sr_lb (v &&& w) f = (sr_lb v f && sr_lb w f) := by unfold sr_lb; rw [Int64.toBitVec_and, BitVec.getLsbD_and]
theorem sr_lb_xor (v w : Int64) (f : Nat) : sr_lb (v ^^^ w) f = (sr_lb v f ^^ sr_lb w f) := by unfold sr_lb; rw [Int64.toBitVec_xor, BitVec.getLsbD_xor]
theorem sr_lb_0 (f : Nat) : sr_lb 0 f = false := BitVec.getLsbD_zero
theorem sr_lb_m1 : ∀ f, f < 64 → sr_lb (-1) f = true := by decide +kernel
theorem sr_lb_N {n f : Nat} (hf : f < 64) : sr_lb (lN n) f = n.testBit f := by
  show (BitVec.ofNat 64 n).getLsbD f = _
  rw [BitVec.getLsbD_ofNat, decide_eq_true hf, Bool.true_and]
theorem sr_lb_1 {k f : Nat} (hk : k < 64) (hf : f < 64) : sr_lb ((1 : Int64) <<< ((nI k).toInt64 &&& 63)) f = decide (k = f) := by
  have e : (1 : Int64) <<< ((nI k).toInt64 &&& 63) = lN (1 * 2 ^ k) := wb_shl 1 hk
  rw [e, sr_lb_N hf, Nat.one_mul, Nat.testBit_two_pow]
theorem sr_lb_not {w : Int64} {f : Nat} (hf : f < 64) : sr_lb (w ^^^ (-1)) f = !sr_lb w f := by
  rw [sr_lb_xor, sr_lb_m1 f hf, Bool.xor_true]
theorem sr_lb_z {w : Int64} : w = 0 ↔ ∀ f, f < 64 → sr_lb w f = false := by
  constructor
  · intro h f _; rw [h, sr_lb_0]
  · intro h; exact sr_lb_x fun f hf => by rw [h f hf, sr_lb_0]
theorem sr_mb (w : Int64) {f : Nat} (hf : f < 64) : (((w.toUInt64 >>> ((nI f).toInt64.toUInt64 &&& Int64.toUInt64 63)).toInt64) &&& 1).toInt32 = sr_bI (sr_lb w f) := by
  obtain ⟨n, hn, rfl⟩ := wb_of w
  rw [wb_bit hn hf, lN_i, sr_lb_N hf, Nat.testBit_eq_decide_div_mod_eq]
  have h : n / 2 ^ f % 2 < 2 := Nat.mod_lt _ (by decide)
  generalize n / 2 ^ f % 2 = m at h
  exact (by decide : ∀ m, m < 2 → nI m = sr_bI (decide (m = 1))) m h
def sr_bx (a : Nat → Int64) (S : Nat → Bool) : Prop := ∀ r, r < 8 → ∀ f, f < 64 → sr_lb (a r) f = (decide (f < 36) && S (36 * r + f))
def sr_by (a : Nat → Int32) (S : Nat → Bool) : Prop := ∀ p, p < 288 → a p = sr_bI (S p)
theorem sr_bx_l {a : Nat → Int64} {S : Nat → Bool} (h : sr_bx a S) {r f : Nat} (hr : r < 8) (hf : f < 36) : sr_lb (a r) f = S (36 * r + f) := by
  rw [h r hr f (by omega), decide_eq_true hf, Bool.true_and]
theorem sr_bx_b {a : Nat → Int64} {S : Nat → Bool} (h : sr_bx a S) {r f : Nat} (hr : r < 8) (hf : 36 ≤ f) (h2 : f < 64) : sr_lb (a r) f = false := by
  rw [h r hr f h2, decide_eq_false (by omega), Bool.false_and]
