theorem sr_d10 {a : Nat} (h : a < 2 ^ 31) : nI a / 10 = nI (a / 10) := pk_div h (by decide) (by decide)
theorem sr_d100 {a : Nat} (h : a < 2 ^ 31) : nI a / 100 = nI (a / 100) := pk_div h (by decide) (by decide)
theorem sr_d200 {a : Nat} (h : a < 2 ^ 31) : nI a / 200 = nI (a / 200) := pk_div h (by decide) (by decide)
theorem sr_d2 {a : Nat} (h : a < 2 ^ 31) : nI a / 2 = nI (a / 2) := pk_div h (by decide) (by decide)
theorem sr_d6 {a : Nat} (h : a < 2 ^ 31) : nI a / 6 = nI (a / 6) := pk_div h (by decide) (by decide)
theorem sr_d8 {a : Nat} (h : a < 2 ^ 31) : nI a / 8 = nI (a / 8) := pk_div h (by decide) (by decide)
theorem sr_r10 {a : Nat} (h : a < 2 ^ 31) : nI a - nI a / 10 * 10 = nI (a % 10) := pk_rem h (by decide) (by decide)
theorem sr_r6 {a : Nat} (h : a < 2 ^ 31) : nI a - nI a / 6 * 6 = nI (a % 6) := pk_rem h (by decide) (by decide)
theorem sr_r8 {a : Nat} (h : a < 2 ^ 31) : nI a - nI a / 8 * 8 = nI (a % 8) := pk_rem h (by decide) (by decide)
theorem sr_r36 {a : Nat} (h : a < 2 ^ 31) : nI a - nI a / 36 * 36 = nI (a % 36) := pk_rem h (by decide) (by decide)
theorem sr_m3 (a : Nat) : 3 * nI a = nI (3 * a) := pk_mul 3 a
theorem sr_m6 (a : Nat) : 6 * nI a = nI (6 * a) := pk_mul 6 a
theorem sr_m36 (a : Nat) : 36 * nI a = nI (36 * a) := pk_mul 36 a
theorem sr_mx6 (a : Nat) : nI a * 6 = nI (a * 6) := pk_mul a 6
theorem sr_a3 (a : Nat) : nI a + 3 = nI (a + 3) := nI_add a 3
theorem sr_t1 {a : Nat} (h : a < 800) : nI a / 10 - nI a / 10 / 10 * 10 = nI (a / 10 % 10) := by
  rw [sr_d10 (by omega)]; exact sr_r10 (by omega)
theorem sr_t2 {a : Nat} (h : a < 800) : nI a - nI a / 10 * 10 = nI (a % 10) := sr_r10 (by omega)
theorem sr_or (a b : Nat) : nI a ||| nI b = nI (a ||| b) := by
  apply Int32.toBitVec_inj.1
  show BitVec.ofNat 32 a ||| BitVec.ofNat 32 b = BitVec.ofNat 32 (a ||| b)
  apply BitVec.eq_of_getLsbD_eq
  intro i hi
  simp [hi]
theorem sr_sh : ∀ t, t < 4 → (1 : Int32) <<< (nI t &&& 31) = nI (2 ^ t) := by decide +kernel
theorem sr_tb : ∀ m, m < 16 → ∀ v, v < 4 → ((((nI m >>> (nI v &&& 31)) &&& 1) = 1) ↔ m.testBit v = true) := by decide +kernel
theorem sr_nd : ∀ a, a < 16 → ∀ b, b < 16 → ((nI a &&& (nI b ^^^ (-1))) = 0 ↔ a ||| b = b) := by decide +kernel
def sr_gd (n : Nat) (x : Int32) : Prop := ∃ j, j < n ∧ x = nI j
theorem sr_gd_i {n : Nat} {x : Int32} (hn : n < 2 ^ 31) (h0 : ¬ x < 0) (h1 : x < nI n) : sr_gd n x := by
  rcases pk_ix x hn with h | h | h
  · exact absurd h h0
  · exact absurd h1 (Int32.not_lt.mpr h)
  · exact h
theorem sr_gd_0 {n : Nat} {x : Int32} (hn : n < 2 ^ 31) (h : sr_gd n x) : ¬ x < 0 := by
  obtain ⟨j, hj, rfl⟩ := h
  exact nI_pos (by omega)
theorem sr_gd_1 {n : Nat} {x : Int32} (hn : n < 2 ^ 31) (h : sr_gd n x) : x < nI n := by
  obtain ⟨j, hj, rfl⟩ := h
  exact nI_lt hj hn
theorem sr_gd_n {n : Nat} {x : Int32} (hn : n < 2 ^ 31) (h : ¬ sr_gd n x) (h0 : ¬ x < 0) : ¬ x < nI n := fun z => h (sr_gd_i hn h0 z)
def sr_st (S : Nat → Bool) (p : Nat) (b : Bool) : Nat → Bool := fun q => if q = p then b else S q
theorem sr_by_s {a : Nat → Int32} {S : Nat → Bool} (h : sr_by a S) (p : Nat) (b : Bool) : sr_by (upd a p (sr_bI b)) (sr_st S p b) := by
  intro q hq
  unfold sr_st
  by_cases z : q = p
  · subst z; rw [pk_us, if_pos rfl]
  · rw [pk_un z, if_neg z]; exact h q hq
theorem sr_bx_s {a : Nat → Int64} {S : Nat → Bool} (h : sr_bx a S) {r f : Nat} (hr : r < 8) (hf : f < 36) : sr_bx (vp_updL a r (a r ||| (1 : Int64) <<< ((nI f).toInt64 &&& 63))) (sr_st S (36 * r + f) true) := by
  intro r' hr' f' hf'
  unfold sr_st
  by_cases z : r' = r
  · subst z
    rw [pk_uLs, sr_lb_or, sr_lb_1 (by omega) hf', h r' hr' f' hf']
    by_cases y : f = f'
    · subst y; simp [hf]
    · rw [if_neg (by omega), decide_eq_false y, Bool.or_false]
  · rw [pk_uLn z, h r' hr' f' hf']
    by_cases y : f' < 36
    · rw [if_neg (by omega)]
    · rw [decide_eq_false y, Bool.false_and, Bool.false_and]
theorem sr_bx_c {a : Nat → Int64} {S : Nat → Bool} (h : sr_bx a S) {r f : Nat} (hr : r < 8) (hf : f < 36) : sr_bx (vp_updL a r (a r &&& (((1 : Int64) <<< ((nI f).toInt64 &&& 63)) ^^^ (-1)))) (sr_st S (36 * r + f) false) := by
  intro r' hr' f' hf'
  unfold sr_st
  by_cases z : r' = r
  · subst z
    rw [pk_uLs, sr_lb_and, sr_lb_not hf', sr_lb_1 (by omega) hf', h r' hr' f' hf']
    by_cases y : f = f'
    · subst y; simp [hf]
    · rw [if_neg (by omega), decide_eq_false y, Bool.not_false, Bool.and_true]
  · rw [pk_uLn z, h r' hr' f' hf']
    by_cases y : f' < 36
    · rw [if_neg (by omega)]
    · rw [decide_eq_false y, Bool.false_and, Bool.false_and]
def sr_po (A : Nat → Nat) (N : Nat → Bool) (b : Bool) (i0 : Nat) : Nat → Nat
  | 0 => i0
  | n + 1 => if N n = b then sr_po A N b i0 n ||| sr_vs (A n) else sr_po A N b i0 n
theorem sr_po_lt {A : Nat → Nat} {N : Nat → Bool} {b : Bool} {i0 : Nat} (h : i0 < 16) : ∀ n, sr_po A N b i0 n < 16
  | 0 => h
  | n + 1 => by
    have x := sr_po_lt (A := A) (N := N) (b := b) h n
    simp only [sr_po]
    split
    · exact Nat.or_lt_two_pow (n := 4) x (sr_vs_lt _)
    · exact x
theorem sr_po_i (A : Nat → Nat) (N : Nat → Bool) (b : Bool) (i0 : Nat) : ∀ n, sr_po A N b i0 n = sr_po A N b 0 n ||| i0
  | 0 => by simp [sr_po]
  | n + 1 => by
    have x := sr_po_i A N b i0 n
    simp only [sr_po]
    split
    · rw [x]
      apply Nat.eq_of_testBit_eq
      intro t
      simp only [Nat.testBit_or]
      cases (sr_po A N b 0 n).testBit t <;> cases i0.testBit t <;> simp
    · exact x
theorem sr_po_m (A : Nat → Nat) (N : Nat → Bool) (i0 : Nat) : ∀ n, sr_mo (fun i => sr_vs (A i)) i0 n = sr_po A N true i0 n ||| sr_po A N false 0 n
  | 0 => by simp [sr_po, sr_mo]
  | n + 1 => by
    have x := sr_po_m A N i0 n
    simp only [sr_po, sr_mo]
    rw [x]
    cases N n with
    | true =>
      rw [if_pos rfl, if_neg (by decide)]
      apply Nat.eq_of_testBit_eq
      intro t
      simp only [Nat.testBit_or]
      cases (sr_po A N true i0 n).testBit t <;> cases (sr_po A N false 0 n).testBit t <;> simp
    | false =>
      rw [if_neg (by decide), if_pos rfl, Nat.or_assoc]
def sr_fit (hd : Nat) (A : Nat → Nat) (N : Nat → Bool) (d : Nat) : Prop := ∀ i, i < d → A i / 200 ≤ hd / 200 ∧ (N i = true → A i / 200 < hd / 200)
def sr_ch (G : Nat → Bool) (r x s : Nat) : Nat → Nat → Bool
  | 0 => G
  | i + 1 => sr_st (sr_ch G r x s i) (36 * r + (6 * ((x + i) % 6) + (x + i + s) % 6)) true
