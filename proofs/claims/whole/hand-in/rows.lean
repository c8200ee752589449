section
theorem pk_us {f : Nat → Int32} {k : Nat} {x : Int32} : upd f k x k = x := if_pos rfl
theorem pk_un {f : Nat → Int32} {k j : Nat} {x : Int32} (h : j ≠ k) : upd f k x j = f j := if_neg h
theorem pk_uLs {f : Nat → Int64} {k : Nat} {x : Int64} : vp_updL f k x k = x := if_pos rfl
theorem pk_uLn {f : Nat → Int64} {k j : Nat} {x : Int64} (h : j ≠ k) : vp_updL f k x j = f j := if_neg h
theorem pk_sub {a b : Nat} (h : b ≤ a) : nI a - nI b = nI (a - b) := by
  obtain ⟨c, rfl⟩ : ∃ c, a = c + b := ⟨a - b, by omega⟩
  rw [← nI_add, Int32.add_sub_cancel, Nat.add_sub_cancel]
theorem pk_m1 (n : Nat) : nI (n + 1) + (-1) = nI n := by
  rw [← nI_1, Int32.add_assoc, show (1 : Int32) + (-1) = 0 from rfl, Int32.add_zero]
theorem pk_mul (a b : Nat) : nI a * nI b = nI (a * b) := (Int32.ofNat_mul a b).symm
theorem pk_div {a d : Nat} (ha : a < 2 ^ 31) (h0 : 0 < d) (hd : d < 2 ^ 31) : nI a / nI d = nI (a / d) := by
  apply Int32.toInt_inj.mp
  rw [lg_idiv_nonneg (by rw [nI_toInt ha]; omega) (by rw [nI_toInt hd]; omega), nI_toInt ha, nI_toInt hd, nI_toInt (Nat.lt_of_le_of_lt (Nat.div_le_self a d) ha)]
  first | rfl | exact (Int.natCast_ediv _ _).symm
theorem pk_rem {a d : Nat} (ha : a < 2 ^ 31) (h0 : 0 < d) (hd : d < 2 ^ 31) : nI a - nI a / nI d * nI d = nI (a % d) := by
  rw [pk_div ha h0 hd, pk_mul, pk_sub (Nat.div_mul_le_self a d)]
  exact congrArg nI (by have := Nat.div_add_mod' a d; omega)
theorem pk_ix (x : Int32) {n : Nat} (hn : n < 2 ^ 31) : x < 0 ∨ nI n ≤ x ∨ ∃ j : Nat, j < n ∧ x = nI j := by
  by_cases h : x < 0
  · exact Or.inl h
  · obtain ⟨j, hj, rfl⟩ := nI_of h
    by_cases h2 : j < n
    · exact Or.inr (Or.inr ⟨j, h2, rfl⟩)
    · exact Or.inr (Or.inl (nI_le (by omega) hj))
theorem pk_le {x y : Int32} {A B : Prop} (a b : Nat) (f : a ≤ b → A) (g : b < a → B) (hx : x = nI a := by rfl) (hy : y = nI b := by rfl) (ha : a < 2 ^ 31 := by omega) (hb : b < 2 ^ 31 := by omega) : (x ≤ y → A) ∧ (¬ x ≤ y → B) := by
  subst hx hy
  rw [nI_leI ha hb]
  exact ⟨f, fun z => g (by omega)⟩
theorem pk_lt {x y : Int32} {A B : Prop} (a b : Nat) (f : a < b → A) (g : b ≤ a → B) (hx : x = nI a := by rfl) (hy : y = nI b := by rfl) (ha : a < 2 ^ 31 := by omega) (hb : b < 2 ^ 31 := by omega) : (x < y → A) ∧ (¬ x < y → B) := by
  subst hx hy
  rw [nI_ltI ha hb]
  exact ⟨f, fun z => g (by omega)⟩
theorem pk_eq {x y : Int32} {A B : Prop} (a b : Nat) (f : a = b → A) (g : a ≠ b → B) (hx : x = nI a := by rfl) (hy : y = nI b := by rfl) (ha : a < 2 ^ 31 := by omega) (hb : b < 2 ^ 31 := by omega) : (x = y → A) ∧ (¬ x = y → B) := by
  subst hx hy
  rw [nI_eq ha hb]
  exact ⟨f, g⟩
theorem pk_in {x : Int32} (n N : Nat) (h : n < N) (hx : x = nI n := by rfl) (hN : N < 2 ^ 31 := by omega) : vp_in x N := by
  subst hx
  exact vp_in_nI h hN
theorem pk_cl {x : Int32} (n : Nat) (hx : x = nI n := by rfl) (h : n < 2 ^ 31 := by omega) : x.toNatClampNeg = n := by
  subst hx
  exact nI_clamp h
theorem pk_tn {n : Nat} (h : n < 2 ^ 32) : (nI n).toBitVec.toNat = n := Nat.mod_eq_of_lt h
theorem pk_loop {σ : Type} (W : Nat → Nat → σ → Prop) (I : Nat → σ → Prop) (e i0 : Nat) (s : σ) (hi : i0 ≤ e) (h0 : I i0 s) (hx : ∀ n s, I e s → W (n + 1) e s)
    (hs : ∀ n i s, i < e → I i s → (∀ s', I (i + 1) s' → W n (i + 1) s') → W (n + 1) i s) : ∃ n, W n i0 s :=
  ⟨e + 1, loop_i W I e hx hs (e + 1) i0 s hi (by omega) h0⟩
theorem wb_tb (n : Nat) : (lN n).toBitVec = BitVec.ofNat 64 n := rfl
theorem wb_inj {a b : Int64} (h : a.toBitVec = b.toBitVec) : a = b := Int64.toBitVec_inj.mp h
theorem wb_tn {n : Nat} (h : n < 2 ^ 64) : (lN n).toBitVec.toNat = n := by rw [wb_tb, BitVec.toNat_ofNat, Nat.mod_eq_of_lt h]
theorem wb_of (x : Int64) : ∃ n, n < 2 ^ 64 ∧ x = lN n := ⟨x.toBitVec.toNat, x.toBitVec.isLt, wb_inj (by rw [wb_tb]; simp)⟩
theorem wb_of32 (x : Int32) : ∃ n, n < 2 ^ 32 ∧ x = nI n := ⟨x.toBitVec.toNat, x.toBitVec.isLt, Int32.toBitVec_inj.mp (by show _ = BitVec.ofNat 32 _; simp)⟩
theorem wb_c : ∀ k, k < 64 → ((nI k).toInt64 &&& 63) = lN k := by decide +kernel
theorem wb_cu : ∀ k, k < 64 → ((nI k).toInt64.toUInt64 &&& Int64.toUInt64 63) = UInt64.ofNat k := by decide +kernel
theorem wb_sm : ∀ k, k < 64 → (BitVec.ofNat 64 k).smod 64 = BitVec.ofNat 64 k := by decide +kernel
theorem wb_pw {a b : Nat} (h : a ≤ b) : 2 ^ b = 2 ^ a * 2 ^ (b - a) := by rw [← Nat.pow_add]; congr 1; omega
theorem wb_lt2 {a b : Nat} (h : a < b) : 2 ^ a < 2 ^ b := Nat.pow_lt_pow_right (by decide) h
theorem wb_mod (n : Nat) : lN n = lN (n % 2 ^ 64) := wb_inj (by rw [wb_tb, wb_tb]; apply BitVec.eq_of_toNat_eq; rw [BitVec.toNat_ofNat, BitVec.toNat_ofNat, Nat.mod_mod])
theorem wb_shr {n k : Nat} (hn : n < 2 ^ 64) (hk : k < 64) : ((lN n).toUInt64 >>> ((nI k).toInt64.toUInt64 &&& Int64.toUInt64 63)).toInt64 = lN (n / 2 ^ k) := by
  rw [wb_cu k hk]
  apply wb_inj
  apply BitVec.eq_of_toNat_eq
  show ((lN n).toUInt64 >>> UInt64.ofNat k).toNat = (BitVec.ofNat 64 _).toNat
  have h1 : (UInt64.ofNat k).toNat = k := by
    show (BitVec.ofNat 64 k).toNat = k
    rw [BitVec.toNat_ofNat, Nat.mod_eq_of_lt (by omega)]
  have h2 : (lN n).toUInt64.toNat = n := wb_tn hn
  rw [UInt64.toNat_shiftRight, h1, h2, Nat.mod_eq_of_lt hk, Nat.shiftRight_eq_div_pow, BitVec.toNat_ofNat, Nat.mod_eq_of_lt (Nat.lt_of_le_of_lt (Nat.div_le_self _ _) hn)]
theorem wb_shl (n : Nat) {k : Nat} (hk : k < 64) : lN n <<< ((nI k).toInt64 &&& 63) = lN (n * 2 ^ k) := by
  rw [wb_c k hk]
  apply wb_inj
  rw [Int64.toBitVec_shiftLeft, wb_tb, wb_tb, wb_tb, wb_sm k hk]
  apply BitVec.eq_of_toNat_eq
  rw [BitVec.shiftLeft_eq', BitVec.toNat_shiftLeft, BitVec.toNat_ofNat, BitVec.toNat_ofNat, BitVec.toNat_ofNat, Nat.mod_eq_of_lt (show k < 2 ^ 64 by omega), Nat.shiftLeft_eq, Nat.mul_mod, Nat.mod_mod, ← Nat.mul_mod]
theorem wb_and {a b : Nat} (ha : a < 2 ^ 64) (hb : b < 2 ^ 64) : lN a &&& lN b = lN (a &&& b) := by
  apply wb_inj
  rw [Int64.toBitVec_and, wb_tb, wb_tb, wb_tb]
  apply BitVec.eq_of_toNat_eq
  rw [BitVec.toNat_and, BitVec.toNat_ofNat, BitVec.toNat_ofNat, BitVec.toNat_ofNat, Nat.mod_eq_of_lt ha, Nat.mod_eq_of_lt hb, Nat.mod_eq_of_lt (Nat.and_lt_two_pow _ hb)]
theorem wb_or {a b : Nat} (ha : a < 2 ^ 64) (hb : b < 2 ^ 64) : lN a ||| lN b = lN (a ||| b) := by
  apply wb_inj
  rw [Int64.toBitVec_or, wb_tb, wb_tb, wb_tb]
  apply BitVec.eq_of_toNat_eq
  rw [BitVec.toNat_or, BitVec.toNat_ofNat, BitVec.toNat_ofNat, BitVec.toNat_ofNat, Nat.mod_eq_of_lt ha, Nat.mod_eq_of_lt hb, Nat.mod_eq_of_lt (Nat.or_lt_two_pow ha hb)]
theorem wb_mask {n k : Nat} (hn : n < 2 ^ 64) (hk : k < 64) : lN n &&& lN (2 ^ k - 1) = lN (n % 2 ^ k) := by
  rw [wb_and hn (by have := wb_lt2 hk; omega), Nat.and_two_pow_sub_one_eq_mod]
theorem wb_a1 {n : Nat} (hn : n < 2 ^ 64) : lN n &&& 1 = lN (n % 2) := wb_mask (k := 1) hn (by decide)
theorem wb_bit {n k : Nat} (hn : n < 2 ^ 64) (hk : k < 64) : ((lN n).toUInt64 >>> ((nI k).toInt64.toUInt64 &&& Int64.toUInt64 63)).toInt64 &&& 1 = lN (n / 2 ^ k % 2) := by
  rw [wb_shr hn hk, wb_a1 (Nat.lt_of_le_of_lt (Nat.div_le_self _ _) hn)]
end
section
abbrev sr_R : Type := Nat × Nat × (Nat → Nat) × (Nat → Bool)
def sr_cn (f : Nat → Bool) : Nat → Nat
  | 0 => 0
  | n + 1 => sr_cn f n + (if f n = true then 1 else 0)
theorem sr_cn_le (f : Nat → Bool) : ∀ n, sr_cn f n ≤ n
  | 0 => Nat.le_refl _
  | n + 1 => by
    have h := sr_cn_le f n
    simp only [sr_cn]
    split <;> omega
theorem sr_cn_eq {f g : Nat → Bool} : ∀ {n : Nat}, (∀ i, i < n → f i = g i) → sr_cn f n = sr_cn g n
  | 0, _ => rfl
  | n + 1, h => by
    have a := sr_cn_eq (f := f) (g := g) (n := n) (fun i hi => h i (by omega))
    simp only [sr_cn]
    rw [a, h n (by omega)]
theorem sr_cn_mono {f g : Nat → Bool} : ∀ {n : Nat}, (∀ i, i < n → f i = true → g i = true) → sr_cn f n ≤ sr_cn g n
  | 0, _ => Nat.le_refl _
  | n + 1, h => by
    have a := sr_cn_mono (f := f) (g := g) (n := n) (fun i hi => h i (by omega))
    have b := h n (by omega)
    simp only [sr_cn]
    by_cases z : f n = true
    · rw [if_pos z, if_pos (b z)]; omega
    · rw [if_neg z]; omega
theorem sr_cn_lt {f g : Nat → Bool} {a : Nat} (hf : f a = false) (hg : g a = true) : ∀ {n : Nat}, (∀ i, i < n → f i = true → g i = true) → a < n → sr_cn f n < sr_cn g n
  | 0, _, h => by omega
  | n + 1, h, ha => by
    simp only [sr_cn]
    rcases Nat.lt_or_ge a n with z | z
    · have x := sr_cn_lt hf hg (n := n) (fun i hi => h i (by omega)) z
      have b := h n (by omega)
      by_cases y : f n = true
      · rw [if_pos y, if_pos (b y)]; omega
      · rw [if_neg y]; omega
    · have e : a = n := by omega
      subst e
      have x := sr_cn_mono (f := f) (g := g) (n := a) (fun i hi => h i (by omega))
      rw [if_pos hg, if_neg (by rw [hf]; decide)]
      omega
theorem sr_cn_add (f : Nat → Bool) (a : Nat) : ∀ b, sr_cn f (a + b) = sr_cn f a + sr_cn (fun i => f (a + i)) b
  | 0 => rfl
  | b + 1 => by
    have h := sr_cn_add f a b
    rw [show a + (b + 1) = (a + b) + 1 from rfl]
    simp only [sr_cn]
    omega
theorem sr_cn_pos {f : Nat → Bool} : ∀ {n : Nat}, 0 < sr_cn f n ↔ ∃ i, i < n ∧ f i = true
  | 0 => ⟨fun h => absurd h (Nat.lt_irrefl 0), fun ⟨i, h, _⟩ => absurd h (Nat.not_lt_zero i)⟩
  | n + 1 => by
    have ih := sr_cn_pos (f := f) (n := n)
    simp only [sr_cn]
    constructor
    · intro h
      by_cases z : f n = true
      · exact ⟨n, by omega, z⟩
      · rw [if_neg z] at h
        obtain ⟨i, hi, hf⟩ := ih.mp (by omega)
        exact ⟨i, by omega, hf⟩
    · rintro ⟨i, hi, hf⟩
      by_cases z : i = n
      · subst z; rw [if_pos hf]; omega
      · have := ih.mpr ⟨i, by omega, hf⟩
        omega
def sr_v1 (t : Nat) : Nat := if t < 4 then 2 ^ t else 0
def sr_vs (a : Nat) : Nat := sr_v1 (a / 10 % 10) ||| sr_v1 (a % 10)
def sr_mo (f : Nat → Nat) (i0 : Nat) : Nat → Nat
  | 0 => i0
  | n + 1 => sr_mo f i0 n ||| f n
def sr_mk (ρ : sr_R) : Nat := sr_mo (fun i => sr_vs (ρ.2.2.1 i)) (sr_vs ρ.1) ρ.2.1
theorem sr_v1_lt (t : Nat) : sr_v1 t < 16 := by
  unfold sr_v1
  by_cases h : t < 4
  · rw [if_pos h]
    exact (by decide : ∀ t, t < 4 → 2 ^ t < 16) t h
  · rw [if_neg h]; decide
theorem sr_vs_lt (a : Nat) : sr_vs a < 16 := Nat.or_lt_two_pow (n := 4) (sr_v1_lt _) (sr_v1_lt _)
theorem sr_mo_lt {f : Nat → Nat} {i0 : Nat} (h0 : i0 < 16) (hf : ∀ i, f i < 16) : ∀ n, sr_mo f i0 n < 16
  | 0 => h0
  | n + 1 => Nat.or_lt_two_pow (n := 4) (sr_mo_lt h0 hf n) (hf n)
theorem sr_mk_lt (ρ : sr_R) : sr_mk ρ < 16 := sr_mo_lt (sr_vs_lt _) (fun _ => sr_vs_lt _) _
theorem sr_v1_bit {t : Nat} (h : t < 4) : (sr_v1 t).testBit t = true := (by decide : ∀ t, t < 4 → (sr_v1 t).testBit t = true) t h
theorem sr_vs_b1 {a : Nat} (h : a / 10 % 10 < 4) : (sr_vs a).testBit (a / 10 % 10) = true := by
  unfold sr_vs
  rw [Nat.testBit_or, sr_v1_bit h, Bool.true_or]
theorem sr_vs_b2 {a : Nat} (h : a % 10 < 4) : (sr_vs a).testBit (a % 10) = true := by
  unfold sr_vs
  rw [Nat.testBit_or, sr_v1_bit h, Bool.or_true]
theorem sr_mo_b0 {f : Nat → Nat} {i0 b : Nat} (h : i0.testBit b = true) : ∀ n, (sr_mo f i0 n).testBit b = true
  | 0 => h
  | n + 1 => by
    show (sr_mo f i0 n ||| f n).testBit b = true
    rw [Nat.testBit_or, sr_mo_b0 h n, Bool.true_or]
theorem sr_mo_b {f : Nat → Nat} {i0 b i : Nat} (h : (f i).testBit b = true) : ∀ {n}, i < n → (sr_mo f i0 n).testBit b = true
  | 0, hi => absurd hi (Nat.not_lt_zero _)
  | n + 1, hi => by
    show (sr_mo f i0 n ||| f n).testBit b = true
    rw [Nat.testBit_or]
    by_cases z : i = n
    · subst z; rw [h, Bool.or_true]
    · rw [sr_mo_b h (show i < n by omega), Bool.true_or]
def sr_hs (m a : Nat) : Prop := (a / 10 % 10 < 4 → m.testBit (a / 10 % 10) = true) ∧ (a % 10 < 4 → m.testBit (a % 10) = true)
theorem sr_mk_hd (ρ : sr_R) : sr_hs (sr_mk ρ) ρ.1 := ⟨fun h => sr_mo_b0 (sr_vs_b1 h) _, fun h => sr_mo_b0 (sr_vs_b2 h) _⟩
theorem sr_mk_at (ρ : sr_R) {i : Nat} (hi : i < ρ.2.1) : sr_hs (sr_mk ρ) (ρ.2.2.1 i) :=
  ⟨fun h => sr_mo_b (f := fun i => sr_vs (ρ.2.2.1 i)) (sr_vs_b1 h) hi, fun h => sr_mo_b (f := fun i => sr_vs (ρ.2.2.1 i)) (sr_vs_b2 h) hi⟩
def sr_rs (m w : Nat) : Nat → Nat
  | 0 => w
  | v + 1 => if m.testBit v = true then sr_rs m w v / 6 else sr_rs m w v
def sr_th (m w t : Nat) : Nat := if t < 4 then (if m.testBit t = true then sr_rs m w t % 6 else 0) else t - 4
def sr_ft (m w a : Nat) : Nat := 6 * sr_th m w (a / 10 % 10) + sr_th m w (a % 10)
def sr_pl (m w a : Nat) : Nat := 36 * (a / 100) + sr_ft m w a
def sr_pw (m : Nat) : Nat → Nat
  | 0 => 1
  | v + 1 => if m.testBit v = true then 6 * sr_pw m v else sr_pw m v
theorem sr_th_lt {m w t : Nat} (h : t < 10) : sr_th m w t < 6 := by
  unfold sr_th
  split
  · split <;> omega
  · omega
theorem sr_ft_lt (m w a : Nat) : sr_ft m w a < 36 := by
  have h1 := sr_th_lt (m := m) (w := w) (t := a / 10 % 10) (Nat.mod_lt _ (by decide))
  have h2 := sr_th_lt (m := m) (w := w) (t := a % 10) (Nat.mod_lt _ (by decide))
  unfold sr_ft
  omega
theorem sr_pl_ly (m w a : Nat) : sr_pl m w a / 72 = a / 200 := by
  have h := sr_ft_lt m w a
  unfold sr_pl
  omega
theorem sr_pl_lt {m w a : Nat} (ha : a < 800) : sr_pl m w a < 288 := by
  have h := sr_ft_lt m w a
  unfold sr_pl
  omega
theorem sr_rs_le (m w : Nat) : ∀ v, sr_rs m w v ≤ w
  | 0 => Nat.le_refl _
  | v + 1 => by
    have h := sr_rs_le m w v
    simp only [sr_rs]
    split <;> omega
theorem sr_pw_le (m : Nat) : ∀ v, sr_pw m v ≤ 6 ^ v
  | 0 => Nat.le_refl _
  | v + 1 => by
    have h := sr_pw_le m v
    simp only [sr_pw, Nat.pow_succ]
    split <;> omega
def sr_nb (ρ : sr_R) : Nat := sr_pw (sr_mk ρ) 4
theorem sr_nb_le (ρ : sr_R) : sr_nb ρ ≤ 1296 := sr_pw_le _ 4
def sr_bd (ρ : sr_R) (S : Nat → Bool) (w i : Nat) : Bool := S (sr_pl (sr_mk ρ) w (ρ.2.2.1 i)) != ρ.2.2.2 i
def sr_met (ρ : sr_R) (S : Nat → Bool) (w : Nat) : Bool := decide (∀ i, i < ρ.2.1 → sr_bd ρ S w i = true)
def sr_hp (ρ : sr_R) (w : Nat) : Nat := sr_pl (sr_mk ρ) w ρ.1
def sr_wf (ρ : sr_R) : Prop := ρ.1 < 800 ∧ ρ.2.1 ≤ 3 ∧ ∀ i, i < ρ.2.1 → ρ.2.2.1 i < 800 ∧ ρ.2.2.1 i / 200 ≤ ρ.1 / 200 ∧ (ρ.2.2.2 i = true → ρ.2.2.1 i / 200 < ρ.1 / 200)
def sr_q (ρ : sr_R) (n : Nat) (T : Nat → Bool) : Prop := ∀ w, w < n → sr_met ρ T w = true → T (sr_hp ρ w) = true
def sr_cl (R : Nat → sr_R) (c wo ℓ : Nat) (T : Nat → Bool) : Prop := ∀ r, r < c → r ≠ wo → (R r).1 / 200 = ℓ → sr_q (R r) (sr_nb (R r)) T
def sr_up (S T : Nat → Bool) : Prop := ∀ p, S p = true → T p = true
def sr_ab (ℓ : Nat) (S T : Nat → Bool) : Prop := sr_up S T ∧ ∀ p, p / 72 ≠ ℓ → T p = S p
def sr_in (R : Nat → sr_R) (c wo ℓ : Nat) (S T : Nat → Bool) : Prop := sr_ab ℓ S T ∧ ∀ Z, sr_ab ℓ S Z → sr_cl R c wo ℓ Z → sr_up T Z
def sr_lf (R : Nat → sr_R) (c wo ℓ : Nat) (S T : Nat → Bool) : Prop := sr_in R c wo ℓ S T ∧ sr_cl R c wo ℓ T
theorem sr_up_r (S : Nat → Bool) : sr_up S S := fun _ h => h
theorem sr_up_t {S T U : Nat → Bool} (a : sr_up S T) (b : sr_up T U) : sr_up S U := fun p h => b p (a p h)
theorem sr_up_a {S T : Nat → Bool} (a : sr_up S T) (b : sr_up T S) : S = T := by
  funext p
  have x := a p
  have y := b p
  cases h : S p <;> cases k : T p <;> simp_all
theorem sr_in_0 (R : Nat → sr_R) (c wo ℓ : Nat) (S : Nat → Bool) : sr_in R c wo ℓ S S := ⟨⟨sr_up_r S, fun _ _ => rfl⟩, fun _ h _ => h.1⟩
theorem sr_lf_u {R : Nat → sr_R} {c wo ℓ : Nat} {S T T' : Nat → Bool} (h : sr_lf R c wo ℓ S T) (h' : sr_lf R c wo ℓ S T') : T = T' :=
  sr_up_a (h.1.2 T' h'.1.1 h'.2) (h'.1.2 T h.1.1 h.2)
theorem sr_met_m {ρ : sr_R} {S T Z : Nat → Bool} {ℓ w : Nat} (wf : sr_wf ρ) (hl : ρ.1 / 200 = ℓ) (hT : sr_ab ℓ S T) (hZ : sr_ab ℓ S Z) (u : sr_up T Z) (h : sr_met ρ T w = true) : sr_met ρ Z w = true := by
  unfold sr_met at h ⊢
  rw [decide_eq_true_iff] at h ⊢
  intro i hi
  have hb := h i hi
  obtain ⟨ha, hle, hneg⟩ := wf.2.2 i hi
  unfold sr_bd at hb ⊢
  cases e : ρ.2.2.2 i with
  | false =>
    rw [e] at hb
    rw [u _ (by simpa using hb)]
    rfl
  | true =>
    rw [e] at hb
    have hlt := hneg e
    have hp : sr_pl (sr_mk ρ) w (ρ.2.2.1 i) / 72 ≠ ℓ := by rw [sr_pl_ly]; omega
    rw [hZ.2 _ hp, ← hT.2 _ hp]
    exact hb
theorem sr_in_s {R : Nat → sr_R} {c wo ℓ r : Nat} {S T T' : Nat → Bool} (hr : r < c) (hwo : r ≠ wo) (hl : (R r).1 / 200 = ℓ) (wf : sr_wf (R r)) (h : sr_in R c wo ℓ S T) (h1 : sr_up T T') (h2 : ∀ p, T' p = true → T p = true ∨ ∃ w, w < sr_nb (R r) ∧ sr_met (R r) T w = true ∧ p = sr_hp (R r) w) : sr_in R c wo ℓ S T' := by
  refine ⟨⟨sr_up_t h.1.1 h1, fun p hp => ?_⟩, fun Z hZ hc p hp => ?_⟩
  · rw [← h.1.2 p hp]
    cases e : T' p with
    | true =>
      rcases h2 p e with z | ⟨w, _, _, z⟩
      · exact z.symm
      · exact absurd (by rw [z]; unfold sr_hp; rw [sr_pl_ly]; exact hl) hp
    | false =>
      cases k : T p with
      | true => exact absurd (h1 p k) (by rw [e]; decide)
      | false => rfl
  · have u := h.2 Z hZ hc
    rcases h2 p hp with z | ⟨w, hw, hm, z⟩
    · exact u p z
    · rw [z]
      exact hc r hr hwo hl w hw (sr_met_m wf hl h.1 hZ u hm)
def sr_cd (ℓ : Nat) (T : Nat → Bool) : Nat := sr_cn (fun i => T (72 * ℓ + i)) 72
theorem sr_cd_le (ℓ : Nat) (T : Nat → Bool) : sr_cd ℓ T ≤ 72 := sr_cn_le _ _
theorem sr_cd_m {ℓ : Nat} {T T' : Nat → Bool} (u : sr_up T T') : sr_cd ℓ T ≤ sr_cd ℓ T' := sr_cn_mono fun i _ h => u _ h
theorem sr_cd_l {ℓ p : Nat} {T T' : Nat → Bool} (u : sr_up T T') (hp : p / 72 = ℓ) (h : T p = false) (h' : T' p = true) : sr_cd ℓ T < sr_cd ℓ T' := by
  have e : 72 * ℓ + p % 72 = p := by omega
  exact sr_cn_lt (a := p % 72) (by rw [e]; exact h) (by rw [e]; exact h') (fun i _ h => u _ h) (Nat.mod_lt _ (by decide))
def sr_pr (ℓ : Nat) (T0 T : Nat → Bool) (g : Bool) (Q : Prop) : Prop := sr_up T0 T ∧ (g = true → sr_cd ℓ T0 < sr_cd ℓ T) ∧ (g = false → T = T0 ∧ Q)
theorem sr_pr_0 {ℓ : Nat} {T : Nat → Bool} {Q : Prop} (q : Q) : sr_pr ℓ T T false Q := ⟨sr_up_r T, (fun h => nomatch h), fun _ => ⟨rfl, q⟩⟩
theorem sr_pr_q {ℓ : Nat} {T0 T : Nat → Bool} {g : Bool} {Q Q' : Prop} (h : sr_pr ℓ T0 T g Q) (i : Q → Q') : sr_pr ℓ T0 T g Q' := ⟨h.1, h.2.1, fun z => ⟨(h.2.2 z).1, i (h.2.2 z).2⟩⟩
theorem sr_pr_c {ℓ : Nat} {T0 T1 T2 : Nat → Bool} {g1 g2 : Bool} {Q1 : Prop} {Q2 : (Nat → Bool) → Prop} (a : sr_pr ℓ T0 T1 g1 Q1) (b : sr_pr ℓ T1 T2 g2 (Q2 T1)) : sr_pr ℓ T0 T2 (g1 || g2) (Q1 ∧ Q2 T0) := by
  refine ⟨sr_up_t a.1 b.1, fun h => ?_, fun h => ?_⟩
  · have x := sr_cd_m (ℓ := ℓ) a.1
    have y := sr_cd_m (ℓ := ℓ) b.1
    cases g1 with
    | true => have := a.2.1 rfl; omega
    | false =>
      cases g2 with
      | true => have := b.2.1 rfl; omega
      | false => exact nomatch h
  · cases g1 with
    | true => exact nomatch h
    | false =>
      cases g2 with
      | true => exact nomatch h
      | false =>
        obtain ⟨e1, q1⟩ := a.2.2 rfl
        obtain ⟨e2, q2⟩ := b.2.2 rfl
        subst e1
        exact ⟨e2, q1, q2⟩
theorem sr_cl_s {R : Nat → sr_R} {j wo ℓ : Nat} {T : Nat → Bool} (h : sr_cl R j wo ℓ T) (k : j ≠ wo → (R j).1 / 200 = ℓ → sr_q (R j) (sr_nb (R j)) T) : sr_cl R (j + 1) wo ℓ T := by
  intro r hr hwo hl
  by_cases z : r = j
  · subst z; exact k hwo hl
  · exact h r (by omega) hwo hl
def sr_rd (R : Nat → sr_R) (c wo ℓ : Nat) (S T : Nat → Bool) (i : Nat) (g : Bool) : Prop := sr_in R c wo ℓ S T ∧ (g = true → i ≤ sr_cd ℓ T) ∧ (g = false → sr_cl R c wo ℓ T)
theorem sr_rd_0 (R : Nat → sr_R) (c wo ℓ : Nat) (S : Nat → Bool) : sr_rd R c wo ℓ S S 0 true := ⟨sr_in_0 _ _ _ _ _, fun _ => Nat.zero_le _, fun h => nomatch h⟩
theorem sr_rd_s {R : Nat → sr_R} {c wo ℓ i : Nat} {S T T' : Nat → Bool} {g : Bool} (h : sr_rd R c wo ℓ S T i true) (hi : sr_in R c wo ℓ S T') (p : sr_pr ℓ T T' g (sr_cl R c wo ℓ T)) : sr_rd R c wo ℓ S T' (i + 1) g := by
  refine ⟨hi, fun z => ?_, fun z => ?_⟩
  · have a := h.2.1 rfl
    have b := p.2.1 z
    omega
  · obtain ⟨e, q⟩ := p.2.2 z
    rw [e]; exact q
theorem sr_rd_f {R : Nat → sr_R} {c wo ℓ i : Nat} {S T : Nat → Bool} (h : sr_rd R c wo ℓ S T i false) : sr_lf R c wo ℓ S T := ⟨h.1, h.2.2 rfl⟩
theorem sr_rd_x {R : Nat → sr_R} {c wo ℓ i : Nat} {S T : Nat → Bool} (h : sr_rd R c wo ℓ S T i true) : i ≤ 72 := Nat.le_trans (h.2.1 rfl) (sr_cd_le _ _)
def sr_dn (R : Nat → sr_R) (c wo : Nat) (G : Nat → Bool) : Nat → (Nat → Bool) → Prop
  | 0, T => T = G
  | ℓ + 1, T => ∃ S, sr_dn R c wo G ℓ S ∧ sr_lf R c wo ℓ S T
theorem sr_dn_u {R : Nat → sr_R} {c wo : Nat} {G : Nat → Bool} : ∀ {ℓ : Nat} {T T' : Nat → Bool}, sr_dn R c wo G ℓ T → sr_dn R c wo G ℓ T' → T = T'
  | 0, _, _, h, h' => h.trans h'.symm
  | ℓ + 1, _, _, ⟨S, a, b⟩, ⟨S', a', b'⟩ => by
    have e := sr_dn_u a a'
    subst e
    exact sr_lf_u b b'
end
section
def sr_bI (b : Bool) : Int32 := if b = true then 1 else 0
theorem sr_bI_t : sr_bI true = 1 := rfl
theorem sr_bI_f : sr_bI false = 0 := rfl
theorem sr_bI_n (b : Bool) : sr_bI b = nI (if b = true then 1 else 0) := by cases b <;> rfl
theorem sr_bI_i {a b : Bool} : sr_bI a = sr_bI b ↔ a = b := by cases a <;> cases b <;> decide
theorem sr_bI_0 {b : Bool} : sr_bI b = 0 ↔ b = false := by cases b <;> decide
theorem sr_bI_1 {b : Bool} : sr_bI b = 1 ↔ b = true := by cases b <;> decide
theorem sr_nar (b : Bool) : vp_nar .boolean (sr_bI b) = sr_bI b := by cases b <;> decide
theorem sr_nrw (b : Bool) : narrow .boolean (.int (sr_bI b)) = .int (sr_bI b) := by cases b <;> rfl
def sr_lb (w : Int64) (f : Nat) : Bool := w.toBitVec.getLsbD f
theorem sr_lb_x {v w : Int64} (h : ∀ f, f < 64 → sr_lb v f = sr_lb w f) : v = w := wb_inj (BitVec.eq_of_getLsbD_eq (fun i hi => h i hi))
theorem sr_lb_or (v w : Int64) (f : Nat) : sr_lb (v ||| w) f = (sr_lb v f || sr_lb w f) := by unfold sr_lb; rw [Int64.toBitVec_or, BitVec.getLsbD_or]
theorem sr_lb_and (v w : Int64) (f : Nat) : sr_lb (v &&& w) f = (sr_lb v f && sr_lb w f) := by unfold sr_lb; rw [Int64.toBitVec_and, BitVec.getLsbD_and]
theorem sr_lb_xor (v w : Int64) (f : Nat) : sr_lb (v ^^^ w) f = (sr_lb v f ^^ sr_lb w f) := by unfold sr_lb; rw [Int64.toBitVec_xor, BitVec.getLsbD_xor]
theorem sr_lb_0 (f : Nat) : sr_lb 0 f = false := BitVec.getLsbD_zero
theorem sr_lb_m1 : ∀ f, f < 64 → sr_lb (-1) f = true := by decide +kernel
theorem sr_lb_N {n f : Nat} (hf : f < 64) : sr_lb (lN n) f = n.testBit f := by
  show (BitVec.ofNat 64 n).getLsbD f = _
  rw [BitVec.getLsbD_ofNat, decide_eq_true hf, Bool.true_and]
theorem sr_lb_1 {k f : Nat} (hk : k < 64) (hf : f < 64) : sr_lb ((1 : Int64) <<< ((nI k).toInt64 &&& 63)) f = decide (k = f) := by
  have e : (1 : Int64) <<< ((nI k).toInt64 &&& 63) = lN (1 * 2 ^ k) := wb_shl 1 hk
  rw [e, sr_lb_N hf, Nat.one_mul, Nat.testBit_two_pow]
theorem sr_lb_not {w : Int64} {f : Nat} (hf : f < 64) : sr_lb (w ^^^ (-1)) f = !sr_lb w f := by
  rw [sr_lb_xor, sr_lb_m1 f hf, Bool.xor_true]
theorem sr_lb_z {w : Int64} : w = 0 ↔ ∀ f, f < 64 → sr_lb w f = false := by
  constructor
  · intro h f _; rw [h, sr_lb_0]
  · intro h; exact sr_lb_x fun f hf => by rw [h f hf, sr_lb_0]
theorem sr_mb (w : Int64) {f : Nat} (hf : f < 64) : (((w.toUInt64 >>> ((nI f).toInt64.toUInt64 &&& Int64.toUInt64 63)).toInt64) &&& 1).toInt32 = sr_bI (sr_lb w f) := by
  obtain ⟨n, hn, rfl⟩ := wb_of w
  rw [wb_bit hn hf, lN_i, sr_lb_N hf, Nat.testBit_eq_decide_div_mod_eq]
  have h : n / 2 ^ f % 2 < 2 := Nat.mod_lt _ (by decide)
  generalize n / 2 ^ f % 2 = m at h
  exact (by decide : ∀ m, m < 2 → nI m = sr_bI (decide (m = 1))) m h
def sr_bx (a : Nat → Int64) (S : Nat → Bool) : Prop := ∀ r, r < 8 → ∀ f, f < 64 → sr_lb (a r) f = (decide (f < 36) && S (36 * r + f))
def sr_by (a : Nat → Int32) (S : Nat → Bool) : Prop := ∀ p, p < 288 → a p = sr_bI (S p)
theorem sr_bx_l {a : Nat → Int64} {S : Nat → Bool} (h : sr_bx a S) {r f : Nat} (hr : r < 8) (hf : f < 36) : sr_lb (a r) f = S (36 * r + f) := by
  rw [h r hr f (by omega), decide_eq_true hf, Bool.true_and]
theorem sr_bx_b {a : Nat → Int64} {S : Nat → Bool} (h : sr_bx a S) {r f : Nat} (hr : r < 8) (hf : 36 ≤ f) (h2 : f < 64) : sr_lb (a r) f = false := by
  rw [h r hr f h2, decide_eq_false (by omega), Bool.false_and]
end
section
theorem sr_d10 {a : Nat} (h : a < 2 ^ 31) : nI a / 10 = nI (a / 10) := pk_div h (by decide) (by decide)
theorem sr_d100 {a : Nat} (h : a < 2 ^ 31) : nI a / 100 = nI (a / 100) := pk_div h (by decide) (by decide)
theorem sr_d200 {a : Nat} (h : a < 2 ^ 31) : nI a / 200 = nI (a / 200) := pk_div h (by decide) (by decide)
theorem sr_d2 {a : Nat} (h : a < 2 ^ 31) : nI a / 2 = nI (a / 2) := pk_div h (by decide) (by decide)
theorem sr_d6 {a : Nat} (h : a < 2 ^ 31) : nI a / 6 = nI (a / 6) := pk_div h (by decide) (by decide)
theorem sr_d8 {a : Nat} (h : a < 2 ^ 31) : nI a / 8 = nI (a / 8) := pk_div h (by decide) (by decide)
theorem sr_r10 {a : Nat} (h : a < 2 ^ 31) : nI a - nI a / 10 * 10 = nI (a % 10) := pk_rem h (by decide) (by decide)
theorem sr_r6 {a : Nat} (h : a < 2 ^ 31) : nI a - nI a / 6 * 6 = nI (a % 6) := pk_rem h (by decide) (by decide)
theorem sr_r8 {a : Nat} (h : a < 2 ^ 31) : nI a - nI a / 8 * 8 = nI (a % 8) := pk_rem h (by decide) (by decide)
theorem sr_r36 {a : Nat} (h : a < 2 ^ 31) : nI a - nI a / 36 * 36 = nI (a % 36) := pk_rem h (by decide) (by decide)
theorem sr_m3 (a : Nat) : 3 * nI a = nI (3 * a) := pk_mul 3 a
theorem sr_m6 (a : Nat) : 6 * nI a = nI (6 * a) := pk_mul 6 a
theorem sr_m36 (a : Nat) : 36 * nI a = nI (36 * a) := pk_mul 36 a
theorem sr_mx6 (a : Nat) : nI a * 6 = nI (a * 6) := pk_mul a 6
theorem sr_a3 (a : Nat) : nI a + 3 = nI (a + 3) := nI_add a 3
theorem sr_t1 {a : Nat} (h : a < 800) : nI a / 10 - nI a / 10 / 10 * 10 = nI (a / 10 % 10) := by
  rw [sr_d10 (by omega)]; exact sr_r10 (by omega)
theorem sr_t2 {a : Nat} (h : a < 800) : nI a - nI a / 10 * 10 = nI (a % 10) := sr_r10 (by omega)
theorem sr_or (a b : Nat) : nI a ||| nI b = nI (a ||| b) := by
  apply Int32.toBitVec_inj.1
  show BitVec.ofNat 32 a ||| BitVec.ofNat 32 b = BitVec.ofNat 32 (a ||| b)
  apply BitVec.eq_of_getLsbD_eq
  intro i hi
  simp [hi]
theorem sr_sh : ∀ t, t < 4 → (1 : Int32) <<< (nI t &&& 31) = nI (2 ^ t) := by decide +kernel
theorem sr_tb : ∀ m, m < 16 → ∀ v, v < 4 → ((((nI m >>> (nI v &&& 31)) &&& 1) = 1) ↔ m.testBit v = true) := by decide +kernel
theorem sr_nd : ∀ a, a < 16 → ∀ b, b < 16 → ((nI a &&& (nI b ^^^ (-1))) = 0 ↔ a ||| b = b) := by decide +kernel
def sr_gd (n : Nat) (x : Int32) : Prop := ∃ j, j < n ∧ x = nI j
theorem sr_gd_i {n : Nat} {x : Int32} (hn : n < 2 ^ 31) (h0 : ¬ x < 0) (h1 : x < nI n) : sr_gd n x := by
  rcases pk_ix x hn with h | h | h
  · exact absurd h h0
  · exact absurd h1 (Int32.not_lt.mpr h)
  · exact h
theorem sr_gd_0 {n : Nat} {x : Int32} (hn : n < 2 ^ 31) (h : sr_gd n x) : ¬ x < 0 := by
  obtain ⟨j, hj, rfl⟩ := h
  exact nI_pos (by omega)
theorem sr_gd_1 {n : Nat} {x : Int32} (hn : n < 2 ^ 31) (h : sr_gd n x) : x < nI n := by
  obtain ⟨j, hj, rfl⟩ := h
  exact nI_lt hj hn
theorem sr_gd_n {n : Nat} {x : Int32} (hn : n < 2 ^ 31) (h : ¬ sr_gd n x) (h0 : ¬ x < 0) : ¬ x < nI n := fun z => h (sr_gd_i hn h0 z)
def sr_st (S : Nat → Bool) (p : Nat) (b : Bool) : Nat → Bool := fun q => if q = p then b else S q
theorem sr_by_s {a : Nat → Int32} {S : Nat → Bool} (h : sr_by a S) (p : Nat) (b : Bool) : sr_by (upd a p (sr_bI b)) (sr_st S p b) := by
  intro q hq
  unfold sr_st
  by_cases z : q = p
  · subst z; rw [pk_us, if_pos rfl]
  · rw [pk_un z, if_neg z]; exact h q hq
theorem sr_bx_s {a : Nat → Int64} {S : Nat → Bool} (h : sr_bx a S) {r f : Nat} (hr : r < 8) (hf : f < 36) : sr_bx (vp_updL a r (a r ||| (1 : Int64) <<< ((nI f).toInt64 &&& 63))) (sr_st S (36 * r + f) true) := by
  intro r' hr' f' hf'
  unfold sr_st
  by_cases z : r' = r
  · subst z
    rw [pk_uLs, sr_lb_or, sr_lb_1 (by omega) hf', h r' hr' f' hf']
    by_cases y : f = f'
    · subst y; simp [hf]
    · rw [if_neg (by omega), decide_eq_false y, Bool.or_false]
  · rw [pk_uLn z, h r' hr' f' hf']
    by_cases y : f' < 36
    · rw [if_neg (by omega)]
    · rw [decide_eq_false y, Bool.false_and, Bool.false_and]
theorem sr_bx_c {a : Nat → Int64} {S : Nat → Bool} (h : sr_bx a S) {r f : Nat} (hr : r < 8) (hf : f < 36) : sr_bx (vp_updL a r (a r &&& (((1 : Int64) <<< ((nI f).toInt64 &&& 63)) ^^^ (-1)))) (sr_st S (36 * r + f) false) := by
  intro r' hr' f' hf'
  unfold sr_st
  by_cases z : r' = r
  · subst z
    rw [pk_uLs, sr_lb_and, sr_lb_not hf', sr_lb_1 (by omega) hf', h r' hr' f' hf']
    by_cases y : f = f'
    · subst y; simp [hf]
    · rw [if_neg (by omega), decide_eq_false y, Bool.not_false, Bool.and_true]
  · rw [pk_uLn z, h r' hr' f' hf']
    by_cases y : f' < 36
    · rw [if_neg (by omega)]
    · rw [decide_eq_false y, Bool.false_and, Bool.false_and]
def sr_po (A : Nat → Nat) (N : Nat → Bool) (b : Bool) (i0 : Nat) : Nat → Nat
  | 0 => i0
  | n + 1 => if N n = b then sr_po A N b i0 n ||| sr_vs (A n) else sr_po A N b i0 n
theorem sr_po_lt {A : Nat → Nat} {N : Nat → Bool} {b : Bool} {i0 : Nat} (h : i0 < 16) : ∀ n, sr_po A N b i0 n < 16
  | 0 => h
  | n + 1 => by
    have x := sr_po_lt (A := A) (N := N) (b := b) h n
    simp only [sr_po]
    split
    · exact Nat.or_lt_two_pow (n := 4) x (sr_vs_lt _)
    · exact x
theorem sr_po_i (A : Nat → Nat) (N : Nat → Bool) (b : Bool) (i0 : Nat) : ∀ n, sr_po A N b i0 n = sr_po A N b 0 n ||| i0
  | 0 => by simp [sr_po]
  | n + 1 => by
    have x := sr_po_i A N b i0 n
    simp only [sr_po]
    split
    · rw [x]
      apply Nat.eq_of_testBit_eq
      intro t
      simp only [Nat.testBit_or]
      cases (sr_po A N b 0 n).testBit t <;> cases i0.testBit t <;> simp
    · exact x
theorem sr_po_m (A : Nat → Nat) (N : Nat → Bool) (i0 : Nat) : ∀ n, sr_mo (fun i => sr_vs (A i)) i0 n = sr_po A N true i0 n ||| sr_po A N false 0 n
  | 0 => by simp [sr_po, sr_mo]
  | n + 1 => by
    have x := sr_po_m A N i0 n
    simp only [sr_po, sr_mo]
    rw [x]
    cases N n with
    | true =>
      rw [if_pos rfl, if_neg (by decide)]
      apply Nat.eq_of_testBit_eq
      intro t
      simp only [Nat.testBit_or]
      cases (sr_po A N true i0 n).testBit t <;> cases (sr_po A N false 0 n).testBit t <;> simp
    | false =>
      rw [if_neg (by decide), if_pos rfl, Nat.or_assoc]
def sr_fit (hd : Nat) (A : Nat → Nat) (N : Nat → Bool) (d : Nat) : Prop := ∀ i, i < d → A i / 200 ≤ hd / 200 ∧ (N i = true → A i / 200 < hd / 200)
def sr_ch (G : Nat → Bool) (r x s : Nat) : Nat → Nat → Bool
  | 0 => G
  | i + 1 => sr_st (sr_ch G r x s i) (36 * r + (6 * ((x + i) % 6) + (x + i + s) % 6)) true
end
section
def sr_hb (ρ : sr_R) (T : Nat → Bool) (n : Nat) (h : Int64) : Prop := ∀ f, f < 64 → (sr_lb h f = true ↔ ∃ w, w < n ∧ sr_met ρ T w = true ∧ sr_ft (sr_mk ρ) w ρ.1 = f)
theorem sr_hb_0 (ρ : sr_R) (T : Nat → Bool) : sr_hb ρ T 0 0 := by
  intro f _
  rw [sr_lb_0]
  exact ⟨(fun h => nomatch h), fun ⟨w, hw, _⟩ => absurd hw (Nat.not_lt_zero w)⟩
theorem sr_hb_n {ρ : sr_R} {T : Nat → Bool} {n : Nat} {h : Int64} (a : sr_hb ρ T n h) (m : sr_met ρ T n = false) : sr_hb ρ T (n + 1) h := by
  intro f hf
  rw [a f hf]
  constructor
  · rintro ⟨w, hw, x⟩; exact ⟨w, by omega, x⟩
  · rintro ⟨w, hw, x, y⟩
    by_cases z : w = n
    · subst z; rw [m] at x; exact nomatch x
    · exact ⟨w, by omega, x, y⟩
theorem sr_hb_s {ρ : sr_R} {T : Nat → Bool} {n : Nat} {h : Int64} (a : sr_hb ρ T n h) (m : sr_met ρ T n = true) : sr_hb ρ T (n + 1) (h ||| (1 : Int64) <<< ((nI (sr_ft (sr_mk ρ) n ρ.1)).toInt64 &&& 63)) := by
  intro f hf
  have hl := sr_ft_lt (sr_mk ρ) n ρ.1
  rw [sr_lb_or, sr_lb_1 (by omega) hf, Bool.or_eq_true, a f hf, decide_eq_true_iff]
  constructor
  · rintro (⟨w, hw, x⟩ | e)
    · exact ⟨w, by omega, x⟩
    · exact ⟨n, by omega, m, e⟩
  · rintro ⟨w, hw, x, y⟩
    by_cases z : w = n
    · subst z; exact Or.inr y
    · exact Or.inl ⟨w, by omega, x, y⟩
theorem sr_hb_b {ρ : sr_R} {T : Nat → Bool} {n f : Nat} {h : Int64} (a : sr_hb ρ T n h) (hf : 36 ≤ f) (h2 : f < 64) : sr_lb h f = false := by
  cases e : sr_lb h f with
  | false => rfl
  | true =>
    obtain ⟨w, _, _, y⟩ := (a f h2).mp e
    have hl := sr_ft_lt (sr_mk ρ) w ρ.1
    omega
theorem sr_hp_e (ρ : sr_R) (w : Nat) : sr_hp ρ w = 36 * (ρ.1 / 100) + sr_ft (sr_mk ρ) w ρ.1 := rfl
theorem sr_xs0 {ρ : sr_R} {T : Nat → Bool} {h : Int64} {a : Nat → Int64} (hb : sr_bx a T) (wf : sr_wf ρ) (hh : sr_hb ρ T (sr_nb ρ) h) (z : (h &&& ((a (ρ.1 / 100)) ^^^ (-1))) = 0) : sr_q ρ (sr_nb ρ) T := by
  intro w hw m
  have hr : ρ.1 / 100 < 8 := by have := wf.1; omega
  have hl := sr_ft_lt (sr_mk ρ) w ρ.1
  have e := sr_lb_z.mp z (sr_ft (sr_mk ρ) w ρ.1) (by omega)
  rw [sr_lb_and, sr_lb_not (by omega), (hh _ (by omega)).mpr ⟨w, hw, m, rfl⟩, sr_bx_l hb hr hl, Bool.true_and] at e
  rw [sr_hp_e]
  simpa using e
def sr_jn (ρ : sr_R) (T : Nat → Bool) (h : Int64) : Nat → Bool := fun p => T p || (decide (p / 36 = ρ.1 / 100) && sr_lb h (p % 36))
theorem sr_jn_u (ρ : sr_R) (T : Nat → Bool) (h : Int64) : sr_up T (sr_jn ρ T h) := by
  intro p hp
  unfold sr_jn
  rw [hp, Bool.true_or]
theorem sr_jn_h {ρ : sr_R} {T : Nat → Bool} {h : Int64} (hh : sr_hb ρ T (sr_nb ρ) h) {p : Nat} (e : sr_jn ρ T h p = true) : T p = true ∨ ∃ w, w < sr_nb ρ ∧ sr_met ρ T w = true ∧ p = sr_hp ρ w := by
  unfold sr_jn at e
  rw [Bool.or_eq_true, Bool.and_eq_true, decide_eq_true_iff] at e
  rcases e with e | ⟨e, k⟩
  · exact Or.inl e
  · have hl : p % 36 < 36 := Nat.mod_lt _ (by decide)
    obtain ⟨w, hw, m, y⟩ := (hh _ (by omega)).mp k
    refine Or.inr ⟨w, hw, m, ?_⟩
    rw [sr_hp_e, y]
    omega
theorem sr_jn_b {ρ : sr_R} {T : Nat → Bool} {h : Int64} {a : Nat → Int64} (hb : sr_bx a T) (hh : sr_hb ρ T (sr_nb ρ) h) : sr_bx (vp_updL a (ρ.1 / 100) (a (ρ.1 / 100) ||| h)) (sr_jn ρ T h) := by
  intro r hr f hf
  unfold sr_jn
  by_cases y : f < 36
  · have e1 : (36 * r + f) / 36 = r := by omega
    have e2 : (36 * r + f) % 36 = f := by omega
    rw [e1, e2]
    by_cases z : r = ρ.1 / 100
    · rw [← z, pk_uLs, sr_lb_or, hb r hr f hf, decide_eq_true y]
      simp
    · rw [pk_uLn z, hb r hr f hf, decide_eq_false z]
      simp
  · rw [decide_eq_false y, Bool.false_and]
    by_cases z : r = ρ.1 / 100
    · rw [← z, pk_uLs, sr_lb_or, hb r hr f hf, sr_hb_b hh (by omega) hf, decide_eq_false y]
      rfl
    · rw [pk_uLn z, hb r hr f hf, decide_eq_false y]
      rfl
theorem sr_xs1 {ρ : sr_R} {T : Nat → Bool} {h : Int64} {a : Nat → Int64} {ℓ : Nat} {Q : Prop} (hb : sr_bx a T) (wf : sr_wf ρ) (hl : ρ.1 / 200 = ℓ) (hh : sr_hb ρ T (sr_nb ρ) h) (z : ¬ (h &&& ((a (ρ.1 / 100)) ^^^ (-1))) = 0) : sr_pr ℓ T (sr_jn ρ T h) true Q := by
  refine ⟨sr_jn_u ρ T h, fun _ => ?_, fun h => nomatch h⟩
  have hr : ρ.1 / 100 < 8 := by have := wf.1; omega
  apply Classical.byContradiction
  intro n
  apply z
  rw [sr_lb_z]
  intro f hf
  rw [sr_lb_and, sr_lb_not hf]
  by_cases y : f < 36
  · rw [sr_bx_l hb hr y]
    cases e1 : sr_lb h f with
    | false => rfl
    | true =>
      cases e2 : T (36 * (ρ.1 / 100) + f) with
      | true => rfl
      | false =>
        refine absurd (sr_cd_l (ℓ := ℓ) (p := 36 * (ρ.1 / 100) + f) (sr_jn_u ρ T h) (by omega) e2 ?_) n
        unfold sr_jn
        have q1 : (36 * (ρ.1 / 100) + f) / 36 = ρ.1 / 100 := by omega
        have q2 : (36 * (ρ.1 / 100) + f) % 36 = f := by omega
        rw [q1, q2, e1, decide_eq_true rfl]
        simp
  · rw [sr_hb_b hh (by omega) hf]
    rfl
theorem sr_q_n {ρ : sr_R} {ℓ j : Nat} {T0 T : Nat → Bool} {g : Bool} (h : sr_pr ℓ T0 T g (sr_q ρ j T0)) (m : sr_met ρ T j = false) : sr_pr ℓ T0 T g (sr_q ρ (j + 1) T0) := by
  refine ⟨h.1, h.2.1, fun z => ?_⟩
  obtain ⟨e, q⟩ := h.2.2 z
  refine ⟨e, fun w hw x => ?_⟩
  by_cases y : w = j
  · subst y; rw [e] at m; rw [m] at x; exact nomatch x
  · exact q w (by omega) x
theorem sr_st_t {T : Nat → Bool} {p : Nat} (h : T p = true) : sr_st T p true = T := by
  funext q
  unfold sr_st
  by_cases z : q = p
  · subst z; rw [if_pos rfl, h]
  · rw [if_neg z]
theorem sr_st_u (T : Nat → Bool) (p : Nat) : sr_up T (sr_st T p true) := by
  intro q h
  unfold sr_st
  by_cases z : q = p
  · rw [if_pos z]
  · rw [if_neg z, h]
theorem sr_st_h {T : Nat → Bool} {p q : Nat} (h : sr_st T p true q = true) : T q = true ∨ q = p := by
  unfold sr_st at h
  by_cases z : q = p
  · exact Or.inr z
  · rw [if_neg z] at h; exact Or.inl h
theorem sr_q_t {ρ : sr_R} {ℓ j : Nat} {T0 T : Nat → Bool} {g : Bool} (h : sr_pr ℓ T0 T g (sr_q ρ j T0)) (e : T (sr_hp ρ j) = true) : sr_pr ℓ T0 (sr_st T (sr_hp ρ j) true) g (sr_q ρ (j + 1) T0) := by
  rw [sr_st_t e]
  refine ⟨h.1, h.2.1, fun z => ?_⟩
  obtain ⟨k, q⟩ := h.2.2 z
  refine ⟨k, fun w hw x => ?_⟩
  by_cases y : w = j
  · subst y; rw [← k]; exact e
  · exact q w (by omega) x
theorem sr_q_f {ρ : sr_R} {ℓ j : Nat} {T0 T : Nat → Bool} {g : Bool} {Q Q' : Prop} (h : sr_pr ℓ T0 T g Q) (hl : ρ.1 / 200 = ℓ) (e : T (sr_hp ρ j) = false) : sr_pr ℓ T0 (sr_st T (sr_hp ρ j) true) true Q' := by
  refine ⟨sr_up_t h.1 (sr_st_u _ _), fun _ => ?_, fun h => nomatch h⟩
  have a := sr_cd_m (ℓ := ℓ) h.1
  have b := sr_cd_l (ℓ := ℓ) (p := sr_hp ρ j) (sr_st_u T (sr_hp ρ j)) (by unfold sr_hp; rw [sr_pl_ly]; exact hl) e (by unfold sr_st; rw [if_pos rfl])
  omega
theorem sr_met_z {ρ : sr_R} {S : Nat → Bool} {w i : Nat} (hi : i < ρ.2.1) (h : sr_bd ρ S w i = false) : sr_met ρ S w = false := by
  unfold sr_met
  rw [decide_eq_false_iff_not]
  intro z
  rw [z i hi] at h
  exact nomatch h
theorem sr_met_o {ρ : sr_R} {S : Nat → Bool} {w : Nat} (h : ∀ i, i < ρ.2.1 → sr_bd ρ S w i = true) : sr_met ρ S w = true := by
  unfold sr_met
  rw [decide_eq_true_iff]
  exact h
end
section
section
variable {Fdl Frc : Int32} {Agf Ahf Afw : Nat → Int64} {Ada Adn Aba Abn Abl Ahd Avr Att : Nat → Int32}
def sr_r1 (r : Nat) (ρ : sr_R) (hd bl ba bn vr : Nat → Int32) : Prop := sr_wf ρ ∧ hd r = nI ρ.1 ∧ bl r = nI ρ.2.1 ∧ vr r = nI (sr_mk ρ) ∧ ∀ i, i < ρ.2.1 → ba (3 * r + i) = nI (ρ.2.2.1 i) ∧ bn (3 * r + i) = sr_bI (ρ.2.2.2 i)
def sr_tt (t : Nat → Int32) : Prop := ∀ i, 4 ≤ i → i < 10 → t i = nI (i - 4)
def sr_tw (t : Nat → Int32) (m w : Nat) : Prop := ∀ i, i < 10 → (i < 4 → m.testBit i = true) → t i = nI (sr_th m w i)
theorem sr_if {c d A B : Prop} (e : c ↔ d) (f : d → A) (g : ¬ d → B) : (c → A) ∧ (¬ c → B) := ⟨fun h => f (e.mp h), fun h => g (fun z => h (e.mpr z))⟩
theorem sr_x_rel {post : Int32 → Prop} {a : Nat} (ha : a < 800) (h : post (nI (a / 100))) : wpX_relationOf post (nI a) := by
  refine ⟨by decide, ?_⟩
  rw [sr_d100 (by omega)]
  exact h
theorem sr_x_lay {post : Int32 → Prop} {a : Nat} (ha : a < 800) (h : post (nI (a / 200))) : wpX_layerOf post (nI a) := by
  refine sr_x_rel ha ⟨by decide, ?_⟩
  rw [sr_d2 (by omega), show a / 100 / 2 = a / 200 by omega]
  exact h
theorem sr_x_mem {post : Int32 → Prop} {w : Int64} {f : Nat} (hf : f < 64) (h : post (sr_bI (sr_lb w f))) : wpX_memberOf post w (nI f) := by
  unfold wpX_memberOf
  rw [sr_mb w hf]
  exact h
theorem sr_x_occ {post : Int32 → Prop} {r v m : Nat} (hr : r < 14) (hv : v < 4) (hm : m < 16) (hvr : Avr r = nI m) (h : post (sr_bI (m.testBit v))) : wpX_occurs post (Fdl, Frc, Agf, Ahf, Afw, Ada, Adn, Aba, Abn, Abl, Ahd, Avr, Att) (nI r) (nI v) := by
  have e : Avr (nI r).toNatClampNeg = nI m := by rw [nI_clamp (by omega)]; exact hvr
  refine ⟨vp_in_nI hr (by decide), ?_⟩
  rw [e]
  cases k : m.testBit v with
  | true =>
    rw [k] at h
    exact br_t ((sr_tb m hm v hv).mpr k) h
  | false =>
    rw [k] at h
    exact br_f (fun z => by rw [(sr_tb m hm v hv).mp z] at k; exact nomatch k) h
theorem sr_x_asl {post : Int32 → Prop} {r m : Nat} (hr : r < 14) (hm : m < 16) (hvr : Avr r = nI m) (h : post (nI (sr_pw m 4))) : ∀ d v, v + d = 4 → wX_assignmentsOf_4 post (nI r) Fdl Frc Agf Ahf Afw Ada Adn Aba Abn Abl Ahd Avr Att (d + 1) (nI (sr_pw m v)) (nI v) := by
  intro d
  induction d with
  | zero =>
    intro v hv
    have e : v = 4 := by omega
    subst e
    exact br_t (by decide) h
  | succ d ih =>
    intro v hv
    refine br_f (nI_ge (b := 4) (by omega) (by decide)) (sr_x_occ hr (by omega) hm hvr ?_)
    have k := ih (v + 1) (by omega)
    simp only [sr_pw] at k
    cases e : m.testBit v with
    | false =>
      rw [e, if_neg (by decide)] at k
      exact br_t rfl (nm_r (nI_1 v) k)
    | true =>
      rw [e, if_pos rfl] at k
      refine br_f (by decide) (nm_r (e' := nI (6 * sr_pw m v)) ?_ (nm_r (nI_1 v) k))
      rw [sr_mx6, Nat.mul_comm]
theorem sr_x_asn {post : Int32 → Prop} {r m : Nat} (hr : r < 14) (hm : m < 16) (hvr : Avr r = nI m) (h : post (nI (sr_pw m 4))) : wpX_assignmentsOf post (Fdl, Frc, Agf, Ahf, Afw, Ada, Adn, Aba, Abn, Abl, Ahd, Avr, Att) (nI r) := ⟨5, sr_x_asl hr hm hvr h 4 0 rfl⟩
theorem sr_x_agl {post : SX → Prop} {r m w : Nat} (hr : r < 14) (hm : m < 16) (hvr : Avr r = nI m) (hw : w < 2 ^ 31) (h : ∀ t, sr_tt t → sr_tw t m w → post (Fdl, Frc, Agf, Ahf, Afw, Ada, Adn, Aba, Abn, Abl, Ahd, Avr, t)) : ∀ d v t, v + d = 4 → sr_tt t → (∀ i, i < v → m.testBit i = true → t i = nI (sr_rs m w i % 6)) → wX_assign_5 post (nI r) Fdl Frc (d + 1) (nI (sr_rs m w v)) (nI v) Agf Ahf Afw Ada Adn Aba Abn Abl Ahd Avr t := by
  intro d
  induction d with
  | zero =>
    intro v t hv ht hi
    have e : v = 4 := by omega
    subst e
    refine br_t (by decide) (h t ht ?_)
    intro i hi10 hb
    unfold sr_th
    by_cases z : i < 4
    · rw [if_pos z, if_pos (hb z)]
      exact hi i z (hb z)
    · rw [if_neg z]
      exact ht i (by omega) hi10
  | succ d ih =>
    intro v t hv ht hi
    have hle := sr_rs_le m w v
    refine br_f (nI_ge (b := 4) (by omega) (by decide)) (sr_x_occ hr (by omega) hm hvr ?_)
    cases e : m.testBit v with
    | false =>
      have k := ih (v + 1) t (by omega) ht (fun i hiv hb => by
        by_cases z : i = v
        · subst z; rw [e] at hb; exact nomatch hb
        · exact hi i (by omega) hb)
      simp only [sr_rs] at k
      rw [e, if_neg (by decide)] at k
      exact br_t rfl (nm_r (nI_1 v) k)
    | true =>
      have k := ih (v + 1) (upd t v (nI (sr_rs m w v % 6))) (by omega) (fun i h4 h10 => by rw [pk_un (by omega)]; exact ht i h4 h10) (fun i hiv hb => by
        by_cases z : i = v
        · subst z; rw [pk_us]
        · rw [pk_un z]; exact hi i (by omega) hb)
      simp only [sr_rs] at k
      rw [e, if_pos rfl] at k
      refine br_f (by decide) ⟨by decide, vp_in_nI (by omega) (by decide), nm_r (e' := upd t v (nI (sr_rs m w v % 6))) ?_ ⟨by decide, nm_r (sr_d6 (by omega)) (nm_r (nI_1 v) k)⟩⟩
      rw [nI_clamp (by omega), sr_r6 (by omega)]
theorem sr_x_ag {post : SX → Prop} {r m w : Nat} (hr : r < 14) (hm : m < 16) (hvr : Avr r = nI m) (hw : w < 2 ^ 31) (ht : sr_tt Att) (h : ∀ t, sr_tt t → sr_tw t m w → post (Fdl, Frc, Agf, Ahf, Afw, Ada, Adn, Aba, Abn, Abl, Ahd, Avr, t)) : wpX_assign post (Fdl, Frc, Agf, Ahf, Afw, Ada, Adn, Aba, Abn, Abl, Ahd, Avr, Att) (nI r) (nI w) :=
  ⟨5, sr_x_agl hr hm hvr hw h 4 0 Att rfl ht (fun i hi => absurd hi (Nat.not_lt_zero i))⟩
theorem sr_x_fct {post : Int32 → Prop} {a m w : Nat} (ha : a < 800) (hh : sr_hs m a) (ht : sr_tw Att m w) (h : post (nI (sr_ft m w a))) : wpX_factOf post (Fdl, Frc, Agf, Ahf, Afw, Ada, Adn, Aba, Abn, Abl, Ahd, Avr, Att) (nI a) := by
  refine ⟨by decide, by decide, nm_r (sr_t1 ha) ⟨by decide, nm_r (sr_t2 ha) ⟨vp_in_nI (Nat.mod_lt _ (by decide)) (by decide), vp_in_nI (Nat.mod_lt _ (by decide)) (by decide), ?_⟩⟩⟩
  rw [nI_clamp (by omega), nI_clamp (by omega), ht _ (Nat.mod_lt _ (by decide)) hh.1, ht _ (Nat.mod_lt _ (by decide)) hh.2, sr_m6, nI_add]
  exact h
theorem sr_x_cnl {post : Int32 → Prop} {w : Int64} (h : post (nI (sr_cn (fun f => sr_lb w f) 36))) : ∀ d v, v + d = 36 → wX_countOf_4 post w (d + 1) (nI (sr_cn (fun f => sr_lb w f) v)) (nI v) := by
  intro d
  induction d with
  | zero =>
    intro v hv
    have e : v = 36 := by omega
    subst e
    exact br_t (by decide) h
  | succ d ih =>
    intro v hv
    have k := ih (v + 1) (by omega)
    refine br_f (nI_ge (b := 36) (by omega) (by decide)) (sr_x_mem (by omega) (nm_r ?_ (nm_r (nI_1 v) k)))
    rw [sr_bI_n, nI_add]
    rfl
theorem sr_x_cnt {post : Int32 → Prop} {w : Int64} (h : post (nI (sr_cn (fun f => sr_lb w f) 36))) : wpX_countOf post w := ⟨37, sr_x_cnl h 36 0 rfl⟩
end
end
section
section
variable {Fdl Frc : Int32} {Agf Ahf Afw : Nat → Int64} {Ada Adn Aba Abn Abl Ahd Avr Att : Nat → Int32}
theorem sr_x_67H {post J : Int32 → Prop} {x4 z : Int32} {p : Nat} {b n : Bool} (hp : p < 42) (hz : z = sr_bI b) (hn : Abn p = sr_bI n) (h0 : b = n → post 0) (h1 : ¬ b = n → J (nI (p + 1))) : wX_bodyIsMet__heldFacts_67 post J x4 (nI p) z Fdl Frc Agf Ahf Afw Ada Adn Aba Abn Abl Ahd Avr Att := by
  refine ⟨vp_in_nI hp (by decide), sr_if ?_ h0 (fun hb => nm_r (nI_1 p) (h1 hb))⟩
  rw [nI_clamp (by omega), hz, hn]
  exact sr_bI_i
theorem sr_x_bmlH {post : Int32 → Prop} {r w : Nat} {ρ : sr_R} {T : Nat → Bool} (hr : r < 14) (h1 : sr_r1 r ρ Ahd Abl Aba Abn Avr) (hb : sr_bx Ahf T) (ht : sr_tw Att (sr_mk ρ) w) (h : post (sr_bI (sr_met ρ T w))) : ∀ d i, i + d = ρ.2.1 → (∀ j, j < i → sr_bd ρ T w j = true) → wX_bodyIsMet__heldFacts_17 post (nI (3 * r + ρ.2.1)) Fdl Frc Agf Ahf Afw Ada Adn Aba Abn Abl Ahd Avr Att (d + 1) (nI (3 * r + i)) := by
  obtain ⟨wf, e1, e2, e3, e4⟩ := h1
  have hl3 := wf.2.1
  intro d
  induction d with
  | zero =>
    intro i hi hj
    have e : i = ρ.2.1 := by omega
    subst e
    rw [sr_met_o hj] at h
    exact br_t (nI_le (Nat.le_refl _) (by omega)) h
  | succ d ih =>
    intro i hi hj
    have hil : i < ρ.2.1 := by omega
    obtain ⟨ea, en⟩ := e4 i hil
    have hA := (wf.2.2 i hil).1
    have eA : Aba (nI (3 * r + i)).toNatClampNeg = nI (ρ.2.2.1 i) := by rw [nI_clamp (by omega)]; exact ea
    refine br_f (nI_ge (by omega) (by omega)) ⟨vp_in_nI (by omega) (by decide), ?_⟩
    rw [eA]
    refine sr_x_rel hA ⟨vp_in_nI (by omega) (by decide), sr_x_fct hA (sr_mk_at ρ hil) ht ⟨vp_in_nI (by omega) (by decide), ?_⟩⟩
    have hft := sr_ft_lt (sr_mk ρ) w (ρ.2.2.1 i)
    refine sr_x_mem (by omega) ?_
    rw [nI_clamp (by omega), sr_bx_l hb (by omega) hft]
    have hbd : sr_bd ρ T w i = (T (36 * (ρ.2.2.1 i / 100) + sr_ft (sr_mk ρ) w (ρ.2.2.1 i)) != ρ.2.2.2 i) := rfl
    generalize T (36 * (ρ.2.2.1 i / 100) + sr_ft (sr_mk ρ) w (ρ.2.2.1 i)) = b at hbd
    have k0 : b = ρ.2.2.2 i → post 0 := fun z => by
      rw [sr_met_z hil (by rw [hbd, z]; simp)] at h
      exact h
    have k1 : ¬ b = ρ.2.2.2 i → wX_bodyIsMet__heldFacts_17 post (nI (3 * r + ρ.2.1)) Fdl Frc Agf Ahf Afw Ada Adn Aba Abn Abl Ahd Avr Att (d + 1) (nI (3 * r + i + 1)) := fun z => ih (i + 1) (by omega) (fun j hji => by
      by_cases y : j = i
      · subst y; rw [hbd]; simpa using z
      · exact hj j (by omega))
    cases b with
    | true => exact br_t rfl (sr_x_67H (by omega) rfl en k0 k1)
    | false => exact br_f (by decide) (sr_x_67H (by omega) rfl en k0 k1)
theorem sr_x_bmH {post : Int32 → Prop} {r w : Nat} {ρ : sr_R} {T : Nat → Bool} (hr : r < 14) (h1 : sr_r1 r ρ Ahd Abl Aba Abn Avr) (hb : sr_bx Ahf T) (ht : sr_tw Att (sr_mk ρ) w) (h : post (sr_bI (sr_met ρ T w))) : wpX_bodyIsMet__heldFacts post (Fdl, Frc, Agf, Ahf, Afw, Ada, Adn, Aba, Abn, Abl, Ahd, Avr, Att) (nI r) := by
  refine nm_r (sr_m3 r) ⟨vp_in_nI hr (by decide), nm_r (e' := nI (3 * r + ρ.2.1)) ?_ ⟨ρ.2.1 + 1, ?_⟩⟩
  · rw [nI_clamp (by omega), h1.2.2.1, nI_add]
  · exact sr_x_bmlH hr h1 hb ht h ρ.2.1 0 (by omega) (fun j hj => absurd hj (Nat.not_lt_zero j))
theorem sr_x_hdlH {post : Int64 → SX → Prop} {r : Nat} {ρ : sr_R} {T : Nat → Bool} (hr : r < 14) (h1 : sr_r1 r ρ Ahd Abl Aba Abn Avr) (hb : sr_bx Ahf T) (K : ∀ t h, sr_tt t → sr_hb ρ T (sr_nb ρ) h → post h (Fdl, Frc, Agf, Ahf, Afw, Ada, Adn, Aba, Abn, Abl, Ahd, Avr, t)) : ∀ d j t h, j + d = sr_nb ρ → sr_tt t → sr_hb ρ T j h → wX_headsOf__heldFacts_12 post (nI r) (nI (sr_nb ρ)) (d + 1) h (nI j) Fdl Frc Agf Ahf Afw Ada Adn Aba Abn Abl Ahd Avr t := by
  have hnb := sr_nb_le ρ
  intro d
  induction d with
  | zero =>
    intro j t h hj ht hh
    have e : j = sr_nb ρ := by omega
    subst e
    exact br_t (nI_le (Nat.le_refl _) (by omega)) (K t h ht hh)
  | succ d ih =>
    intro j t h hj ht hh
    refine br_f (nI_ge (by omega) (by omega)) (sr_x_ag hr (sr_mk_lt ρ) h1.2.2.2.1 (by omega) ht (fun t' ht' htw => ?_))
    refine sr_x_bmH hr h1 hb htw ?_
    cases m : sr_met ρ T j with
    | false => exact br_t rfl (nm_r (nI_1 j) (ih (j + 1) t' h (by omega) ht' (sr_hb_n hh m)))
    | true =>
      refine br_f (by decide) ⟨vp_in_nI hr (by decide), ?_⟩
      have eh : Ahd (nI r).toNatClampNeg = nI ρ.1 := by rw [nI_clamp (by omega)]; exact h1.2.1
      rw [eh]
      exact sr_x_fct h1.1.1 (sr_mk_hd ρ) htw (nm_e (nm_r (nI_1 j) (ih (j + 1) t' _ (by omega) ht' (sr_hb_s hh m))))
theorem sr_x_hdH {post : Int64 → SX → Prop} {r : Nat} {ρ : sr_R} {T : Nat → Bool} (hr : r < 14) (h1 : sr_r1 r ρ Ahd Abl Aba Abn Avr) (hb : sr_bx Ahf T) (ht : sr_tt Att) (K : ∀ t h, sr_tt t → sr_hb ρ T (sr_nb ρ) h → post h (Fdl, Frc, Agf, Ahf, Afw, Ada, Adn, Aba, Abn, Abl, Ahd, Avr, t)) : wpX_headsOf__heldFacts post (Fdl, Frc, Agf, Ahf, Afw, Ada, Adn, Aba, Abn, Abl, Ahd, Avr, Att) (nI r) :=
  sr_x_asn hr (sr_mk_lt ρ) h1.2.2.2.1 ⟨sr_nb ρ + 1, sr_x_hdlH hr h1 hb K (sr_nb ρ) 0 Att 0 (by omega) ht (sr_hb_0 ρ T)⟩
theorem sr_x_grlH {post : Int32 → SX → Prop} {lo : Int32} {c wo ℓ : Nat} {R : Nat → sr_R} {S T0 : Nat → Bool} (hc : c ≤ 14) (hrc : Frc = nI c) (hl4 : ℓ < 4) (hlo : ∀ r, r < 14 → (nI r = lo ↔ r = wo)) (hR : ∀ r, r < c → sr_r1 r (R r) Ahd Abl Aba Abn Avr) (K : ∀ t F T g, sr_tt t → sr_bx F T → sr_in R c wo ℓ S T → sr_pr ℓ T0 T g (sr_cl R c wo ℓ T0) → post (sr_bI g) (Fdl, Frc, Agf, F, Afw, Ada, Adn, Aba, Abn, Abl, Ahd, Avr, t)) : ∀ d j t F T g, j + d = c → sr_tt t → sr_bx F T → sr_in R c wo ℓ S T → sr_pr ℓ T0 T g (sr_cl R j wo ℓ T0) → wX_growLayer__heldFacts_6 post (nI ℓ) lo (d + 1) (sr_bI g) (nI j) Fdl Frc Agf F Afw Ada Adn Aba Abn Abl Ahd Avr t := by
  subst hrc
  intro d
  induction d with
  | zero =>
    intro j t F T g hj ht hb hi hp
    have e : j = c := by omega
    subst e
    exact br_t (nI_le (Nat.le_refl _) (by omega)) ⟨sr_nrw g, K t F T g ht hb hi hp⟩
  | succ d ih =>
    intro j t F T g hj ht hb hi hp
    have hjc : j < c := by omega
    refine br_f (nI_ge (by omega) (by omega)) (sr_if (hlo j (by omega)) (fun z => nm_r (nI_1 j) (ih (j + 1) t F T g (by omega) ht hb hi (sr_pr_q hp fun q => sr_cl_s q fun y => absurd z y))) (fun z => ⟨vp_in_nI (by omega) (by decide), ?_⟩))
    have h1 := hR j hjc
    have h800 := h1.1.1
    have eh : Ahd (nI j).toNatClampNeg = nI (R j).1 := by rw [nI_clamp (by omega)]; exact h1.2.1
    rw [eh]
    refine sr_x_lay h800 (sr_if (nI_eq (by omega) (by omega)) (fun y => ⟨vp_in_nI (by omega) (by decide), sr_x_rel h800 ?_⟩) (fun y => nm_r (nI_1 j) (ih (j + 1) t F T g (by omega) ht hb hi (sr_pr_q hp fun q => sr_cl_s q fun _ x => absurd x y))))
    refine sr_x_hdH (by omega) h1 hb ht (fun t' h ht' hh => ⟨vp_in_nI (by omega) (by decide), ?_⟩)
    have ec : (nI ((R j).1 / 100)).toNatClampNeg = (R j).1 / 100 := nI_clamp (by omega)
    rw [ec]
    refine br_c (fun x => nm_r (nI_1 j) (ih (j + 1) t' F T g (by omega) ht' hb hi ?_)) (fun x => ⟨vp_in_nI (by omega) (by decide), vp_in_nI (by omega) (by decide), nm_e (nm_r (nI_1 j) (ih (j + 1) t' _ (sr_jn (R j) T h) true (by omega) ht' (sr_jn_b hb hh) (sr_in_s hjc z y h1.1 hi (sr_jn_u _ _ _) (fun p e => sr_jn_h hh e)) ?_))⟩)
    · have a := sr_pr_c (Q2 := fun T => sr_q (R j) (sr_nb (R j)) T) hp (sr_pr_0 (sr_xs0 hb h1.1 hh x))
      rw [Bool.or_false] at a
      exact sr_pr_q a fun q => sr_cl_s q.1 fun _ _ => q.2
    · have a := sr_pr_c (Q2 := fun T => sr_q (R j) (sr_nb (R j)) T) hp (sr_xs1 hb h1.1 y hh x)
      rw [Bool.or_true] at a
      exact sr_pr_q a fun q => sr_cl_s q.1 fun _ _ => q.2
theorem sr_x_grH {post : Int32 → SX → Prop} {lo : Int32} {c wo ℓ : Nat} {R : Nat → sr_R} {S T0 : Nat → Bool} (hc : c ≤ 14) (hrc : Frc = nI c) (hl4 : ℓ < 4) (hlo : ∀ r, r < 14 → (nI r = lo ↔ r = wo)) (hR : ∀ r, r < c → sr_r1 r (R r) Ahd Abl Aba Abn Avr) (ht : sr_tt Att) (hb : sr_bx Ahf T0) (hi : sr_in R c wo ℓ S T0) (K : ∀ t F T g, sr_tt t → sr_bx F T → sr_in R c wo ℓ S T → sr_pr ℓ T0 T g (sr_cl R c wo ℓ T0) → post (sr_bI g) (Fdl, Frc, Agf, F, Afw, Ada, Adn, Aba, Abn, Abl, Ahd, Avr, t)) : wpX_growLayer__heldFacts post (Fdl, Frc, Agf, Ahf, Afw, Ada, Adn, Aba, Abn, Abl, Ahd, Avr, Att) (nI ℓ) lo :=
  ⟨c + 1, sr_x_grlH hc hrc hl4 hlo hR K c 0 Att Ahf T0 false (by omega) ht hb hi (sr_pr_0 (fun r hr => absurd hr (Nat.not_lt_zero r)))⟩
theorem sr_x_67W {post J : Int32 → Prop} {x4 z : Int32} {p : Nat} {b n : Bool} (hp : p < 42) (hz : z = sr_bI b) (hn : Abn p = sr_bI n) (h0 : b = n → post 0) (h1 : ¬ b = n → J (nI (p + 1))) : wX_bodyIsMet__factsWithout_67 post J x4 (nI p) z Fdl Frc Agf Ahf Afw Ada Adn Aba Abn Abl Ahd Avr Att := by
  refine ⟨vp_in_nI hp (by decide), sr_if ?_ h0 (fun hb => nm_r (nI_1 p) (h1 hb))⟩
  rw [nI_clamp (by omega), hz, hn]
  exact sr_bI_i
theorem sr_x_bmlW {post : Int32 → Prop} {r w : Nat} {ρ : sr_R} {T : Nat → Bool} (hr : r < 14) (h1 : sr_r1 r ρ Ahd Abl Aba Abn Avr) (hb : sr_bx Afw T) (ht : sr_tw Att (sr_mk ρ) w) (h : post (sr_bI (sr_met ρ T w))) : ∀ d i, i + d = ρ.2.1 → (∀ j, j < i → sr_bd ρ T w j = true) → wX_bodyIsMet__factsWithout_17 post (nI (3 * r + ρ.2.1)) Fdl Frc Agf Ahf Afw Ada Adn Aba Abn Abl Ahd Avr Att (d + 1) (nI (3 * r + i)) := by
  obtain ⟨wf, e1, e2, e3, e4⟩ := h1
  have hl3 := wf.2.1
  intro d
  induction d with
  | zero =>
    intro i hi hj
    have e : i = ρ.2.1 := by omega
    subst e
    rw [sr_met_o hj] at h
    exact br_t (nI_le (Nat.le_refl _) (by omega)) h
  | succ d ih =>
    intro i hi hj
    have hil : i < ρ.2.1 := by omega
    obtain ⟨ea, en⟩ := e4 i hil
    have hA := (wf.2.2 i hil).1
    have eA : Aba (nI (3 * r + i)).toNatClampNeg = nI (ρ.2.2.1 i) := by rw [nI_clamp (by omega)]; exact ea
    refine br_f (nI_ge (by omega) (by omega)) ⟨vp_in_nI (by omega) (by decide), ?_⟩
    rw [eA]
    refine sr_x_rel hA ⟨vp_in_nI (by omega) (by decide), sr_x_fct hA (sr_mk_at ρ hil) ht ⟨vp_in_nI (by omega) (by decide), ?_⟩⟩
    have hft := sr_ft_lt (sr_mk ρ) w (ρ.2.2.1 i)
    refine sr_x_mem (by omega) ?_
    rw [nI_clamp (by omega), sr_bx_l hb (by omega) hft]
    have hbd : sr_bd ρ T w i = (T (36 * (ρ.2.2.1 i / 100) + sr_ft (sr_mk ρ) w (ρ.2.2.1 i)) != ρ.2.2.2 i) := rfl
    generalize T (36 * (ρ.2.2.1 i / 100) + sr_ft (sr_mk ρ) w (ρ.2.2.1 i)) = b at hbd
    have k0 : b = ρ.2.2.2 i → post 0 := fun z => by
      rw [sr_met_z hil (by rw [hbd, z]; simp)] at h
      exact h
    have k1 : ¬ b = ρ.2.2.2 i → wX_bodyIsMet__factsWithout_17 post (nI (3 * r + ρ.2.1)) Fdl Frc Agf Ahf Afw Ada Adn Aba Abn Abl Ahd Avr Att (d + 1) (nI (3 * r + i + 1)) := fun z => ih (i + 1) (by omega) (fun j hji => by
      by_cases y : j = i
      · subst y; rw [hbd]; simpa using z
      · exact hj j (by omega))
    cases b with
    | true => exact br_t rfl (sr_x_67W (by omega) rfl en k0 k1)
    | false => exact br_f (by decide) (sr_x_67W (by omega) rfl en k0 k1)
theorem sr_x_bmW {post : Int32 → Prop} {r w : Nat} {ρ : sr_R} {T : Nat → Bool} (hr : r < 14) (h1 : sr_r1 r ρ Ahd Abl Aba Abn Avr) (hb : sr_bx Afw T) (ht : sr_tw Att (sr_mk ρ) w) (h : post (sr_bI (sr_met ρ T w))) : wpX_bodyIsMet__factsWithout post (Fdl, Frc, Agf, Ahf, Afw, Ada, Adn, Aba, Abn, Abl, Ahd, Avr, Att) (nI r) := by
  refine nm_r (sr_m3 r) ⟨vp_in_nI hr (by decide), nm_r (e' := nI (3 * r + ρ.2.1)) ?_ ⟨ρ.2.1 + 1, ?_⟩⟩
  · rw [nI_clamp (by omega), h1.2.2.1, nI_add]
  · exact sr_x_bmlW hr h1 hb ht h ρ.2.1 0 (by omega) (fun j hj => absurd hj (Nat.not_lt_zero j))
theorem sr_x_hdlW {post : Int64 → SX → Prop} {r : Nat} {ρ : sr_R} {T : Nat → Bool} (hr : r < 14) (h1 : sr_r1 r ρ Ahd Abl Aba Abn Avr) (hb : sr_bx Afw T) (K : ∀ t h, sr_tt t → sr_hb ρ T (sr_nb ρ) h → post h (Fdl, Frc, Agf, Ahf, Afw, Ada, Adn, Aba, Abn, Abl, Ahd, Avr, t)) : ∀ d j t h, j + d = sr_nb ρ → sr_tt t → sr_hb ρ T j h → wX_headsOf__factsWithout_12 post (nI r) (nI (sr_nb ρ)) (d + 1) h (nI j) Fdl Frc Agf Ahf Afw Ada Adn Aba Abn Abl Ahd Avr t := by
  have hnb := sr_nb_le ρ
  intro d
  induction d with
  | zero =>
    intro j t h hj ht hh
    have e : j = sr_nb ρ := by omega
    subst e
    exact br_t (nI_le (Nat.le_refl _) (by omega)) (K t h ht hh)
  | succ d ih =>
    intro j t h hj ht hh
    refine br_f (nI_ge (by omega) (by omega)) (sr_x_ag hr (sr_mk_lt ρ) h1.2.2.2.1 (by omega) ht (fun t' ht' htw => ?_))
    refine sr_x_bmW hr h1 hb htw ?_
    cases m : sr_met ρ T j with
    | false => exact br_t rfl (nm_r (nI_1 j) (ih (j + 1) t' h (by omega) ht' (sr_hb_n hh m)))
    | true =>
      refine br_f (by decide) ⟨vp_in_nI hr (by decide), ?_⟩
      have eh : Ahd (nI r).toNatClampNeg = nI ρ.1 := by rw [nI_clamp (by omega)]; exact h1.2.1
      rw [eh]
      exact sr_x_fct h1.1.1 (sr_mk_hd ρ) htw (nm_e (nm_r (nI_1 j) (ih (j + 1) t' _ (by omega) ht' (sr_hb_s hh m))))
theorem sr_x_hdW {post : Int64 → SX → Prop} {r : Nat} {ρ : sr_R} {T : Nat → Bool} (hr : r < 14) (h1 : sr_r1 r ρ Ahd Abl Aba Abn Avr) (hb : sr_bx Afw T) (ht : sr_tt Att) (K : ∀ t h, sr_tt t → sr_hb ρ T (sr_nb ρ) h → post h (Fdl, Frc, Agf, Ahf, Afw, Ada, Adn, Aba, Abn, Abl, Ahd, Avr, t)) : wpX_headsOf__factsWithout post (Fdl, Frc, Agf, Ahf, Afw, Ada, Adn, Aba, Abn, Abl, Ahd, Avr, Att) (nI r) :=
  sr_x_asn hr (sr_mk_lt ρ) h1.2.2.2.1 ⟨sr_nb ρ + 1, sr_x_hdlW hr h1 hb K (sr_nb ρ) 0 Att 0 (by omega) ht (sr_hb_0 ρ T)⟩
theorem sr_x_grlW {post : Int32 → SX → Prop} {lo : Int32} {c wo ℓ : Nat} {R : Nat → sr_R} {S T0 : Nat → Bool} (hc : c ≤ 14) (hrc : Frc = nI c) (hl4 : ℓ < 4) (hlo : ∀ r, r < 14 → (nI r = lo ↔ r = wo)) (hR : ∀ r, r < c → sr_r1 r (R r) Ahd Abl Aba Abn Avr) (K : ∀ t F T g, sr_tt t → sr_bx F T → sr_in R c wo ℓ S T → sr_pr ℓ T0 T g (sr_cl R c wo ℓ T0) → post (sr_bI g) (Fdl, Frc, Agf, Ahf, F, Ada, Adn, Aba, Abn, Abl, Ahd, Avr, t)) : ∀ d j t F T g, j + d = c → sr_tt t → sr_bx F T → sr_in R c wo ℓ S T → sr_pr ℓ T0 T g (sr_cl R j wo ℓ T0) → wX_growLayer__factsWithout_6 post (nI ℓ) lo (d + 1) (sr_bI g) (nI j) Fdl Frc Agf Ahf F Ada Adn Aba Abn Abl Ahd Avr t := by
  subst hrc
  intro d
  induction d with
  | zero =>
    intro j t F T g hj ht hb hi hp
    have e : j = c := by omega
    subst e
    exact br_t (nI_le (Nat.le_refl _) (by omega)) ⟨sr_nrw g, K t F T g ht hb hi hp⟩
  | succ d ih =>
    intro j t F T g hj ht hb hi hp
    have hjc : j < c := by omega
    refine br_f (nI_ge (by omega) (by omega)) (sr_if (hlo j (by omega)) (fun z => nm_r (nI_1 j) (ih (j + 1) t F T g (by omega) ht hb hi (sr_pr_q hp fun q => sr_cl_s q fun y => absurd z y))) (fun z => ⟨vp_in_nI (by omega) (by decide), ?_⟩))
    have h1 := hR j hjc
    have h800 := h1.1.1
    have eh : Ahd (nI j).toNatClampNeg = nI (R j).1 := by rw [nI_clamp (by omega)]; exact h1.2.1
    rw [eh]
    refine sr_x_lay h800 (sr_if (nI_eq (by omega) (by omega)) (fun y => ⟨vp_in_nI (by omega) (by decide), sr_x_rel h800 ?_⟩) (fun y => nm_r (nI_1 j) (ih (j + 1) t F T g (by omega) ht hb hi (sr_pr_q hp fun q => sr_cl_s q fun _ x => absurd x y))))
    refine sr_x_hdW (by omega) h1 hb ht (fun t' h ht' hh => ⟨vp_in_nI (by omega) (by decide), ?_⟩)
    have ec : (nI ((R j).1 / 100)).toNatClampNeg = (R j).1 / 100 := nI_clamp (by omega)
    rw [ec]
    refine br_c (fun x => nm_r (nI_1 j) (ih (j + 1) t' F T g (by omega) ht' hb hi ?_)) (fun x => ⟨vp_in_nI (by omega) (by decide), vp_in_nI (by omega) (by decide), nm_e (nm_r (nI_1 j) (ih (j + 1) t' _ (sr_jn (R j) T h) true (by omega) ht' (sr_jn_b hb hh) (sr_in_s hjc z y h1.1 hi (sr_jn_u _ _ _) (fun p e => sr_jn_h hh e)) ?_))⟩)
    · have a := sr_pr_c (Q2 := fun T => sr_q (R j) (sr_nb (R j)) T) hp (sr_pr_0 (sr_xs0 hb h1.1 hh x))
      rw [Bool.or_false] at a
      exact sr_pr_q a fun q => sr_cl_s q.1 fun _ _ => q.2
    · have a := sr_pr_c (Q2 := fun T => sr_q (R j) (sr_nb (R j)) T) hp (sr_xs1 hb h1.1 y hh x)
      rw [Bool.or_true] at a
      exact sr_pr_q a fun q => sr_cl_s q.1 fun _ _ => q.2
theorem sr_x_grW {post : Int32 → SX → Prop} {lo : Int32} {c wo ℓ : Nat} {R : Nat → sr_R} {S T0 : Nat → Bool} (hc : c ≤ 14) (hrc : Frc = nI c) (hl4 : ℓ < 4) (hlo : ∀ r, r < 14 → (nI r = lo ↔ r = wo)) (hR : ∀ r, r < c → sr_r1 r (R r) Ahd Abl Aba Abn Avr) (ht : sr_tt Att) (hb : sr_bx Afw T0) (hi : sr_in R c wo ℓ S T0) (K : ∀ t F T g, sr_tt t → sr_bx F T → sr_in R c wo ℓ S T → sr_pr ℓ T0 T g (sr_cl R c wo ℓ T0) → post (sr_bI g) (Fdl, Frc, Agf, Ahf, F, Ada, Adn, Aba, Abn, Abl, Ahd, Avr, t)) : wpX_growLayer__factsWithout post (Fdl, Frc, Agf, Ahf, Afw, Ada, Adn, Aba, Abn, Abl, Ahd, Avr, Att) (nI ℓ) lo :=
  ⟨c + 1, sr_x_grlW hc hrc hl4 hlo hR K c 0 Att Afw T0 false (by omega) ht hb hi (sr_pr_0 (fun r hr => absurd hr (Nat.not_lt_zero r)))⟩
end
end
section
section
variable {Fdl Frc : Int32} {Agf Ahf Afw : Nat → Int64} {Ada Adn Aba Abn Abl Ahd Avr Att : Nat → Int32}
theorem sr_x_rdlH {post : SX → Prop} {J : Int32 → Int32 → Int32 → (Nat → Int64) → (Nat → Int64) → (Nat → Int64) → (Nat → Int32) → (Nat → Int32) → (Nat → Int32) → (Nat → Int32) → (Nat → Int32) → (Nat → Int32) → (Nat → Int32) → (Nat → Int32) → Prop} {lo : Int32} {c wo ℓ : Nat} {R : Nat → sr_R} {S : Nat → Bool} (hc : c ≤ 14) (hrc : Frc = nI c) (hl4 : ℓ < 4) (hlo : ∀ r, r < 14 → (nI r = lo ↔ r = wo)) (hR : ∀ r, r < c → sr_r1 r (R r) Ahd Abl Aba Abn Avr) (K : ∀ t F T, sr_tt t → sr_bx F T → sr_lf R c wo ℓ S T → J (nI (ℓ + 1)) Fdl Frc Agf F Afw Ada Adn Aba Abn Abl Ahd Avr t) : ∀ d i t F T g, i + d = 73 → sr_tt t → sr_bx F T → sr_rd R c wo ℓ S T i g → wX_derive__heldFacts_36 post J lo (nI ℓ) (d + 1) (sr_bI g) (nI i) Fdl Frc Agf F Afw Ada Adn Aba Abn Abl Ahd Avr t := by
  intro d
  induction d with
  | zero =>
    intro i t F T g hi ht hb hd
    cases g with
    | false => exact br_t rfl (nm_r (nI_1 ℓ) (K t F T ht hb (sr_rd_f hd)))
    | true => have := sr_rd_x hd; omega
  | succ d ih =>
    intro i t F T g hi ht hb hd
    cases g with
    | false => exact br_t rfl (nm_r (nI_1 ℓ) (K t F T ht hb (sr_rd_f hd)))
    | true =>
      refine br_f (by decide) (br_f (nI_ge (b := 73) (by omega) (by decide)) (sr_x_grH hc hrc hl4 hlo hR ht hb hd.1 (fun t' F' T' g' ht' hb' hi' hp' => ?_)))
      exact nm_r (nI_1 i) (ih (i + 1) t' F' T' g' (by omega) ht' hb' (sr_rd_s hd hi' hp'))
theorem sr_x_d25H {post : SX → Prop} {lo : Int32} {c wo : Nat} {R : Nat → sr_R} {G : Nat → Bool} (hc : c ≤ 14) (hrc : Frc = nI c) (hlo : ∀ r, r < 14 → (nI r = lo ↔ r = wo)) (hR : ∀ r, r < c → sr_r1 r (R r) Ahd Abl Aba Abn Avr) (K : ∀ t F T, sr_tt t → sr_bx F T → sr_dn R c wo G 4 T → post (Fdl, Frc, Agf, F, Afw, Ada, Adn, Aba, Abn, Abl, Ahd, Avr, t)) : ∀ d ℓ t F T, ℓ + d = 4 → sr_tt t → sr_bx F T → sr_dn R c wo G ℓ T → wX_derive__heldFacts_25 post lo (d + 1) (nI ℓ) Fdl Frc Agf F Afw Ada Adn Aba Abn Abl Ahd Avr t := by
  intro d
  induction d with
  | zero =>
    intro ℓ t F T hl ht hb hd
    have e : ℓ = 4 := by omega
    subst e
    exact br_t (by decide) (K t F T ht hb hd)
  | succ d ih =>
    intro ℓ t F T hl ht hb hd
    refine br_f (nI_ge (b := 4) (by omega) (by decide)) ⟨74, ?_⟩
    exact sr_x_rdlH hc hrc (by omega) hlo hR (fun t' F' T' ht' hb' hf' => ih (ℓ + 1) t' F' T' (by omega) ht' hb' ⟨T, hd, hf'⟩) 73 0 t F T true rfl ht hb (sr_rd_0 R c wo ℓ T)
theorem sr_x_d2H {post : SX → Prop} {lo : Int32} {c wo : Nat} {R : Nat → sr_R} {G : Nat → Bool} (hc : c ≤ 14) (hrc : Frc = nI c) (hlo : ∀ r, r < 14 → (nI r = lo ↔ r = wo)) (hR : ∀ r, r < c → sr_r1 r (R r) Ahd Abl Aba Abn Avr) (ht : sr_tt Att) (hG : sr_bx Agf G) (K : ∀ t F T, sr_tt t → sr_bx F T → sr_dn R c wo G 4 T → post (Fdl, Frc, Agf, F, Afw, Ada, Adn, Aba, Abn, Abl, Ahd, Avr, t)) : ∀ d i F, i + d = 8 → (∀ r, r < i → F r = Agf r) → wX_derive__heldFacts_2 post lo Fdl Frc (d + 1) (nI i) Agf F Afw Ada Adn Aba Abn Abl Ahd Avr Att := by
  intro d
  induction d with
  | zero =>
    intro i F hi hF
    have e : i = 8 := by omega
    subst e
    refine br_t (by decide) ⟨5, sr_x_d25H hc hrc hlo hR K 4 0 Att F G rfl ht ?_ rfl⟩
    intro r hr f hf
    rw [hF r hr]
    exact hG r hr f hf
  | succ d ih =>
    intro i F hi hF
    refine br_f (nI_ge (b := 8) (by omega) (by decide)) ⟨vp_in_nI (by omega) (by decide), vp_in_nI (by omega) (by decide), nm_r (e' := vp_updL F i (Agf i)) ?_ (nm_r (nI_1 i) (ih (i + 1) _ (by omega) ?_))⟩
    · rw [nI_clamp (by omega)]
    · intro r hr
      by_cases z : r = i
      · subst z; rw [pk_uLs]
      · rw [pk_uLn z]; exact hF r (by omega)
theorem sr_x_dH {post : SX → Prop} {lo : Int32} {c wo : Nat} {R : Nat → sr_R} {G : Nat → Bool} (hc : c ≤ 14) (hrc : Frc = nI c) (hlo : ∀ r, r < 14 → (nI r = lo ↔ r = wo)) (hR : ∀ r, r < c → sr_r1 r (R r) Ahd Abl Aba Abn Avr) (ht : sr_tt Att) (hG : sr_bx Agf G) (K : ∀ t F T, sr_tt t → sr_bx F T → sr_dn R c wo G 4 T → post (Fdl, Frc, Agf, F, Afw, Ada, Adn, Aba, Abn, Abl, Ahd, Avr, t)) : wpX_derive__heldFacts post (Fdl, Frc, Agf, Ahf, Afw, Ada, Adn, Aba, Abn, Abl, Ahd, Avr, Att) lo :=
  ⟨9, sr_x_d2H hc hrc hlo hR ht hG K 8 0 Ahf rfl (fun r hr => absurd hr (Nat.not_lt_zero r))⟩
theorem sr_x_rdlW {post : SX → Prop} {J : Int32 → Int32 → Int32 → (Nat → Int64) → (Nat → Int64) → (Nat → Int64) → (Nat → Int32) → (Nat → Int32) → (Nat → Int32) → (Nat → Int32) → (Nat → Int32) → (Nat → Int32) → (Nat → Int32) → (Nat → Int32) → Prop} {lo : Int32} {c wo ℓ : Nat} {R : Nat → sr_R} {S : Nat → Bool} (hc : c ≤ 14) (hrc : Frc = nI c) (hl4 : ℓ < 4) (hlo : ∀ r, r < 14 → (nI r = lo ↔ r = wo)) (hR : ∀ r, r < c → sr_r1 r (R r) Ahd Abl Aba Abn Avr) (K : ∀ t F T, sr_tt t → sr_bx F T → sr_lf R c wo ℓ S T → J (nI (ℓ + 1)) Fdl Frc Agf Ahf F Ada Adn Aba Abn Abl Ahd Avr t) : ∀ d i t F T g, i + d = 73 → sr_tt t → sr_bx F T → sr_rd R c wo ℓ S T i g → wX_derive__factsWithout_36 post J lo (nI ℓ) (d + 1) (sr_bI g) (nI i) Fdl Frc Agf Ahf F Ada Adn Aba Abn Abl Ahd Avr t := by
  intro d
  induction d with
  | zero =>
    intro i t F T g hi ht hb hd
    cases g with
    | false => exact br_t rfl (nm_r (nI_1 ℓ) (K t F T ht hb (sr_rd_f hd)))
    | true => have := sr_rd_x hd; omega
  | succ d ih =>
    intro i t F T g hi ht hb hd
    cases g with
    | false => exact br_t rfl (nm_r (nI_1 ℓ) (K t F T ht hb (sr_rd_f hd)))
    | true =>
      refine br_f (by decide) (br_f (nI_ge (b := 73) (by omega) (by decide)) (sr_x_grW hc hrc hl4 hlo hR ht hb hd.1 (fun t' F' T' g' ht' hb' hi' hp' => ?_)))
      exact nm_r (nI_1 i) (ih (i + 1) t' F' T' g' (by omega) ht' hb' (sr_rd_s hd hi' hp'))
theorem sr_x_d25W {post : SX → Prop} {lo : Int32} {c wo : Nat} {R : Nat → sr_R} {G : Nat → Bool} (hc : c ≤ 14) (hrc : Frc = nI c) (hlo : ∀ r, r < 14 → (nI r = lo ↔ r = wo)) (hR : ∀ r, r < c → sr_r1 r (R r) Ahd Abl Aba Abn Avr) (K : ∀ t F T, sr_tt t → sr_bx F T → sr_dn R c wo G 4 T → post (Fdl, Frc, Agf, Ahf, F, Ada, Adn, Aba, Abn, Abl, Ahd, Avr, t)) : ∀ d ℓ t F T, ℓ + d = 4 → sr_tt t → sr_bx F T → sr_dn R c wo G ℓ T → wX_derive__factsWithout_25 post lo (d + 1) (nI ℓ) Fdl Frc Agf Ahf F Ada Adn Aba Abn Abl Ahd Avr t := by
  intro d
  induction d with
  | zero =>
    intro ℓ t F T hl ht hb hd
    have e : ℓ = 4 := by omega
    subst e
    exact br_t (by decide) (K t F T ht hb hd)
  | succ d ih =>
    intro ℓ t F T hl ht hb hd
    refine br_f (nI_ge (b := 4) (by omega) (by decide)) ⟨74, ?_⟩
    exact sr_x_rdlW hc hrc (by omega) hlo hR (fun t' F' T' ht' hb' hf' => ih (ℓ + 1) t' F' T' (by omega) ht' hb' ⟨T, hd, hf'⟩) 73 0 t F T true rfl ht hb (sr_rd_0 R c wo ℓ T)
theorem sr_x_d2W {post : SX → Prop} {lo : Int32} {c wo : Nat} {R : Nat → sr_R} {G : Nat → Bool} (hc : c ≤ 14) (hrc : Frc = nI c) (hlo : ∀ r, r < 14 → (nI r = lo ↔ r = wo)) (hR : ∀ r, r < c → sr_r1 r (R r) Ahd Abl Aba Abn Avr) (ht : sr_tt Att) (hG : sr_bx Agf G) (K : ∀ t F T, sr_tt t → sr_bx F T → sr_dn R c wo G 4 T → post (Fdl, Frc, Agf, Ahf, F, Ada, Adn, Aba, Abn, Abl, Ahd, Avr, t)) : ∀ d i F, i + d = 8 → (∀ r, r < i → F r = Agf r) → wX_derive__factsWithout_2 post lo Fdl Frc (d + 1) (nI i) Agf Ahf F Ada Adn Aba Abn Abl Ahd Avr Att := by
  intro d
  induction d with
  | zero =>
    intro i F hi hF
    have e : i = 8 := by omega
    subst e
    refine br_t (by decide) ⟨5, sr_x_d25W hc hrc hlo hR K 4 0 Att F G rfl ht ?_ rfl⟩
    intro r hr f hf
    rw [hF r hr]
    exact hG r hr f hf
  | succ d ih =>
    intro i F hi hF
    refine br_f (nI_ge (b := 8) (by omega) (by decide)) ⟨vp_in_nI (by omega) (by decide), vp_in_nI (by omega) (by decide), nm_r (e' := vp_updL F i (Agf i)) ?_ (nm_r (nI_1 i) (ih (i + 1) _ (by omega) ?_))⟩
    · rw [nI_clamp (by omega)]
    · intro r hr
      by_cases z : r = i
      · subst z; rw [pk_uLs]
      · rw [pk_uLn z]; exact hF r (by omega)
theorem sr_x_dW {post : SX → Prop} {lo : Int32} {c wo : Nat} {R : Nat → sr_R} {G : Nat → Bool} (hc : c ≤ 14) (hrc : Frc = nI c) (hlo : ∀ r, r < 14 → (nI r = lo ↔ r = wo)) (hR : ∀ r, r < c → sr_r1 r (R r) Ahd Abl Aba Abn Avr) (ht : sr_tt Att) (hG : sr_bx Agf G) (K : ∀ t F T, sr_tt t → sr_bx F T → sr_dn R c wo G 4 T → post (Fdl, Frc, Agf, Ahf, F, Ada, Adn, Aba, Abn, Abl, Ahd, Avr, t)) : wpX_derive__factsWithout post (Fdl, Frc, Agf, Ahf, Afw, Ada, Adn, Aba, Abn, Abl, Ahd, Avr, Att) lo :=
  ⟨9, sr_x_d2W hc hrc hlo hR ht hG K 8 0 Afw rfl (fun r hr => absurd hr (Nat.not_lt_zero r))⟩
theorem sr_lom : ∀ r, r < 14 → (nI r = (-1 : Int32) ↔ r = 14) := by decide
theorem sr_lor {k : Nat} (hk : k < 14) : ∀ r, r < 14 → (nI r = nI k ↔ r = k) := fun r hr => nI_eq (by omega) (by omega)
end
end
section
section
variable {Bdl Bct : Int32} {Btd Bnw Bkp Bdr Bdn Bhd Bsz Bat Bnt Bbd : Nat → Int32}
def sr_r2 (r : Nat) (ρ : sr_R) (hd sz at' nt : Nat → Int32) : Prop := sr_wf ρ ∧ hd r = nI ρ.1 ∧ sz r = nI ρ.2.1 ∧ ∀ i, i < ρ.2.1 → at' (3 * r + i) = nI (ρ.2.2.1 i) ∧ nt (3 * r + i) = sr_bI (ρ.2.2.2 i)
def sr_yw (t : Nat → Int32) (m w : Nat) : Prop := ∀ i, i < 4 → t i = nI (sr_th m w i)
theorem sr_v1_ge {t : Nat} (h : 4 ≤ t) : sr_v1 t = 0 := if_neg (by omega)
theorem sr_v1_s {t : Nat} (h : t < 4) : (1 : Int32) <<< (nI t &&& 31) = nI (sr_v1 t) := by
  rw [sr_sh t h]
  unfold sr_v1
  rw [if_pos h]
theorem sr_y_v25 {post : Int32 → Prop} {z : Int32} {t q : Nat} (ht : t < 10) (hz : z = nI q) (h : post (nI (q ||| sr_v1 t))) : wY_variables_25 post (nI t) z Bdl Bct Btd Bnw Bkp Bdr Bdn Bhd Bsz Bat Bnt Bbd := by
  subst hz
  refine pk_le 4 t (fun k => ?_) (fun k => ?_)
  · rw [sr_v1_ge k] at h
    rw [← nI_0, sr_or]
    exact h
  · rw [sr_v1_s k, sr_or]
    exact h
theorem sr_y_var {post : Int32 → Prop} {a : Nat} (ha : a < 800) (h : post (nI (sr_vs a))) : wpY_variables post (Bdl, Bct, Btd, Bnw, Bkp, Bdr, Bdn, Bhd, Bsz, Bat, Bnt, Bbd) (nI a) := by
  refine ⟨by decide, by decide, nm_r (sr_t1 ha) ⟨by decide, nm_r (sr_t2 ha) (pk_le 4 (a / 10 % 10) (fun k => ?_) (fun k => ?_))⟩⟩
  · refine sr_y_v25 (q := 0) (by omega) rfl ?_
    unfold sr_vs at h
    rw [sr_v1_ge k] at h
    exact h
  · exact sr_y_v25 (by omega) (sr_v1_s k) h
theorem sr_y_lay {post : Int32 → Prop} {a : Nat} (ha : a < 800) (h : post (nI (a / 200))) : wpY_layer post (Bdl, Bct, Btd, Bnw, Bkp, Bdr, Bdn, Bhd, Bsz, Bat, Bnt, Bbd) (nI a) := by
  refine ⟨by decide, ?_⟩
  rw [sr_d200 (by omega)]
  exact h
theorem sr_y_thg {post : Int32 → Prop} {t m w : Nat} (ht : t < 10) (hb : sr_yw Bbd m w) (h : post (nI (sr_th m w t))) : wpY_thing post (Bdl, Bct, Btd, Bnw, Bkp, Bdr, Bdn, Bhd, Bsz, Bat, Bnt, Bbd) (nI t) := by
  refine pk_le 4 t (fun k => ?_) (fun k => ⟨vp_in_nI k (by decide), ?_⟩)
  · unfold sr_th at h
    rw [if_neg (by omega)] at h
    have e : nI t - 4 = nI (t - 4) := pk_sub (b := 4) k
    rw [e]
    exact h
  · rw [nI_clamp (by omega), hb t k]
    exact h
theorem sr_y_plc {post : Int32 → Prop} {a m w : Nat} (ha : a < 800) (hb : sr_yw Bbd m w) (h : post (nI (sr_pl m w a))) : wpY_place post (Bdl, Bct, Btd, Bnw, Bkp, Bdr, Bdn, Bhd, Bsz, Bat, Bnt, Bbd) (nI a) := by
  refine ⟨by decide, by decide, ?_⟩
  rw [sr_t1 ha, sr_t2 ha]
  refine sr_y_thg (Nat.mod_lt _ (by decide)) hb ⟨by decide, sr_y_thg (Nat.mod_lt _ (by decide)) hb ⟨by decide, ?_⟩⟩
  rw [sr_d100 (by omega), sr_m36, sr_m6, nI_add, nI_add]
  unfold sr_pl sr_ft at h
  rw [Nat.add_assoc]
  exact h
theorem sr_y_ocl {post : Int32 → Prop} {r : Nat} {ρ : sr_R} (hr : r < 14) (h1 : sr_r2 r ρ Bhd Bsz Bat Bnt) (h : post (nI (sr_mk ρ))) : ∀ d i, i + d = ρ.2.1 → wY_occurring_13 post (nI r) Bdl Bct Btd Bnw Bkp Bdr Bdn Bhd Bsz Bat Bnt Bbd (d + 1) (nI (sr_mo (fun i => sr_vs (ρ.2.2.1 i)) (sr_vs ρ.1) i)) (nI i) := by
  obtain ⟨wf, e1, e2, e4⟩ := h1
  have hl3 := wf.2.1
  have es : Bsz (nI r).toNatClampNeg = nI ρ.2.1 := by rw [nI_clamp (by omega)]; exact e2
  intro d
  induction d with
  | zero =>
    intro i hi
    have e : i = ρ.2.1 := by omega
    subst e
    refine ⟨vp_in_nI hr (by decide), ?_⟩
    rw [es]
    exact br_t (nI_le (Nat.le_refl _) (by omega)) h
  | succ d ih =>
    intro i hi
    have hil : i < ρ.2.1 := by omega
    obtain ⟨ea, en⟩ := e4 i hil
    refine ⟨vp_in_nI hr (by decide), ?_⟩
    rw [es]
    refine br_f (nI_ge hil (by omega)) (br_f (nI_ge (b := 3) (by omega) (by decide)) ?_)
    have ep : 3 * nI r + nI i = nI (3 * r + i) := by rw [sr_m3, nI_add]
    rw [ep]
    have eA : Bat (nI (3 * r + i)).toNatClampNeg = nI (ρ.2.2.1 i) := by rw [nI_clamp (by omega)]; exact ea
    rw [eA]
    exact ⟨vp_in_nI (by omega) (by decide), sr_y_var (wf.2.2 i hil).1 (nm_r (sr_or _ _) (nm_r (nI_1 i) (ih (i + 1) (by omega))))⟩
theorem sr_y_occ {post : Int32 → Prop} {r : Nat} {ρ : sr_R} (hr : r < 14) (h1 : sr_r2 r ρ Bhd Bsz Bat Bnt) (h : post (nI (sr_mk ρ))) : wpY_occurring post (Bdl, Bct, Btd, Bnw, Bkp, Bdr, Bdn, Bhd, Bsz, Bat, Bnt, Bbd) (nI r) := by
  have eh : Bhd (nI r).toNatClampNeg = nI ρ.1 := by rw [nI_clamp (by omega)]; exact h1.2.1
  refine ⟨vp_in_nI hr (by decide), ?_⟩
  rw [eh]
  exact sr_y_var h1.1.1 ⟨ρ.2.1 + 1, sr_y_ocl hr h1 h ρ.2.1 0 (by omega)⟩
theorem sr_y_nml {post : Int32 → Prop} {m : Nat} (hm : m < 16) (h : post (nI (sr_pw m 4))) : ∀ d v, v + d = 4 → wY_number_4 post (nI m) Bdl Bct Btd Bnw Bkp Bdr Bdn Bhd Bsz Bat Bnt Bbd (d + 1) (nI (sr_pw m v)) (nI v) := by
  intro d
  induction d with
  | zero =>
    intro v hv
    have e : v = 4 := by omega
    subst e
    exact br_t (by decide) h
  | succ d ih =>
    intro v hv
    have k := ih (v + 1) (by omega)
    simp only [sr_pw] at k
    refine br_f (nI_ge (b := 4) (by omega) (by decide)) (sr_if (sr_tb m hm v (by omega)) (fun e => ?_) (fun e => ?_))
    · rw [if_pos e] at k
      exact nm_r (sr_m6 _) (nm_r (nI_1 v) k)
    · rw [if_neg e] at k
      exact nm_r (nI_1 v) k
theorem sr_y_num {post : Int32 → Prop} {m : Nat} (hm : m < 16) (h : post (nI (sr_pw m 4))) : wpY_number post (Bdl, Bct, Btd, Bnw, Bkp, Bdr, Bdn, Bhd, Bsz, Bat, Bnt, Bbd) (nI m) := ⟨5, sr_y_nml hm h 4 0 rfl⟩
theorem sr_y_bnl {post : SY → Prop} {m w : Nat} (hm : m < 16) (hw : w < 2 ^ 31) (h : ∀ t, sr_yw t m w → post (Bdl, Bct, Btd, Bnw, Bkp, Bdr, Bdn, Bhd, Bsz, Bat, Bnt, t)) : ∀ d v t, v + d = 4 → (∀ i, i < v → t i = nI (sr_th m w i)) → wY_bind_5 post (nI m) Bdl Bct (d + 1) (nI (sr_rs m w v)) (nI v) Btd Bnw Bkp Bdr Bdn Bhd Bsz Bat Bnt t := by
  intro d
  induction d with
  | zero =>
    intro v t hv hi
    have e : v = 4 := by omega
    subst e
    exact br_t (by decide) (h t hi)
  | succ d ih =>
    intro v t hv hi
    have hle := sr_rs_le m w v
    refine br_f (nI_ge (b := 4) (by omega) (by decide)) ⟨vp_in_nI (by omega) (by decide), nm_r (e' := upd t v 0) (by rw [nI_clamp (by omega)]) (sr_if (sr_tb m hm v (by omega)) (fun e => ?_) (fun e => ?_))⟩
    · have k := ih (v + 1) (upd (upd t v 0) v (nI (sr_rs m w v % 6))) (by omega) (fun i hiv => by
        by_cases z : i = v
        · subst z; rw [pk_us]; unfold sr_th; rw [if_pos (by omega), if_pos e]
        · rw [pk_un z, pk_un z]; exact hi i (by omega))
      simp only [sr_rs] at k
      rw [if_pos e] at k
      refine ⟨by decide, vp_in_nI (by omega) (by decide), nm_r (e' := upd (upd t v 0) v (nI (sr_rs m w v % 6))) ?_ ⟨by decide, nm_r (sr_d6 (by omega)) (nm_r (nI_1 v) k)⟩⟩
      rw [nI_clamp (by omega), sr_r6 (by omega)]
    · have k := ih (v + 1) (upd t v 0) (by omega) (fun i hiv => by
        by_cases z : i = v
        · subst z; rw [pk_us]; unfold sr_th; rw [if_pos (by omega), if_neg e]; rfl
        · rw [pk_un z]; exact hi i (by omega))
      simp only [sr_rs] at k
      rw [if_neg e] at k
      exact nm_r (nI_1 v) k
theorem sr_y_bnd {post : SY → Prop} {m w : Nat} (hm : m < 16) (hw : w < 2 ^ 31) (h : ∀ t, sr_yw t m w → post (Bdl, Bct, Btd, Bnw, Bkp, Bdr, Bdn, Bhd, Bsz, Bat, Bnt, t)) : wpY_bind post (Bdl, Bct, Btd, Bnw, Bkp, Bdr, Bdn, Bhd, Bsz, Bat, Bnt, Bbd) (nI m) (nI w) :=
  ⟨5, sr_y_bnl hm hw h 4 0 Bbd rfl (fun i hi => absurd hi (Nat.not_lt_zero i))⟩
theorem sr_y_bhl {post : Int32 → Prop} {r w : Nat} {ρ : sr_R} {T : Nat → Bool} (hr : r < 14) (h1 : sr_r2 r ρ Bhd Bsz Bat Bnt) (hb : sr_by Bnw T) (ht : sr_yw Bbd (sr_mk ρ) w) (h : post (sr_bI (sr_met ρ T w))) : ∀ d i, i + d = ρ.2.1 → (∀ j, j < i → sr_bd ρ T w j = true) → wY_bodyHolds_2 post (nI r) Bdl Bct Btd Bnw Bkp Bdr Bdn Bhd Bsz Bat Bnt Bbd (d + 1) (nI i) := by
  obtain ⟨wf, e1, e2, e4⟩ := h1
  have hl3 := wf.2.1
  have es : Bsz (nI r).toNatClampNeg = nI ρ.2.1 := by rw [nI_clamp (by omega)]; exact e2
  intro d
  induction d with
  | zero =>
    intro i hi hj
    have e : i = ρ.2.1 := by omega
    subst e
    rw [sr_met_o hj] at h
    refine ⟨vp_in_nI hr (by decide), ?_⟩
    rw [es]
    exact br_t (nI_le (Nat.le_refl _) (by omega)) h
  | succ d ih =>
    intro i hi hj
    have hil : i < ρ.2.1 := by omega
    obtain ⟨ea, en⟩ := e4 i hil
    have hA := (wf.2.2 i hil).1
    refine ⟨vp_in_nI hr (by decide), ?_⟩
    rw [es]
    refine br_f (nI_ge hil (by omega)) (br_f (nI_ge (b := 3) (by omega) (by decide)) ?_)
    have ep : 3 * nI r + nI i = nI (3 * r + i) := by rw [sr_m3, nI_add]
    rw [ep]
    have eA : Bat (nI (3 * r + i)).toNatClampNeg = nI (ρ.2.2.1 i) := by rw [nI_clamp (by omega)]; exact ea
    have eN : Bnt (nI (3 * r + i)).toNatClampNeg = sr_bI (ρ.2.2.2 i) := by rw [nI_clamp (by omega)]; exact en
    rw [eA, eN]
    have hpl := sr_pl_lt (m := sr_mk ρ) (w := w) hA
    refine ⟨vp_in_nI (by omega) (by decide), sr_y_plc hA ht ⟨vp_in_nI hpl (by decide), vp_in_nI (by omega) (by decide), ?_⟩⟩
    rw [nI_clamp (by omega), hb _ hpl]
    refine sr_if sr_bI_i (fun z => ?_) (fun z => nm_r (nI_1 i) (ih (i + 1) (by omega) (fun j hji => ?_)))
    · rw [sr_met_z hil (by unfold sr_bd; rw [z]; simp)] at h
      exact h
    · by_cases y : j = i
      · subst y; unfold sr_bd; simpa using z
      · exact hj j (by omega)
theorem sr_y_bh {post : Int32 → Prop} {r w : Nat} {ρ : sr_R} {T : Nat → Bool} (hr : r < 14) (h1 : sr_r2 r ρ Bhd Bsz Bat Bnt) (hb : sr_by Bnw T) (ht : sr_yw Bbd (sr_mk ρ) w) (h : post (sr_bI (sr_met ρ T w))) : wpY_bodyHolds post (Bdl, Bct, Btd, Bnw, Bkp, Bdr, Bdn, Bhd, Bsz, Bat, Bnt, Bbd) (nI r) :=
  ⟨ρ.2.1 + 1, sr_y_bhl hr h1 hb ht h ρ.2.1 0 (by omega) (fun j hj => absurd hj (Nat.not_lt_zero j))⟩
end
end
section
section
variable {Bdl Bct : Int32} {Btd Bnw Bkp Bdr Bdn Bhd Bsz Bat Bnt Bbd : Nat → Int32}
theorem sr_y_usl {post : Int32 → SY → Prop} {r c wo ℓ : Nat} {R : Nat → sr_R} {S T0 : Nat → Bool} (hr : r < 14) (hrc : r < c) (hwo : r ≠ wo) (hl : (R r).1 / 200 = ℓ) (h1 : sr_r2 r (R r) Bhd Bsz Bat Bnt) (K : ∀ t F T g, sr_by F T → sr_in R c wo ℓ S T → sr_pr ℓ T0 T g (sr_q (R r) (sr_nb (R r)) T0) → post (sr_bI g) (Bdl, Bct, Btd, F, Bkp, Bdr, Bdn, Bhd, Bsz, Bat, Bnt, t)) : ∀ d j t F T g, j + d = sr_nb (R r) → sr_by F T → sr_in R c wo ℓ S T → sr_pr ℓ T0 T g (sr_q (R r) j T0) → wY_use_18 post (nI r) (nI (sr_mk (R r))) (nI (sr_nb (R r))) (d + 1) (sr_bI g) (nI j) Bdl Bct Btd F Bkp Bdr Bdn Bhd Bsz Bat Bnt t := by
  have hnb := sr_nb_le (R r)
  intro d
  induction d with
  | zero =>
    intro j t F T g hj hb hi hp
    have e : j = sr_nb (R r) := by omega
    subst e
    exact br_t (nI_le (Nat.le_refl _) (by omega)) ⟨sr_nrw g, K t F T g hb hi hp⟩
  | succ d ih =>
    intro j t F T g hj hb hi hp
    refine br_f (nI_ge (by omega) (by omega)) (sr_y_bnd (sr_mk_lt _) (by omega) (fun t' ht' => ?_))
    refine sr_y_bh hr h1 hb ht' ?_
    cases m : sr_met (R r) T j with
    | false => exact br_t rfl (nm_r (nI_1 j) (ih (j + 1) t' F T g (by omega) hb hi (sr_q_n hp m)))
    | true =>
      have h800 := h1.1.1
      have eh : Bhd (nI r).toNatClampNeg = nI (R r).1 := by rw [nI_clamp (by omega)]; exact h1.2.1
      refine br_f (by decide) ⟨vp_in_nI hr (by decide), ?_⟩
      rw [eh]
      have hpl := sr_pl_lt (m := sr_mk (R r)) (w := j) h800
      refine sr_y_plc h800 ht' ⟨vp_in_nI hpl (by decide), ?_⟩
      rw [nI_clamp (by omega), hb _ hpl]
      have hs : sr_by (upd F (sr_pl (sr_mk (R r)) j (R r).1) (vp_nar .boolean 1)) (sr_st T (sr_hp (R r) j) true) := by
        have a := sr_by_s hb (sr_hp (R r) j) true
        rw [← sr_nar true] at a
        exact a
      have hin : sr_in R c wo ℓ S (sr_st T (sr_hp (R r) j) true) := sr_in_s hrc hwo hl h1.1 hi (sr_st_u _ _) (fun p hp' => (sr_st_h hp').elim Or.inl (fun e => Or.inr ⟨j, by omega, m, e⟩))
      refine sr_if sr_bI_0 (fun z => ⟨vp_in_nI hpl (by decide), nm_e (nm_r (nI_1 j) ?_)⟩) (fun z => ⟨vp_in_nI hpl (by decide), nm_e (nm_r (nI_1 j) ?_)⟩)
      · exact ih (j + 1) t' _ _ true (by omega) hs hin (sr_q_f hp hl z)
      · exact ih (j + 1) t' _ _ g (by omega) hs hin (sr_q_t hp (by unfold sr_hp; simpa using z))
theorem sr_y_use {post : Int32 → SY → Prop} {r c wo ℓ : Nat} {R : Nat → sr_R} {S T0 : Nat → Bool} (hr : r < 14) (hrc : r < c) (hwo : r ≠ wo) (hl : (R r).1 / 200 = ℓ) (h1 : sr_r2 r (R r) Bhd Bsz Bat Bnt) (hb : sr_by Bnw T0) (hi : sr_in R c wo ℓ S T0) (K : ∀ t F T g, sr_by F T → sr_in R c wo ℓ S T → sr_pr ℓ T0 T g (sr_q (R r) (sr_nb (R r)) T0) → post (sr_bI g) (Bdl, Bct, Btd, F, Bkp, Bdr, Bdn, Bhd, Bsz, Bat, Bnt, t)) : wpY_use post (Bdl, Bct, Btd, Bnw, Bkp, Bdr, Bdn, Bhd, Bsz, Bat, Bnt, Bbd) (nI r) :=
  sr_y_occ hr h1 (sr_y_num (sr_mk_lt _) ⟨sr_nb (R r) + 1, sr_y_usl hr hrc hwo hl h1 K (sr_nb (R r)) 0 Bbd Bnw T0 false (by omega) hb hi (sr_pr_0 (fun w hw => absurd hw (Nat.not_lt_zero w)))⟩)
theorem sr_y_ual {post : Int32 → SY → Prop} {lo : Int32} {c wo ℓ : Nat} {R : Nat → sr_R} {S T0 : Nat → Bool} (hc : c ≤ 14) (hct : Bct = nI c) (hl4 : ℓ < 4) (hlo : ∀ r, r < 14 → (nI r = lo ↔ r = wo)) (hR : ∀ r, r < c → sr_r2 r (R r) Bhd Bsz Bat Bnt) (K : ∀ t F T g, sr_by F T → sr_in R c wo ℓ S T → sr_pr ℓ T0 T g (sr_cl R c wo ℓ T0) → post (sr_bI g) (Bdl, Bct, Btd, F, Bkp, Bdr, Bdn, Bhd, Bsz, Bat, Bnt, t)) : ∀ d j t F T g, j + d = c → sr_by F T → sr_in R c wo ℓ S T → sr_pr ℓ T0 T g (sr_cl R j wo ℓ T0) → wY_useAll_5 post (nI ℓ) lo (d + 1) (sr_bI g) (nI j) Bdl Bct Btd F Bkp Bdr Bdn Bhd Bsz Bat Bnt t := by
  subst hct
  intro d
  induction d with
  | zero =>
    intro j t F T g hj hb hi hp
    have e : j = c := by omega
    subst e
    exact br_t (nI_le (Nat.le_refl _) (by omega)) ⟨sr_nrw g, K t F T g hb hi hp⟩
  | succ d ih =>
    intro j t F T g hj hb hi hp
    have hjc : j < c := by omega
    have h1 := hR j hjc
    have h800 := h1.1.1
    refine br_f (nI_ge (by omega) (by omega)) (br_f (nI_ge (b := 14) (by omega) (by decide)) (sr_if (hlo j (by omega)) (fun z => nm_r (nI_1 j) (ih (j + 1) t F T g (by omega) hb hi (sr_pr_q hp fun q => sr_cl_s q fun y => absurd z y))) (fun z => ⟨vp_in_nI (by omega) (by decide), by decide, ?_⟩)))
    have eh : Bhd (nI j).toNatClampNeg = nI (R j).1 := by rw [nI_clamp (by omega)]; exact h1.2.1
    rw [eh, sr_d200 (by omega)]
    refine sr_if (nI_eq (by omega) (by omega)) (fun y => ?_) (fun y => nm_r (nI_1 j) (ih (j + 1) t F T g (by omega) hb hi (sr_pr_q hp fun q => sr_cl_s q fun _ x => absurd x y)))
    refine sr_y_use (by omega) hjc z y h1 hb hi (fun t' F' T' g' hb' hi' hp' => ?_)
    have a := sr_pr_c (Q2 := fun T => sr_q (R j) (sr_nb (R j)) T) hp hp'
    have b := sr_pr_q a fun q => sr_cl_s q.1 fun _ _ => q.2
    cases g' with
    | false =>
      rw [Bool.or_false] at b
      exact br_t rfl (nm_r (nI_1 j) (ih (j + 1) t' F' T' g (by omega) hb' hi' b))
    | true =>
      rw [Bool.or_true] at b
      exact br_f (by decide) (nm_r (nI_1 j) (ih (j + 1) t' F' T' true (by omega) hb' hi' b))
theorem sr_y_ua {post : Int32 → SY → Prop} {lo : Int32} {c wo ℓ : Nat} {R : Nat → sr_R} {S T0 : Nat → Bool} (hc : c ≤ 14) (hct : Bct = nI c) (hl4 : ℓ < 4) (hlo : ∀ r, r < 14 → (nI r = lo ↔ r = wo)) (hR : ∀ r, r < c → sr_r2 r (R r) Bhd Bsz Bat Bnt) (hb : sr_by Bnw T0) (hi : sr_in R c wo ℓ S T0) (K : ∀ t F T g, sr_by F T → sr_in R c wo ℓ S T → sr_pr ℓ T0 T g (sr_cl R c wo ℓ T0) → post (sr_bI g) (Bdl, Bct, Btd, F, Bkp, Bdr, Bdn, Bhd, Bsz, Bat, Bnt, t)) : wpY_useAll post (Bdl, Bct, Btd, Bnw, Bkp, Bdr, Bdn, Bhd, Bsz, Bat, Bnt, Bbd) (nI ℓ) lo :=
  ⟨c + 1, sr_y_ual hc hct hl4 hlo hR K c 0 Bbd Bnw T0 false (by omega) hb hi (sr_pr_0 (fun r hr => absurd hr (Nat.not_lt_zero r)))⟩
theorem sr_y_rdl {post : SY → Prop} {J : Int32 → Int32 → Int32 → (Nat → Int32) → (Nat → Int32) → (Nat → Int32) → (Nat → Int32) → (Nat → Int32) → (Nat → Int32) → (Nat → Int32) → (Nat → Int32) → (Nat → Int32) → (Nat → Int32) → Prop} {lo : Int32} {c wo ℓ : Nat} {R : Nat → sr_R} {S : Nat → Bool} (hc : c ≤ 14) (hct : Bct = nI c) (hl4 : ℓ < 4) (hlo : ∀ r, r < 14 → (nI r = lo ↔ r = wo)) (hR : ∀ r, r < c → sr_r2 r (R r) Bhd Bsz Bat Bnt) (K : ∀ t F T, sr_by F T → sr_lf R c wo ℓ S T → J (nI (ℓ + 1)) Bdl Bct Btd F Bkp Bdr Bdn Bhd Bsz Bat Bnt t) : ∀ d i t F T g, i + d = 80 → sr_by F T → sr_rd R c wo ℓ S T i g → wY_work_39 post J lo (nI ℓ) (d + 1) (sr_bI g) (nI i) Bdl Bct Btd F Bkp Bdr Bdn Bhd Bsz Bat Bnt t := by
  intro d
  induction d with
  | zero =>
    intro i t F T g hi hb hd
    have e : i = 80 := by omega
    subst e
    cases g with
    | false => exact br_t (by decide) (nm_r (nI_1 ℓ) (K t F T hb (sr_rd_f hd)))
    | true => have := sr_rd_x hd; omega
  | succ d ih =>
    intro i t F T g hi hb hd
    refine br_f (nI_ge (b := 80) (by omega) (by decide)) ?_
    cases g with
    | false => exact br_t rfl (nm_r (nI_1 ℓ) (K t F T hb (sr_rd_f hd)))
    | true =>
      refine br_f (by decide) (sr_y_ua hc hct hl4 hlo hR hb hd.1 (fun t' F' T' g' hb' hi' hp' => ?_))
      exact nm_r (nI_1 i) (ih (i + 1) t' F' T' g' (by omega) hb' (sr_rd_s hd hi' hp'))
theorem sr_y_w29 {post : SY → Prop} {lo : Int32} {c wo : Nat} {R : Nat → sr_R} {G : Nat → Bool} (hc : c ≤ 14) (hct : Bct = nI c) (hlo : ∀ r, r < 14 → (nI r = lo ↔ r = wo)) (hR : ∀ r, r < c → sr_r2 r (R r) Bhd Bsz Bat Bnt) (K : ∀ t F T, sr_by F T → sr_dn R c wo G 4 T → post (Bdl, Bct, Btd, F, Bkp, Bdr, Bdn, Bhd, Bsz, Bat, Bnt, t)) : ∀ d ℓ t F T, ℓ + d = 4 → sr_by F T → sr_dn R c wo G ℓ T → wY_work_29 post lo (d + 1) (nI ℓ) Bdl Bct Btd F Bkp Bdr Bdn Bhd Bsz Bat Bnt t := by
  intro d
  induction d with
  | zero =>
    intro ℓ t F T hl hb hd
    have e : ℓ = 4 := by omega
    subst e
    exact br_t (by decide) (K t F T hb hd)
  | succ d ih =>
    intro ℓ t F T hl hb hd
    refine br_f (nI_ge (b := 4) (by omega) (by decide)) ⟨81, ?_⟩
    exact sr_y_rdl hc hct (by omega) hlo hR (fun t' F' T' hb' hf' => ih (ℓ + 1) t' F' T' (by omega) hb' ⟨T, hd, hf'⟩) 80 0 t F T true rfl hb (sr_rd_0 R c wo ℓ T)
theorem sr_y_w2 {post : SY → Prop} {lo : Int32} {c wo : Nat} {R : Nat → sr_R} {G : Nat → Bool} (hc : c ≤ 14) (hct : Bct = nI c) (hlo : ∀ r, r < 14 → (nI r = lo ↔ r = wo)) (hR : ∀ r, r < c → sr_r2 r (R r) Bhd Bsz Bat Bnt) (hG : sr_by Btd G) (K : ∀ t F T, sr_by F T → sr_dn R c wo G 4 T → post (Bdl, Bct, Btd, F, Bkp, Bdr, Bdn, Bhd, Bsz, Bat, Bnt, t)) : ∀ d i F, i + d = 288 → (∀ r, r < i → F r = sr_bI (G r)) → wY_work_2 post lo Bdl Bct (d + 1) (nI i) Btd F Bkp Bdr Bdn Bhd Bsz Bat Bnt Bbd := by
  intro d
  induction d with
  | zero =>
    intro i F hi hF
    have e : i = 288 := by omega
    subst e
    exact br_t (by decide) ⟨5, sr_y_w29 hc hct hlo hR K 4 0 Bbd F G rfl hF rfl⟩
  | succ d ih =>
    intro i F hi hF
    refine br_f (nI_ge (b := 288) (by omega) (by decide)) ⟨vp_in_nI (by omega) (by decide), vp_in_nI (by omega) (by decide), nm_r (e' := upd F i (sr_bI (G i))) ?_ (nm_r (nI_1 i) (ih (i + 1) _ (by omega) ?_))⟩
    · rw [nI_clamp (by omega), hG i (by omega), sr_nar]
    · intro r hr
      by_cases z : r = i
      · subst z; rw [pk_us]
      · rw [pk_un z]; exact hF r (by omega)
theorem sr_y_wk {post : SY → Prop} {lo : Int32} {c wo : Nat} {R : Nat → sr_R} {G : Nat → Bool} (hc : c ≤ 14) (hct : Bct = nI c) (hlo : ∀ r, r < 14 → (nI r = lo ↔ r = wo)) (hR : ∀ r, r < c → sr_r2 r (R r) Bhd Bsz Bat Bnt) (hG : sr_by Btd G) (K : ∀ t F T, sr_by F T → sr_dn R c wo G 4 T → post (Bdl, Bct, Btd, F, Bkp, Bdr, Bdn, Bhd, Bsz, Bat, Bnt, t)) : wpY_work post (Bdl, Bct, Btd, Bnw, Bkp, Bdr, Bdn, Bhd, Bsz, Bat, Bnt, Bbd) lo :=
  ⟨289, sr_y_w2 hc hct hlo hR hG K 288 0 Bnw rfl (fun r hr => absurd hr (Nat.not_lt_zero r))⟩
end
end
section
section
variable {Fdl Frc : Int32} {Agf Ahf Afw : Nat → Int64} {Ada Adn Aba Abn Abl Ahd Avr Att : Nat → Int32}
variable {Bdl Bct : Int32} {Btd Bnw Bkp Bdr Bdn Bhd Bsz Bat Bnt Bbd : Nat → Int32}
def sr_D (d : Nat) (A : Nat → Nat) (N : Nat → Bool) (da dn : Nat → Int32) : Prop := ∀ i, i < d → A i < 800 ∧ da i = nI (A i) ∧ dn i = sr_bI (N i)
def sr_J (c d : Nat) (G H : Nat → Bool) (R : Nat → sr_R) (A : Nat → Nat) (N : Nat → Bool) (u : SX) (v : SY) : Prop := match u, v with
  | (Fdl, Frc, Agf, Ahf, Afw, Ada, Adn, Aba, Abn, Abl, Ahd, Avr, Att), (Bdl, Bct, Btd, Bnw, Bkp, Bdr, Bdn, Bhd, Bsz, Bat, Bnt, Bbd) => Fdl = nI d ∧ Frc = nI c ∧ Bdl = nI d ∧ Bct = nI c ∧ c ≤ 14 ∧ d ≤ 3 ∧ sr_bx Agf G ∧ sr_by Btd G ∧ sr_bx Ahf H ∧ sr_dn R c 14 G 4 H ∧ (∀ r, r < c → sr_r1 r (R r) Ahd Abl Aba Abn Avr) ∧ (∀ r, r < c → sr_r2 r (R r) Bhd Bsz Bat Bnt) ∧ sr_tt Att ∧ sr_D d A N Ada Adn ∧ sr_D d A N Bdr Bdn
def i_Rel (_ : Nat) (u : SX) (v : SY) : Prop := ∃ c d G H R A N, sr_J c d G H R A N u v
theorem i_up {k : Nat} {u : SX} {v : SY} (h : i_Rel k u v) : i_Rel (k + 5) u v := h
theorem sr_x_irg {post : Int32 → Prop} {j : Nat} (hj : j < 8) (h : post 1) : wpX_isRelation post (nI j) := br_f (nI_pos (by omega)) (br_f (nI_ge (b := 8) hj (by decide)) h)
theorem sr_x_irb {post : Int32 → Prop} {x : Int32} (hx : ¬ sr_gd 8 x) (h : post 0) : wpX_isRelation post x := br_c (fun _ => h) (fun z => br_t (Int32.not_lt.mp (sr_gd_n (by decide) hx z)) h)
theorem sr_x_itg {post : Int32 → Prop} {j : Nat} (hj : j < 6) (h : post 1) : wpX_isThing post (nI j) := br_f (nI_pos (by omega)) (br_f (nI_ge (b := 6) hj (by decide)) h)
theorem sr_x_itb {post : Int32 → Prop} {x : Int32} (hx : ¬ sr_gd 6 x) (h : post 0) : wpX_isThing post x := br_c (fun _ => h) (fun z => br_t (Int32.not_lt.mp (sr_gd_n (by decide) hx z)) h)
theorem sr_x_iag {post : Int32 → Prop} {j : Nat} (hj : j < 800) (h : post 1) : wpX_isAtom post (nI j) := br_f (nI_pos (by omega)) (br_f (nI_ge (b := 800) hj (by decide)) h)
theorem sr_x_iab {post : Int32 → Prop} {x : Int32} (hx : ¬ sr_gd 800 x) (h : post 0) : wpX_isAtom post x := br_c (fun _ => h) (fun z => br_t (Int32.not_lt.mp (sr_gd_n (by decide) hx z)) h)
theorem sr_x_iug {post : Int32 → Prop} {c j : Nat} (hc : c ≤ 14) (hj : j < c) (h : post 1) : wpX_isRule post (Fdl, nI c, Agf, Ahf, Afw, Ada, Adn, Aba, Abn, Abl, Ahd, Avr, Att) (nI j) := br_f (nI_pos (by omega)) (br_f (nI_ge hj (by omega)) h)
theorem sr_x_iub {post : Int32 → Prop} {c : Nat} {x : Int32} (hc : c ≤ 14) (hx : ¬ sr_gd c x) (h : post 0) : wpX_isRule post (Fdl, nI c, Agf, Ahf, Afw, Ada, Adn, Aba, Abn, Abl, Ahd, Avr, Att) x := br_c (fun _ => h) (fun z => br_t (Int32.not_lt.mp (sr_gd_n (by omega) hx z)) h)
theorem sr_le_of {x b b' : Int32} (h : ¬ x < b') (e : b < b') : ¬ x ≤ b := fun z => h (Int32.lt_of_le_of_lt z e)
theorem sr_y_bdg {post : Int32 → Prop} {j : Nat} (hj : j < 8) (h : post 0) : wpY_bad post (Bdl, Bct, Btd, Bnw, Bkp, Bdr, Bdn, Bhd, Bsz, Bat, Bnt, Bbd) (nI j) := br_f (nI_pos (by omega)) (br_t (nI_le (b := 7) (by omega) (by decide)) h)
theorem sr_y_bdb {post : Int32 → Prop} {x : Int32} (hx : ¬ sr_gd 8 x) (h : post 1) : wpY_bad post (Bdl, Bct, Btd, Bnw, Bkp, Bdr, Bdn, Bhd, Bsz, Bat, Bnt, Bbd) x := br_c (fun _ => h) (fun z => br_f (sr_le_of (sr_gd_n (by decide) hx z) (by decide)) h)
theorem sr_y_btg {post : Int32 → Prop} {j : Nat} (hj : j < 6) (h : post 0) : wpY_badThing post (Bdl, Bct, Btd, Bnw, Bkp, Bdr, Bdn, Bhd, Bsz, Bat, Bnt, Bbd) (nI j) := br_f (nI_pos (by omega)) (br_t (nI_le (b := 5) (by omega) (by decide)) h)
theorem sr_y_btb {post : Int32 → Prop} {x : Int32} (hx : ¬ sr_gd 6 x) (h : post 1) : wpY_badThing post (Bdl, Bct, Btd, Bnw, Bkp, Bdr, Bdn, Bhd, Bsz, Bat, Bnt, Bbd) x := br_c (fun _ => h) (fun z => br_f (sr_le_of (sr_gd_n (by decide) hx z) (by decide)) h)
theorem sr_y_bug {post : Int32 → Prop} {c j : Nat} (hc : c ≤ 14) (hj : j < c) (h : post 0) : wpY_badRule post (Bdl, nI c, Btd, Bnw, Bkp, Bdr, Bdn, Bhd, Bsz, Bat, Bnt, Bbd) (nI j) := br_f (nI_pos (by omega)) (br_f (nI_ge hj (by omega)) (br_t (nI_le (b := 13) (by omega) (by decide)) h))
theorem sr_y_bub {post : Int32 → Prop} {c : Nat} {x : Int32} (hc : c ≤ 14) (hx : ¬ sr_gd c x) (h : post 1) : wpY_badRule post (Bdl, nI c, Btd, Bnw, Bkp, Bdr, Bdn, Bhd, Bsz, Bat, Bnt, Bbd) x := br_c (fun _ => h) (fun z => br_t (Int32.not_lt.mp (sr_gd_n (by omega) hx z)) h)
theorem sr_cn_bx {a : Nat → Int64} {S : Nat → Bool} {r : Nat} (h : sr_bx a S) (hr : r < 8) : sr_cn (fun f => sr_lb (a r) f) 36 = sr_cn (fun f => S (36 * r + f)) 36 := sr_cn_eq fun f hf => sr_bx_l h hr hf
theorem sr_p3 (r x y : Nat) : 36 * nI r + 6 * nI x + nI y = nI (36 * r + (6 * x + y)) := by
  rw [sr_m36, sr_m6, nI_add, nI_add, Nat.add_assoc]
theorem sr_p2 (x y : Nat) : 6 * nI x + nI y = nI (6 * x + y) := by
  rw [sr_m6, nI_add]
theorem sr_p1 (r f : Nat) : 36 * nI r + nI f = nI (36 * r + f) := by
  rw [sr_m36, nI_add]
theorem sr_y_szl {post : Int32 → SY → Prop} {r : Nat} {S : Nat → Bool} (hr : r < 8) (hb : sr_by Bnw S) (h : post (nI (sr_cn (fun f => S (36 * r + f)) 36)) (Bdl, Bct, Btd, Bnw, Bkp, Bdr, Bdn, Bhd, Bsz, Bat, Bnt, Bbd)) : ∀ d v, v + d = 36 → wY_size_19 post (nI r) Bdl Bct Btd Bnw Bkp Bdr Bdn Bhd Bsz Bat Bnt Bbd (d + 1) (nI (sr_cn (fun f => S (36 * r + f)) v)) (nI v) := by
  intro d
  induction d with
  | zero =>
    intro v hv
    have e : v = 36 := by omega
    subst e
    exact br_t (by decide) h
  | succ d ih =>
    intro v hv
    have k := ih (v + 1) (by omega)
    simp only [sr_cn] at k
    refine br_f (nI_ge (b := 36) (by omega) (by decide)) ?_
    rw [sr_p1, nI_clamp (by omega), hb _ (by omega)]
    refine ⟨vp_in_nI (by omega) (by decide), sr_if sr_bI_0 (fun z => ?_) (fun z => ?_)⟩
    · rw [if_neg (by rw [z]; decide), Nat.add_zero] at k
      exact nm_r (nI_1 v) k
    · rw [if_pos (by simpa using z)] at k
      exact nm_r (nI_1 _) (nm_r (nI_1 v) k)
theorem sr_y_chl {post : Int32 → SY → Prop} {r : Nat} {S : Nat → Bool} (hr : r < 8) (hb : sr_by Btd S) (h : post (nI (sr_cn (fun f => S (36 * r + f)) 36)) (Bdl, Bct, Btd, Bnw, Bkp, Bdr, Bdn, Bhd, Bsz, Bat, Bnt, Bbd)) : ∀ d v, v + d = 36 → wY_chain_122 post (nI r) Bdl Bct Btd Bnw Bkp Bdr Bdn Bhd Bsz Bat Bnt Bbd (d + 1) (nI (sr_cn (fun f => S (36 * r + f)) v)) (nI v) := by
  intro d
  induction d with
  | zero =>
    intro v hv
    have e : v = 36 := by omega
    subst e
    exact br_t (by decide) h
  | succ d ih =>
    intro v hv
    have k := ih (v + 1) (by omega)
    simp only [sr_cn] at k
    refine br_f (nI_ge (b := 36) (by omega) (by decide)) ?_
    rw [sr_p1, nI_clamp (by omega), hb _ (by omega)]
    refine ⟨vp_in_nI (by omega) (by decide), sr_if sr_bI_0 (fun z => ?_) (fun z => ?_)⟩
    · rw [if_neg (by rw [z]; decide), Nat.add_zero] at k
      exact nm_r (nI_1 v) k
    · rw [if_pos (by simpa using z)] at k
      exact nm_r (nI_1 _) (nm_r (nI_1 v) k)
end
end
section
section
variable {Fdl Frc : Int32} {Agf Ahf Afw : Nat → Int64} {Ada Adn Aba Abn Abl Ahd Avr Att : Nat → Int32}
variable {Bdl Bct : Int32} {Btd Bnw Bkp Bdr Bdn Bhd Bsz Bat Bnt Bbd : Nat → Int32}
theorem i_vc_rules {k : Nat} {u : SX} {v : SY} (I : i_Rel k u v) (hk : k + 5 ≤ 2560) : wpX_rules (fun r => wpY_rules (fun r' => r' = r ∧ i_Rel (k + 5) u v) v) u := by
  have J := i_up I
  obtain ⟨c, d, G, H, R, A, N, I⟩ := I
  obtain ⟨Fdl, Frc, Agf, Ahf, Afw, Ada, Adn, Aba, Abn, Abl, Ahd, Avr, Att⟩ := u
  obtain ⟨Bdl, Bct, Btd, Bnw, Bkp, Bdr, Bdn, Bhd, Bsz, Bat, Bnt, Bbd⟩ := v
  obtain ⟨rfl, rfl, rfl, rfl, I⟩ := I
  exact ⟨rfl, J⟩
theorem i_vc_blank {k : Nat} {u : SX} {v : SY} (I : i_Rel k u v) (hk : k + 5 ≤ 2560) : wpX_blank (fun r u' => wpY_blank (fun r' v' => r' = r ∧ i_Rel (k + 5) u' v') v) u := by
  obtain ⟨c, d, G, H, R, A, N, I⟩ := I
  obtain ⟨Fdl, Frc, Agf, Ahf, Afw, Ada, Adn, Aba, Abn, Abl, Ahd, Avr, Att⟩ := u
  obtain ⟨Bdl, Bct, Btd, Bnw, Bkp, Bdr, Bdn, Bhd, Bsz, Bat, Bnt, Bbd⟩ := v
  obtain ⟨rfl, rfl, rfl, rfl, hc, hd, hG, hG', hH, hD, hR, hR', ht, hA, hA'⟩ := I
  exact ⟨rfl, c, 0, G, H, R, A, N, rfl, rfl, rfl, rfl, hc, Nat.zero_le _, hG, hG', hH, hD, hR, hR', ht, (fun i hi => absurd hi (Nat.not_lt_zero i)), (fun i hi => absurd hi (Nat.not_lt_zero i))⟩
theorem i_vc_given {k : Nat} {u : SX} {v : SY} (I : i_Rel k u v) (hk : k + 5 ≤ 2560) (v1 : Int32) (v2 : Int32) (v3 : Int32) : wpX_given (fun r => wpY_given (fun r' => r' = r ∧ i_Rel (k + 5) u v) v v1 v2 v3) u v1 v2 v3 := by
  have J := i_up I
  obtain ⟨c, d, G, H, R, A, N, I⟩ := I
  obtain ⟨Fdl, Frc, Agf, Ahf, Afw, Ada, Adn, Aba, Abn, Abl, Ahd, Avr, Att⟩ := u
  obtain ⟨Bdl, Bct, Btd, Bnw, Bkp, Bdr, Bdn, Bhd, Bsz, Bat, Bnt, Bbd⟩ := v
  obtain ⟨rfl, rfl, rfl, rfl, hc, hd, hG, hG', hH, hD, hR, hR', ht, hA, hA'⟩ := I
  unfold wpX_given wpX_lookUp__givenFacts wpY_given
  dsimp only
  by_cases g1 : sr_gd 8 v1
  · obtain ⟨r, hr, rfl⟩ := g1
    by_cases g2 : sr_gd 6 v2
    · obtain ⟨x, hx, rfl⟩ := g2
      by_cases g3 : sr_gd 6 v3
      · obtain ⟨y, hy, rfl⟩ := g3
        refine sr_x_irg hr (br_f (by decide) (sr_x_itg hx (br_f (by decide) (sr_x_itg hy (br_f (by decide) ⟨vp_in_nI hr (by decide), ?_⟩)))))
        rw [sr_p2, nI_clamp (by omega)]
        refine sr_x_mem (by omega) ?_
        rw [sr_bx_l hG hr (by omega)]
        refine sr_y_bdg hr (br_t rfl (sr_y_btg hx (br_t rfl (sr_y_btg hy (br_t rfl ?_)))))
        rw [sr_p3, nI_clamp (by omega), hG' _ (by omega)]
        refine ⟨vp_in_nI (by omega) (by decide), sr_if sr_bI_0 (fun z => ⟨?_, J⟩) (fun z => ⟨?_, J⟩)⟩
        · rw [z]; rfl
        · rw [show G (36 * r + (6 * x + y)) = true by simpa using z]; rfl
      · exact sr_x_irg hr (br_f (by decide) (sr_x_itg hx (br_f (by decide) (sr_x_itb g3 (br_t rfl (sr_y_bdg hr (br_t rfl (sr_y_btg hx (br_t rfl (sr_y_btb g3 (br_f (by decide) ⟨rfl, J⟩)))))))))))
    · exact sr_x_irg hr (br_f (by decide) (sr_x_itb g2 (br_t rfl (sr_y_bdg hr (br_t rfl (sr_y_btb g2 (br_f (by decide) ⟨rfl, J⟩)))))))
  · exact sr_x_irb g1 (br_t rfl (sr_y_bdb g1 (br_f (by decide) ⟨rfl, J⟩)))
theorem i_vc_holds {k : Nat} {u : SX} {v : SY} (I : i_Rel k u v) (hk : k + 5 ≤ 2560) (v1 : Int32) (v2 : Int32) (v3 : Int32) : wpX_holds (fun r => wpY_holds (fun r' v' => r' = r ∧ i_Rel (k + 5) u v') v v1 v2 v3) u v1 v2 v3 := by
  have J := i_up I
  obtain ⟨c, d, G, H, R, A, N, I⟩ := I
  obtain ⟨Fdl, Frc, Agf, Ahf, Afw, Ada, Adn, Aba, Abn, Abl, Ahd, Avr, Att⟩ := u
  obtain ⟨Bdl, Bct, Btd, Bnw, Bkp, Bdr, Bdn, Bhd, Bsz, Bat, Bnt, Bbd⟩ := v
  obtain ⟨rfl, rfl, rfl, rfl, hc, hd, hG, hG', hH, hD, hR, hR', ht, hA, hA'⟩ := I
  unfold wpX_holds wpX_lookUp__heldFacts wpY_holds
  dsimp only
  by_cases g1 : sr_gd 8 v1
  · obtain ⟨r, hr, rfl⟩ := g1
    by_cases g2 : sr_gd 6 v2
    · obtain ⟨x, hx, rfl⟩ := g2
      by_cases g3 : sr_gd 6 v3
      · obtain ⟨y, hy, rfl⟩ := g3
        refine sr_x_irg hr (br_f (by decide) (sr_x_itg hx (br_f (by decide) (sr_x_itg hy (br_f (by decide) ⟨vp_in_nI hr (by decide), ?_⟩)))))
        rw [sr_p2, nI_clamp (by omega)]
        refine sr_x_mem (by omega) ?_
        rw [sr_bx_l hH hr (by omega)]
        refine sr_y_bdg hr (br_t rfl (sr_y_btg hx (br_t rfl (sr_y_btg hy (br_t rfl (sr_y_wk hc rfl sr_lom hR' hG' (fun t F T hb hd' => ?_)))))))
        have e := sr_dn_u hd' hD
        subst e
        dsimp only
        rw [sr_p3, nI_clamp (by omega), hb _ (by omega)]
        refine ⟨vp_in_nI (by omega) (by decide), sr_if sr_bI_0 (fun z => ⟨?_, c, d, G, T, R, A, N, rfl, rfl, rfl, rfl, hc, hd, hG, hG', hH, hD, hR, hR', ht, hA, hA'⟩) (fun z => ⟨?_, c, d, G, T, R, A, N, rfl, rfl, rfl, rfl, hc, hd, hG, hG', hH, hD, hR, hR', ht, hA, hA'⟩)⟩
        · rw [z]; rfl
        · rw [show T (36 * r + (6 * x + y)) = true by simpa using z]; rfl
      · exact sr_x_irg hr (br_f (by decide) (sr_x_itg hx (br_f (by decide) (sr_x_itb g3 (br_t rfl (sr_y_bdg hr (br_t rfl (sr_y_btg hx (br_t rfl (sr_y_btb g3 (br_f (by decide) ⟨rfl, J⟩)))))))))))
    · exact sr_x_irg hr (br_f (by decide) (sr_x_itb g2 (br_t rfl (sr_y_bdg hr (br_t rfl (sr_y_btb g2 (br_f (by decide) ⟨rfl, J⟩)))))))
  · exact sr_x_irb g1 (br_t rfl (sr_y_bdb g1 (br_f (by decide) ⟨rfl, J⟩)))
theorem i_vc_size {k : Nat} {u : SX} {v : SY} (I : i_Rel k u v) (hk : k + 5 ≤ 2560) (v1 : Int32) : wpX_size (fun r => wpY_size (fun r' v' => r' = r ∧ i_Rel (k + 5) u v') v v1) u v1 := by
  have J := i_up I
  obtain ⟨c, d, G, H, R, A, N, I⟩ := I
  obtain ⟨Fdl, Frc, Agf, Ahf, Afw, Ada, Adn, Aba, Abn, Abl, Ahd, Avr, Att⟩ := u
  obtain ⟨Bdl, Bct, Btd, Bnw, Bkp, Bdr, Bdn, Bhd, Bsz, Bat, Bnt, Bbd⟩ := v
  obtain ⟨rfl, rfl, rfl, rfl, hc, hd, hG, hG', hH, hD, hR, hR', ht, hA, hA'⟩ := I
  unfold wpX_size wpY_size
  dsimp only
  by_cases g1 : sr_gd 8 v1
  · obtain ⟨r, hr, rfl⟩ := g1
    refine sr_x_irg hr (br_f (by decide) ⟨vp_in_nI hr (by decide), ?_⟩)
    rw [nI_clamp (by omega)]
    refine sr_x_cnt ?_
    rw [sr_cn_bx hH hr]
    refine sr_y_bdg hr (br_t rfl (sr_y_wk hc rfl sr_lom hR' hG' (fun t F T hb hd' => ?_)))
    have e := sr_dn_u hd' hD
    subst e
    exact ⟨37, sr_y_szl hr hb ⟨rfl, c, d, G, T, R, A, N, rfl, rfl, rfl, rfl, hc, hd, hG, hG', hH, hD, hR, hR', ht, hA, hA'⟩ 36 0 rfl⟩
  · exact sr_x_irb g1 (br_t rfl (sr_y_bdb g1 (br_f (by decide) ⟨rfl, J⟩)))
end
end
section
section
variable {Fdl Frc : Int32} {Agf Ahf Afw : Nat → Int64} {Ada Adn Aba Abn Abl Ahd Avr Att : Nat → Int32}
variable {Bdl Bct : Int32} {Btd Bnw Bkp Bdr Bdn Bhd Bsz Bat Bnt Bbd : Nat → Int32}
def sr_nx (H : Nat → Bool) (r : Nat) (a : Int32) : Nat → Nat → Int32
  | 0, _ => -2
  | d + 1, f => if nI f ≤ a then sr_nx H r a d (f + 1) else if H (36 * r + f) = true then nI f else sr_nx H r a d (f + 1)
theorem sr_x_nxl {post : Int32 → Prop} {r : Nat} {a : Int32} {H : Nat → Bool} (hr : r < 8) (hH : sr_bx Ahf H) : ∀ d f, f + d = 36 → post (sr_nx H r a d f) → wX_next_11 post (nI r) a Fdl Frc Agf Ahf Afw Ada Adn Aba Abn Abl Ahd Avr Att (d + 1) (nI f) := by
  intro d
  induction d with
  | zero =>
    intro f hf h
    have e : f = 36 := by omega
    subst e
    exact br_t (by decide) h
  | succ d ih =>
    intro f hf h
    simp only [sr_nx] at h
    refine br_f (nI_ge (b := 36) (by omega) (by decide)) (br_c (fun ha => ?_) (fun ha => ⟨vp_in_nI hr (by decide), ?_⟩))
    · rw [if_pos ha] at h
      exact nm_r (nI_1 f) (ih (f + 1) (by omega) h)
    · rw [if_neg ha] at h
      rw [nI_clamp (by omega)]
      refine sr_x_mem (by omega) ?_
      rw [sr_bx_l hH hr (by omega)]
      refine sr_if sr_bI_1 (fun z => ?_) (fun z => ?_)
      · rw [if_pos z] at h
        exact h
      · rw [if_neg z] at h
        exact nm_r (nI_1 f) (ih (f + 1) (by omega) h)
theorem sr_y_nxl {post : Int32 → SY → Prop} {r : Nat} {a : Int32} {H : Nat → Bool} (hr : r < 8) (hb : sr_by Bnw H) : ∀ d f, f + d = 36 → post (sr_nx H r a d f) (Bdl, Bct, Btd, Bnw, Bkp, Bdr, Bdn, Bhd, Bsz, Bat, Bnt, Bbd) → wY_next_17 post (nI r) a Bdl Bct Btd Bnw Bkp Bdr Bdn Bhd Bsz Bat Bnt Bbd (d + 1) (nI f) := by
  intro d
  induction d with
  | zero =>
    intro f hf h
    have e : f = 36 := by omega
    subst e
    exact br_t (by decide) h
  | succ d ih =>
    intro f hf h
    simp only [sr_nx] at h
    refine br_f (nI_ge (b := 36) (by omega) (by decide)) (br_c (fun ha => ?_) (fun ha => ?_))
    · rw [if_pos ha] at h
      exact nm_r (nI_1 f) (ih (f + 1) (by omega) h)
    · rw [if_neg ha] at h
      rw [sr_p1, nI_clamp (by omega), hb _ (by omega)]
      refine ⟨vp_in_nI (by omega) (by decide), sr_if sr_bI_0 (fun z => ?_) (fun z => ?_)⟩
      · rw [if_neg (by rw [z]; decide)] at h
        exact nm_r (nI_1 f) (ih (f + 1) (by omega) h)
      · rw [if_pos (by simpa using z)] at h
        exact h
theorem i_vc_next {k : Nat} {u : SX} {v : SY} (I : i_Rel k u v) (hk : k + 5 ≤ 2560) (v1 : Int32) (v2 : Int32) : wpX_next (fun r => wpY_next (fun r' v' => r' = r ∧ i_Rel (k + 5) u v') v v1 v2) u v1 v2 := by
  have J := i_up I
  obtain ⟨c, d, G, H, R, A, N, I⟩ := I
  obtain ⟨Fdl, Frc, Agf, Ahf, Afw, Ada, Adn, Aba, Abn, Abl, Ahd, Avr, Att⟩ := u
  obtain ⟨Bdl, Bct, Btd, Bnw, Bkp, Bdr, Bdn, Bhd, Bsz, Bat, Bnt, Bbd⟩ := v
  obtain ⟨rfl, rfl, rfl, rfl, hc, hd, hG, hG', hH, hD, hR, hR', ht, hA, hA'⟩ := I
  unfold wpX_next wpY_next
  dsimp only
  by_cases g1 : sr_gd 8 v1
  · obtain ⟨r, hr, rfl⟩ := g1
    refine sr_x_irg hr (br_f (by decide) ⟨37, sr_x_nxl hr hH 36 0 rfl ?_⟩)
    refine sr_y_bdg hr (br_t rfl (sr_y_wk hc rfl sr_lom hR' hG' (fun t F T hb hd' => ?_)))
    have e := sr_dn_u hd' hD
    subst e
    exact ⟨37, sr_y_nxl hr hb 36 0 rfl ⟨rfl, c, d, G, T, R, A, N, rfl, rfl, rfl, rfl, hc, hd, hG, hG', hH, hD, hR, hR', ht, hA, hA'⟩⟩
  · exact sr_x_irb g1 (br_t rfl (sr_y_bdb g1 (br_f (by decide) ⟨rfl, J⟩)))
theorem sr_x_fnl {post : Int32 → Prop} {r x : Nat} {H : Nat → Bool} (hr : r < 8) (hx : x < 6) (hH : sr_bx Ahf H) (h : post (nI (sr_cn (fun y => H (36 * r + (6 * x + y))) 6))) : ∀ d v, v + d = 6 → wX_fan_24 post (nI r) (nI x) Fdl Frc Agf Ahf Afw Ada Adn Aba Abn Abl Ahd Avr Att (d + 1) (nI (sr_cn (fun y => H (36 * r + (6 * x + y))) v)) (nI v) := by
  intro d
  induction d with
  | zero =>
    intro v hv
    have e : v = 6 := by omega
    subst e
    exact br_t (by decide) h
  | succ d ih =>
    intro v hv
    have k := ih (v + 1) (by omega)
    refine br_f (nI_ge (b := 6) (by omega) (by decide)) ⟨vp_in_nI hr (by decide), ?_⟩
    rw [sr_p2, nI_clamp (by omega)]
    refine sr_x_mem (by omega) ?_
    rw [sr_bx_l hH hr (by omega)]
    refine nm_r ?_ (nm_r (nI_1 v) k)
    rw [sr_bI_n, nI_add]
    rfl
theorem sr_y_fnl {post : Int32 → SY → Prop} {r x : Nat} {S : Nat → Bool} (hr : r < 8) (hx : x < 6) (hb : sr_by Bnw S) (h : post (nI (sr_cn (fun y => S (36 * r + (6 * x + y))) 6)) (Bdl, Bct, Btd, Bnw, Bkp, Bdr, Bdn, Bhd, Bsz, Bat, Bnt, Bbd)) : ∀ d v, v + d = 6 → wY_fan_31 post (nI r) (nI x) Bdl Bct Btd Bnw Bkp Bdr Bdn Bhd Bsz Bat Bnt Bbd (d + 1) (nI (sr_cn (fun y => S (36 * r + (6 * x + y))) v)) (nI v) := by
  intro d
  induction d with
  | zero =>
    intro v hv
    have e : v = 6 := by omega
    subst e
    exact br_t (by decide) h
  | succ d ih =>
    intro v hv
    have k := ih (v + 1) (by omega)
    simp only [sr_cn] at k
    refine br_f (nI_ge (b := 6) (by omega) (by decide)) ?_
    rw [sr_p3, nI_clamp (by omega), hb _ (by omega)]
    refine ⟨vp_in_nI (by omega) (by decide), sr_if sr_bI_0 (fun z => ?_) (fun z => ?_)⟩
    · rw [if_neg (by rw [z]; decide), Nat.add_zero] at k
      exact nm_r (nI_1 v) k
    · rw [if_pos (by simpa using z)] at k
      exact nm_r (nI_1 _) (nm_r (nI_1 v) k)
theorem i_vc_fan {k : Nat} {u : SX} {v : SY} (I : i_Rel k u v) (hk : k + 5 ≤ 2560) (v1 : Int32) (v2 : Int32) : wpX_fan (fun r => wpY_fan (fun r' v' => r' = r ∧ i_Rel (k + 5) u v') v v1 v2) u v1 v2 := by
  have J := i_up I
  obtain ⟨c, d, G, H, R, A, N, I⟩ := I
  obtain ⟨Fdl, Frc, Agf, Ahf, Afw, Ada, Adn, Aba, Abn, Abl, Ahd, Avr, Att⟩ := u
  obtain ⟨Bdl, Bct, Btd, Bnw, Bkp, Bdr, Bdn, Bhd, Bsz, Bat, Bnt, Bbd⟩ := v
  obtain ⟨rfl, rfl, rfl, rfl, hc, hd, hG, hG', hH, hD, hR, hR', ht, hA, hA'⟩ := I
  unfold wpX_fan wpY_fan
  dsimp only
  by_cases g1 : sr_gd 8 v1
  · obtain ⟨r, hr, rfl⟩ := g1
    by_cases g2 : sr_gd 6 v2
    · obtain ⟨x, hx, rfl⟩ := g2
      refine sr_x_irg hr (br_f (by decide) (sr_x_itg hx (br_f (by decide) ⟨7, sr_x_fnl hr hx hH ?_ 6 0 rfl⟩)))
      refine sr_y_bdg hr (br_t rfl (sr_y_btg hx (br_t rfl (sr_y_wk hc rfl sr_lom hR' hG' (fun t F T hb hd' => ?_)))))
      have e := sr_dn_u hd' hD
      subst e
      exact ⟨7, sr_y_fnl hr hx hb ⟨rfl, c, d, G, T, R, A, N, rfl, rfl, rfl, rfl, hc, hd, hG, hG', hH, hD, hR, hR', ht, hA, hA'⟩ 6 0 rfl⟩
    · exact sr_x_irg hr (br_f (by decide) (sr_x_itb g2 (br_t rfl (sr_y_bdg hr (br_t rfl (sr_y_btb g2 (br_f (by decide) ⟨rfl, J⟩)))))))
  · exact sr_x_irb g1 (br_t rfl (sr_y_bdb g1 (br_f (by decide) ⟨rfl, J⟩)))
theorem sr_wi {H : Nat → Bool} {r s : Nat} (hr : r < 8) (hs : s < 8) (hH : sr_bx Ahf H) : (Ahf r &&& (Ahf s ^^^ (-1))) = 0 ↔ ∀ f, f < 36 → H (36 * r + f) = true → H (36 * s + f) = true := by
  rw [sr_lb_z]
  constructor
  · intro h f hf z
    have a := h f (by omega)
    rw [sr_lb_and, sr_lb_not (by omega), sr_bx_l hH hr hf, sr_bx_l hH hs hf, z] at a
    simpa using a
  · intro h f hf
    rw [sr_lb_and, sr_lb_not hf]
    by_cases z : f < 36
    · rw [sr_bx_l hH hr z, sr_bx_l hH hs z]
      have a := h f z
      cases e : H (36 * r + f) with
      | false => rfl
      | true => rw [a e]; rfl
    · rw [sr_bx_b hH hr (by omega) hf]
      rfl
theorem sr_y_wil {post : Int32 → SY → Prop} {r s : Nat} {S : Nat → Bool} (hr : r < 8) (hs : s < 8) (hb : sr_by Bnw S) (h1 : (∀ f, f < 36 → S (36 * r + f) = true → S (36 * s + f) = true) → post 1 (Bdl, Bct, Btd, Bnw, Bkp, Bdr, Bdn, Bhd, Bsz, Bat, Bnt, Bbd)) (h0 : ¬ (∀ f, f < 36 → S (36 * r + f) = true → S (36 * s + f) = true) → post 0 (Bdl, Bct, Btd, Bnw, Bkp, Bdr, Bdn, Bhd, Bsz, Bat, Bnt, Bbd)) : ∀ d v, v + d = 36 → (∀ f, f < v → S (36 * r + f) = true → S (36 * s + f) = true) → wY_within_25 post (nI r) (nI s) Bdl Bct Btd Bnw Bkp Bdr Bdn Bhd Bsz Bat Bnt Bbd (d + 1) (nI v) := by
  intro d
  induction d with
  | zero =>
    intro v hv hi
    have e : v = 36 := by omega
    subst e
    exact br_t (by decide) (h1 hi)
  | succ d ih =>
    intro v hv hi
    have k := fun z => ih (v + 1) (by omega) (lt_s hi z)
    refine br_f (nI_ge (b := 36) (by omega) (by decide)) ?_
    rw [sr_p1, sr_p1, nI_clamp (by omega), nI_clamp (by omega), hb _ (by omega), hb _ (by omega)]
    refine ⟨vp_in_nI (by omega) (by decide), sr_if sr_bI_0 (fun z => nm_r (nI_1 v) (k (fun y => by rw [z] at y; exact nomatch y))) (fun z => ⟨vp_in_nI (by omega) (by decide), sr_if sr_bI_0 (fun y => h0 (fun q => ?_)) (fun y => nm_r (nI_1 v) (k (fun _ => by simpa using y)))⟩)⟩
    have a := q v (by omega) (by simpa using z)
    rw [y] at a
    exact nomatch a
theorem i_vc_within {k : Nat} {u : SX} {v : SY} (I : i_Rel k u v) (hk : k + 5 ≤ 2560) (v1 : Int32) (v2 : Int32) : wpX_within (fun r => wpY_within (fun r' v' => r' = r ∧ i_Rel (k + 5) u v') v v1 v2) u v1 v2 := by
  have J := i_up I
  obtain ⟨c, d, G, H, R, A, N, I⟩ := I
  obtain ⟨Fdl, Frc, Agf, Ahf, Afw, Ada, Adn, Aba, Abn, Abl, Ahd, Avr, Att⟩ := u
  obtain ⟨Bdl, Bct, Btd, Bnw, Bkp, Bdr, Bdn, Bhd, Bsz, Bat, Bnt, Bbd⟩ := v
  obtain ⟨rfl, rfl, rfl, rfl, hc, hd, hG, hG', hH, hD, hR, hR', ht, hA, hA'⟩ := I
  unfold wpX_within wpY_within
  dsimp only
  by_cases g1 : sr_gd 8 v1
  · obtain ⟨r, hr, rfl⟩ := g1
    by_cases g2 : sr_gd 8 v2
    · obtain ⟨s, hs, rfl⟩ := g2
      refine sr_x_irg hr (br_f (by decide) (sr_x_irg hs (br_f (by decide) ⟨vp_in_nI hr (by decide), vp_in_nI hs (by decide), ?_⟩)))
      rw [nI_clamp (by omega), nI_clamp (by omega)]
      refine sr_if (sr_wi hr hs hH) (fun z => ?_) (fun z => ?_)
      · refine sr_y_bdg hr (br_t rfl (sr_y_bdg hs (br_t rfl (sr_y_wk hc rfl sr_lom hR' hG' (fun t F T hb hd' => ?_)))))
        have e := sr_dn_u hd' hD
        subst e
        exact ⟨37, sr_y_wil hr hs hb (fun _ => ⟨rfl, c, d, G, T, R, A, N, rfl, rfl, rfl, rfl, hc, hd, hG, hG', hH, hD, hR, hR', ht, hA, hA'⟩) (fun y => absurd z y) 36 0 rfl lt_0⟩
      · refine sr_y_bdg hr (br_t rfl (sr_y_bdg hs (br_t rfl (sr_y_wk hc rfl sr_lom hR' hG' (fun t F T hb hd' => ?_)))))
        have e := sr_dn_u hd' hD
        subst e
        exact ⟨37, sr_y_wil hr hs hb (fun y => absurd y z) (fun _ => ⟨rfl, c, d, G, T, R, A, N, rfl, rfl, rfl, rfl, hc, hd, hG, hG', hH, hD, hR, hR', ht, hA, hA'⟩) 36 0 rfl lt_0⟩
    · exact sr_x_irg hr (br_f (by decide) (sr_x_irb g2 (br_t rfl (sr_y_bdg hr (br_t rfl (sr_y_bdb g2 (br_f (by decide) ⟨rfl, J⟩)))))))
  · exact sr_x_irb g1 (br_t rfl (sr_y_bdb g1 (br_f (by decide) ⟨rfl, J⟩)))
end
end
section
section
variable {Fdl Frc : Int32} {Agf Ahf Afw : Nat → Int64} {Ada Adn Aba Abn Abl Ahd Avr Att : Nat → Int32}
variable {Bdl Bct : Int32} {Btd Bnw Bkp Bdr Bdn Bhd Bsz Bat Bnt Bbd : Nat → Int32}
theorem sr_x_inl {post : SX → Prop} (h : ∀ t, sr_tt t → post (Fdl, Frc, Agf, Ahf, Afw, Ada, Adn, Aba, Abn, Abl, Ahd, Avr, t)) : ∀ d v t, v + d = 10 → 4 ≤ v → (∀ i, 4 ≤ i → i < v → t i = nI (i - 4)) → wX_init_92 post Fdl Frc (d + 1) (nI v) Agf Ahf Afw Ada Adn Aba Abn Abl Ahd Avr t := by
  intro d
  induction d with
  | zero =>
    intro v t hv h4 hi
    have e : v = 10 := by omega
    subst e
    exact br_t (by decide) (h t hi)
  | succ d ih =>
    intro v t hv h4 hi
    refine br_f (nI_ge (b := 10) (by omega) (by decide)) ⟨vp_in_nI (by omega) (by decide), nm_r (e' := upd t v (nI (v - 4))) ?_ (nm_r (nI_1 v) (ih (v + 1) _ (by omega) (by omega) ?_))⟩
    · rw [nI_clamp (by omega)]
      have e : nI v - 4 = nI (v - 4) := pk_sub (b := 4) h4
      rw [e]
    · intro i h4' hiv
      by_cases z : i = v
      · subst z; rw [pk_us]
      · rw [pk_un z]; exact hi i h4' (by omega)
theorem sr_lb_f (f : Nat) : sr_lb ((fun _ => 0 : Nat → Int64) 0) f = false := sr_lb_0 f
theorem sr_bx_0 : sr_bx (fun _ => 0) (fun _ => false) := by
  intro r _ f _
  show sr_lb 0 f = _
  rw [sr_lb_0, Bool.and_false]
theorem sr_cl_0 (R : Nat → sr_R) (wo ℓ : Nat) (T : Nat → Bool) : sr_cl R 0 wo ℓ T := fun r hr => absurd hr (Nat.not_lt_zero r)
theorem sr_dn_0 (R : Nat → sr_R) (wo : Nat) (G : Nat → Bool) : ∀ ℓ, sr_dn R 0 wo G ℓ G
  | 0 => rfl
  | ℓ + 1 => ⟨G, sr_dn_0 R wo G ℓ, sr_in_0 R 0 wo ℓ G, sr_cl_0 R wo ℓ G⟩
theorem i_vc0 : wpX_init (fun u => wpY_init (fun v => i_Rel 0 u v)) := by
  refine ⟨7, sr_x_inl ?_ 6 4 (fun _ => 0) rfl (by omega) (fun i h4 hi => by omega)⟩
  intro t ht
  exact ⟨0, 0, fun _ => false, fun _ => false, fun _ => (0, 0, fun _ => 0, fun _ => false), fun _ => 0, fun _ => false, rfl, rfl, rfl, rfl, Nat.zero_le _, Nat.zero_le _, sr_bx_0, (fun _ _ => rfl), sr_bx_0, sr_dn_0 _ _ _ 4, (fun r hr => absurd hr (Nat.not_lt_zero r)), (fun r hr => absurd hr (Nat.not_lt_zero r)), ht, (fun r hr => absurd hr (Nat.not_lt_zero r)), (fun r hr => absurd hr (Nat.not_lt_zero r))⟩
theorem sr_D_s {d a : Nat} {A : Nat → Nat} {N : Nat → Bool} {da dn : Nat → Int32} (b : Bool) (h : sr_D d A N da dn) (ha : a < 800) : sr_D (d + 1) (fun i => if i = d then a else A i) (fun i => if i = d then b else N i) (upd da d (nI a)) (upd dn d (sr_bI b)) := by
  intro i hi
  by_cases z : i = d
  · subst z
    rw [pk_us, pk_us]
    simp [ha]
  · rw [pk_un z, pk_un z]
    simp only [if_neg z]
    exact h i (by omega)
theorem i_vc_body {k : Nat} {u : SX} {v : SY} (I : i_Rel k u v) (hk : k + 5 ≤ 2560) (v1 : Int32) (v2 : Int32) : wpX_body (fun r u' => wpY_body (fun r' v' => r' = r ∧ i_Rel (k + 5) u' v') v v1 v2) u v1 v2 := by
  have J := i_up I
  obtain ⟨c, d, G, H, R, A, N, I⟩ := I
  obtain ⟨Fdl, Frc, Agf, Ahf, Afw, Ada, Adn, Aba, Abn, Abl, Ahd, Avr, Att⟩ := u
  obtain ⟨Bdl, Bct, Btd, Bnw, Bkp, Bdr, Bdn, Bhd, Bsz, Bat, Bnt, Bbd⟩ := v
  obtain ⟨rfl, rfl, rfl, rfl, hc, hd, hG, hG', hH, hD, hR, hR', ht, hA, hA'⟩ := I
  unfold wpX_body wpY_body
  dsimp only
  by_cases g1 : sr_gd 800 v1
  · obtain ⟨a, ha, rfl⟩ := g1
    have p0 : ¬ nI a < 0 := nI_pos (by omega)
    have p1 : nI a ≤ 799 := nI_le (b := 799) (by omega) (by decide)
    refine sr_x_iag ha (br_f (by decide) ?_)
    by_cases h3 : d < 3
    · have q1 : nI d < 3 := nI_lt (b := 3) h3 (by decide)
      have q2 : nI d ≤ 2 := nI_le (b := 2) (by omega) (by decide)
      have q3 : vp_in (nI d) 3 := vp_in_nI h3 (by decide)
      have e : (nI d).toNatClampNeg = d := nI_clamp (by omega)
      have n0 : vp_nar .boolean 0 = sr_bI false := sr_nar false
      have n1 : vp_nar .boolean 1 = sr_bI true := sr_nar true
      by_cases z : v2 = 0
      · refine br_t q1 ⟨q3, nm_e (br_t z ⟨q3, nm_e (nm_r (nI_1 d) ?_)⟩)⟩
        refine br_f p0 (br_t p1 (br_t q2 ⟨q3, nm_e (br_t z ⟨q3, nm_e (nm_r (nI_1 d) ⟨rfl, ?_⟩)⟩)⟩))
        rw [e, n0]
        exact ⟨c, d + 1, G, H, R, _, _, rfl, rfl, rfl, rfl, hc, by omega, hG, hG', hH, hD, hR, hR', ht, sr_D_s false hA ha, sr_D_s false hA' ha⟩
      · refine br_t q1 ⟨q3, nm_e (br_f z ⟨q3, nm_e (nm_r (nI_1 d) ?_)⟩)⟩
        refine br_f p0 (br_t p1 (br_t q2 ⟨q3, nm_e (br_f z ⟨q3, nm_e (nm_r (nI_1 d) ⟨rfl, ?_⟩)⟩)⟩))
        rw [e, n1]
        exact ⟨c, d + 1, G, H, R, _, _, rfl, rfl, rfl, rfl, hc, by omega, hG, hG', hH, hD, hR, hR', ht, sr_D_s true hA ha, sr_D_s true hA' ha⟩
    · have q1 : ¬ nI d < 3 := nI_nlt (b := 3) (by omega) (by omega)
      have q2 : ¬ nI d ≤ 2 := nI_ge (a := 2) (by omega) (by omega)
      exact br_f q1 (br_f p0 (br_t p1 (br_f q2 ⟨rfl, J⟩)))
  · refine sr_x_iab g1 (br_t rfl (br_c (fun _ => ⟨rfl, J⟩) (fun z => br_f (sr_le_of (sr_gd_n (n := 800) (by decide) g1 z) (by decide)) ⟨rfl, J⟩)))
theorem i_vc_give {k : Nat} {u : SX} {v : SY} (I : i_Rel k u v) (hk : k + 5 ≤ 2560) (v1 : Int32) (v2 : Int32) (v3 : Int32) (v4 : Int32) : wpX_give (fun r u' => wpY_give (fun r' v' => r' = r ∧ i_Rel (k + 5) u' v') v v1 v2 v3 v4) u v1 v2 v3 v4 := by
  have J := i_up I
  obtain ⟨c, d, G, H, R, A, N, I⟩ := I
  obtain ⟨Fdl, Frc, Agf, Ahf, Afw, Ada, Adn, Aba, Abn, Abl, Ahd, Avr, Att⟩ := u
  obtain ⟨Bdl, Bct, Btd, Bnw, Bkp, Bdr, Bdn, Bhd, Bsz, Bat, Bnt, Bbd⟩ := v
  obtain ⟨rfl, rfl, rfl, rfl, hc, hd, hG, hG', hH, hD, hR, hR', ht, hA, hA'⟩ := I
  unfold wpX_give wpY_give
  dsimp only
  by_cases g1 : sr_gd 8 v1
  · obtain ⟨r, hr, rfl⟩ := g1
    by_cases g2 : sr_gd 6 v2
    · obtain ⟨x, hx, rfl⟩ := g2
      by_cases g3 : sr_gd 6 v3
      · obtain ⟨y, hy, rfl⟩ := g3
        have hp : 36 * r + (6 * x + y) < 288 := by omega
        have e1 : (nI r).toNatClampNeg = r := nI_clamp (by omega)
        have e2 : (nI (36 * r + (6 * x + y))).toNatClampNeg = 36 * r + (6 * x + y) := nI_clamp (by omega)
        have n0 : vp_nar .boolean 0 = sr_bI false := sr_nar false
        have n1 : vp_nar .boolean 1 = sr_bI true := sr_nar true
        refine sr_x_irg hr (br_f (by decide) (sr_x_itg hx (br_f (by decide) (sr_x_itg hy (br_f (by decide) (nm_r (sr_p2 x y) ⟨vp_in_nI hr (by decide), ?_⟩))))))
        rw [e1]
        refine sr_x_mem (by omega) ?_
        rw [sr_bx_l hG hr (by omega)]
        by_cases z : v4 = 0
        · refine br_t z ⟨vp_in_nI hr (by decide), vp_in_nI hr (by decide), nm_e ?_⟩
          unfold wX_give_85
          refine sr_x_dH hc rfl sr_lom hR ht (sr_bx_c hG hr (by omega)) (fun t F T ht' hb' hd' => ?_)
          dsimp only
          refine sr_y_bdg hr (br_t rfl (sr_y_btg hx (br_t rfl (sr_y_btg hy (br_t rfl (nm_r (sr_p3 r x y) ⟨vp_in_nI hp (by decide), ?_⟩))))))
          rw [e2, hG' _ hp]
          refine sr_if sr_bI_0 (fun q => br_t z ⟨vp_in_nI hp (by decide), nm_e ⟨?_, ?_⟩⟩) (fun q => br_t z ⟨vp_in_nI hp (by decide), nm_e ⟨?_, ?_⟩⟩)
          · rw [q]; rfl
          · rw [e2, n0]
            exact ⟨c, d, _, T, R, A, N, rfl, rfl, rfl, rfl, hc, hd, sr_bx_c hG hr (by omega), sr_by_s hG' _ false, hb', hd', hR, hR', ht', hA, hA'⟩
          · rw [show G (36 * r + (6 * x + y)) = true by simpa using q]; rfl
          · rw [e2, n0]
            exact ⟨c, d, _, T, R, A, N, rfl, rfl, rfl, rfl, hc, hd, sr_bx_c hG hr (by omega), sr_by_s hG' _ false, hb', hd', hR, hR', ht', hA, hA'⟩
        · refine br_f z ⟨vp_in_nI hr (by decide), vp_in_nI hr (by decide), nm_e ?_⟩
          unfold wX_give_85
          refine sr_x_dH hc rfl sr_lom hR ht (sr_bx_s hG hr (by omega)) (fun t F T ht' hb' hd' => ?_)
          dsimp only
          refine sr_y_bdg hr (br_t rfl (sr_y_btg hx (br_t rfl (sr_y_btg hy (br_t rfl (nm_r (sr_p3 r x y) ⟨vp_in_nI hp (by decide), ?_⟩))))))
          rw [e2, hG' _ hp]
          refine sr_if sr_bI_0 (fun q => br_f z ⟨vp_in_nI hp (by decide), nm_e ⟨?_, ?_⟩⟩) (fun q => br_f z ⟨vp_in_nI hp (by decide), nm_e ⟨?_, ?_⟩⟩)
          · rw [q]; rfl
          · rw [e2, n1]
            exact ⟨c, d, _, T, R, A, N, rfl, rfl, rfl, rfl, hc, hd, sr_bx_s hG hr (by omega), sr_by_s hG' _ true, hb', hd', hR, hR', ht', hA, hA'⟩
          · rw [show G (36 * r + (6 * x + y)) = true by simpa using q]; rfl
          · rw [e2, n1]
            exact ⟨c, d, _, T, R, A, N, rfl, rfl, rfl, rfl, hc, hd, sr_bx_s hG hr (by omega), sr_by_s hG' _ true, hb', hd', hR, hR', ht', hA, hA'⟩
      · exact sr_x_irg hr (br_f (by decide) (sr_x_itg hx (br_f (by decide) (sr_x_itb g3 (br_t rfl (sr_y_bdg hr (br_t rfl (sr_y_btg hx (br_t rfl (sr_y_btb g3 (br_f (by decide) ⟨rfl, J⟩)))))))))))
    · exact sr_x_irg hr (br_f (by decide) (sr_x_itb g2 (br_t rfl (sr_y_bdg hr (br_t rfl (sr_y_btb g2 (br_f (by decide) ⟨rfl, J⟩)))))))
  · exact sr_x_irb g1 (br_t rfl (sr_y_bdb g1 (br_f (by decide) ⟨rfl, J⟩)))
end
end
section
section
variable {Fdl Frc : Int32} {Agf Ahf Afw : Nat → Int64} {Ada Adn Aba Abn Abl Ahd Avr Att : Nat → Int32}
variable {Bdl Bct : Int32} {Btd Bnw Bkp Bdr Bdn Bhd Bsz Bat Bnt Bbd : Nat → Int32}
theorem sr_x_chn {post : Int32 → SX → Prop} {c r x s n : Nat} {R : Nat → sr_R} {G : Nat → Bool} (hc : c ≤ 14) (hrc : Frc = nI c) (hR : ∀ r, r < c → sr_r1 r (R r) Ahd Abl Aba Abn Avr) (ht : sr_tt Att) (hr : r < 8) (hx : x < 6) (hs : s ≤ 5) (hn : n ≤ 6) (K : ∀ t E F T, sr_tt t → sr_bx E (sr_ch G r x s n) → sr_bx F T → sr_dn R c 14 (sr_ch G r x s n) 4 T → post (nI (sr_cn (fun f => sr_ch G r x s n (36 * r + f)) 36)) (Fdl, Frc, E, F, Afw, Ada, Adn, Aba, Abn, Abl, Ahd, Avr, t)) : ∀ d i E, i + d = n → sr_bx E (sr_ch G r x s i) → wX_chain_63 post (nI r) (nI x) (nI s) (nI n) Fdl Frc (d + 1) (nI i) E Ahf Afw Ada Adn Aba Abn Abl Ahd Avr Att := by
  intro d
  induction d with
  | zero =>
    intro i E hi hb
    have e : i = n := by omega
    subst e
    refine br_t (nI_le (Nat.le_refl _) (by omega)) (sr_x_dH hc hrc sr_lom hR ht hb (fun t F T ht' hb' hd' => ⟨vp_in_nI hr (by decide), ?_⟩))
    rw [nI_clamp (by omega)]
    refine sr_x_cnt ?_
    rw [sr_cn_bx hb hr]
    exact K t E F T ht' hb hb' hd'
  | succ d ih =>
    intro i E hi hb
    have hu : (x + i) % 6 < 6 := Nat.mod_lt _ (by decide)
    have hv : (x + i + s) % 6 < 6 := Nat.mod_lt _ (by decide)
    refine br_f (nI_ge (by omega) (by omega)) ⟨by decide, nm_r (e' := nI ((x + i) % 6)) ?_ ⟨by decide, nm_r (e' := nI ((x + i + s) % 6)) ?_ ⟨vp_in_nI hr (by decide), vp_in_nI hr (by decide), nm_r (e' := vp_updL E r (E r ||| (1 : Int64) <<< ((nI (6 * ((x + i) % 6) + (x + i + s) % 6)).toInt64 &&& 63))) ?_ (nm_r (nI_1 i) (ih (i + 1) _ (by omega) (sr_bx_s hb hr (by omega))))⟩⟩⟩
    · rw [nI_add]; exact sr_r6 (by omega)
    · rw [nI_add, nI_add]; exact sr_r6 (by omega)
    · rw [nI_clamp (by omega), sr_p2]
theorem sr_y_chn {post : Int32 → SY → Prop} {r x p n : Nat} {G : Nat → Bool} (hr : r < 8) (hx : x < 6) (hp : p < 2 ^ 31) (hs : p / 8 ≤ 5) (hn : n ≤ 6) (K : ∀ E, sr_by E (sr_ch G r x (p / 8) n) → post (nI (sr_cn (fun f => sr_ch G r x (p / 8) n (36 * r + f)) 36)) (Bdl, Bct, E, Bnw, Bkp, Bdr, Bdn, Bhd, Bsz, Bat, Bnt, Bbd)) : ∀ d i E, i + d = n → sr_by E (sr_ch G r x (p / 8) i) → wY_chain_61 post (nI r) (nI x) (nI p) (nI n) Bdl Bct (d + 1) (nI i) E Bnw Bkp Bdr Bdn Bhd Bsz Bat Bnt Bbd := by
  intro d
  induction d with
  | zero =>
    intro i E hi hb
    have e : i = n := by omega
    subst e
    exact br_t (nI_le (Nat.le_refl _) (by omega)) ⟨37, sr_y_chl hr hb (K E hb) 36 0 rfl⟩
  | succ d ih =>
    intro i E hi hb
    have hu : (x + i) % 6 < 6 := Nat.mod_lt _ (by decide)
    have hv : (x + i + p / 8) % 6 < 6 := Nat.mod_lt _ (by decide)
    refine br_f (nI_ge (by omega) (by omega)) ⟨by decide, nm_r (e' := nI ((x + i) % 6)) ?_ ⟨by decide, by decide, nm_r (e' := nI ((x + i + p / 8) % 6)) ?_ ?_⟩⟩
    · rw [nI_add]; exact sr_r6 (by omega)
    · rw [sr_d8 hp, nI_add, nI_add]; exact sr_r6 (by omega)
    · have n1 : vp_nar .boolean 1 = sr_bI true := sr_nar true
      rw [sr_p3, nI_clamp (by omega), n1]
      exact ⟨vp_in_nI (by omega) (by decide), nm_e (nm_r (nI_1 i) (ih (i + 1) _ (by omega) (sr_by_s hb _ true)))⟩
theorem i_vc_chain {k : Nat} {u : SX} {v : SY} (I : i_Rel k u v) (hk : k + 5 ≤ 2560) (v1 : Int32) (v2 : Int32) (v3 : Int32) : wpX_chain (fun r u' => wpY_chain (fun r' v' => r' = r ∧ i_Rel (k + 5) u' v') v v1 v2 v3) u v1 v2 v3 := by
  have J := i_up I
  obtain ⟨c, d, G, H, R, A, N, I⟩ := I
  obtain ⟨Fdl, Frc, Agf, Ahf, Afw, Ada, Adn, Aba, Abn, Abl, Ahd, Avr, Att⟩ := u
  obtain ⟨Bdl, Bct, Btd, Bnw, Bkp, Bdr, Bdn, Bhd, Bsz, Bat, Bnt, Bbd⟩ := v
  obtain ⟨rfl, rfl, rfl, rfl, hc, hd, hG, hG', hH, hD, hR, hR', ht, hA, hA'⟩ := I
  unfold wpX_chain wpY_chain
  dsimp only
  by_cases g1 : sr_gd 8 v1
  · obtain ⟨r, hr, rfl⟩ := g1
    by_cases g2 : sr_gd 6 v2
    · obtain ⟨x, hx, rfl⟩ := g2
      by_cases h3 : v3 < 0
      · exact ⟨by decide, nm_e ⟨by decide, nm_e (sr_x_irg hr (br_f (by decide) (sr_x_itg hx (br_f (by decide) (br_t h3 (sr_y_bdg hr (br_t rfl (sr_y_btg hx (br_t rfl (br_t h3 ⟨rfl, J⟩))))))))))⟩⟩
      · obtain ⟨p, hp, rfl⟩ := nI_of h3
        have h8 : p % 8 < 8 := Nat.mod_lt _ (by decide)
        refine ⟨by decide, nm_r (sr_d8 hp) ⟨by decide, nm_r (sr_r8 hp) (sr_x_irg hr (br_f (by decide) (sr_x_itg hx (br_f (by decide) (br_f h3 ?_)))))⟩⟩
        by_cases hs : p / 8 ≤ 5
        · have s1 : nI (p / 8) ≤ 5 := nI_le (b := 5) hs (by decide)
          have s2 : nI p / 8 ≤ 5 := by rw [sr_d8 hp]; exact s1
          refine br_t s1 ?_
          by_cases h1 : p % 8 < 1
          · have q1 : nI (p % 8) < 1 := nI_lt (b := 1) h1 (by decide)
            exact br_t q1 (sr_y_bdg hr (br_t rfl (sr_y_btg hx (br_t rfl (br_f h3 ⟨by decide, br_t s2 ⟨by decide, nm_r (sr_r8 hp) (br_t q1 ⟨rfl, J⟩)⟩⟩)))))
          · have q1 : ¬ nI (p % 8) < 1 := nI_nlt (b := 1) (by omega) (by omega)
            refine br_f q1 ?_
            by_cases h6 : p % 8 ≤ 6
            · have q2 : nI (p % 8) ≤ 6 := nI_le (b := 6) h6 (by decide)
              refine br_t q2 ⟨p % 8 + 1, sr_x_chn (G := G) hc rfl hR ht hr hx hs h6 (fun t E F T ht' hE hb' hd' => ?_) (p % 8) 0 Agf (by omega) hG⟩
              refine sr_y_bdg hr (br_t rfl (sr_y_btg hx (br_t rfl (br_f h3 ⟨by decide, br_t s2 ⟨by decide, nm_r (sr_r8 hp) (br_f q1 (br_t q2 ⟨p % 8 + 1, sr_y_chn (G := G) hr hx hp hs h6 (fun E' hE' => ⟨rfl, ?_⟩) (p % 8) 0 Btd (by omega) hG'⟩))⟩⟩))))
              exact ⟨c, d, _, T, R, A, N, rfl, rfl, rfl, rfl, hc, hd, hE, hE', hb', hd', hR, hR', ht', hA, hA'⟩
            · have q2 : ¬ nI (p % 8) ≤ 6 := nI_ge (a := 6) (by omega) (by omega)
              exact br_f q2 (sr_y_bdg hr (br_t rfl (sr_y_btg hx (br_t rfl (br_f h3 ⟨by decide, br_t s2 ⟨by decide, nm_r (sr_r8 hp) (br_f q1 (br_f q2 ⟨rfl, J⟩))⟩⟩)))))
        · have s1 : ¬ nI (p / 8) ≤ 5 := nI_ge (a := 5) (by omega) (by omega)
          have s2 : ¬ nI p / 8 ≤ 5 := by rw [sr_d8 hp]; exact s1
          exact br_f s1 (sr_y_bdg hr (br_t rfl (sr_y_btg hx (br_t rfl (br_f h3 ⟨by decide, br_f s2 ⟨rfl, J⟩⟩)))))
    · exact ⟨by decide, nm_e ⟨by decide, nm_e (sr_x_irg hr (br_f (by decide) (sr_x_itb g2 (br_t rfl (sr_y_bdg hr (br_t rfl (sr_y_btb g2 (br_f (by decide) ⟨rfl, J⟩))))))))⟩⟩
  · exact ⟨by decide, nm_e ⟨by decide, nm_e (sr_x_irb g1 (br_t rfl (sr_y_bdb g1 (br_f (by decide) ⟨rfl, J⟩))))⟩⟩
end
end
section
section
variable {Fdl Frc : Int32} {Agf Ahf Afw : Nat → Int64} {Ada Adn Aba Abn Abl Ahd Avr Att : Nat → Int32}
variable {Bdl Bct : Int32} {Btd Bnw Bkp Bdr Bdn Bhd Bsz Bat Bnt Bbd : Nat → Int32}
theorem sr_x_wyl {post : Int32 → SX → Prop} {r : Nat} {ρ : sr_R} {T : Nat → Bool} (hr : r < 14) (h1 : sr_r1 r ρ Ahd Abl Aba Abn Avr) (hb : sr_bx Ahf T) (K : ∀ t, sr_tt t → post (nI (sr_cn (fun w => sr_met ρ T w) (sr_nb ρ))) (Fdl, Frc, Agf, Ahf, Afw, Ada, Adn, Aba, Abn, Abl, Ahd, Avr, t)) : ∀ d j t, j + d = sr_nb ρ → sr_tt t → wX_ways_21 post (nI r) (nI (sr_nb ρ)) (d + 1) (nI (sr_cn (fun w => sr_met ρ T w) j)) (nI j) Fdl Frc Agf Ahf Afw Ada Adn Aba Abn Abl Ahd Avr t := by
  have hnb := sr_nb_le ρ
  intro d
  induction d with
  | zero =>
    intro j t hj ht
    have e : j = sr_nb ρ := by omega
    subst e
    exact br_t (nI_le (Nat.le_refl _) (by omega)) (K t ht)
  | succ d ih =>
    intro j t hj ht
    refine br_f (nI_ge (by omega) (by omega)) (sr_x_ag hr (sr_mk_lt ρ) h1.2.2.2.1 (by omega) ht (fun t' ht' htw => ?_))
    refine sr_x_bmH hr h1 hb htw ?_
    have k := ih (j + 1) t' (by omega) ht'
    simp only [sr_cn] at k
    refine sr_if sr_bI_0 (fun z => ?_) (fun z => ?_)
    · rw [if_neg (by rw [z]; decide), Nat.add_zero] at k
      exact nm_r (nI_1 j) k
    · rw [if_pos (by simpa using z)] at k
      exact nm_r (nI_1 _) (nm_r (nI_1 j) k)
theorem sr_y_tla {post : Int32 → SY → Prop} {r : Nat} {ρ : sr_R} {T : Nat → Bool} {fa : Int32} (hr : r < 14) (h1 : sr_r2 r ρ Bhd Bsz Bat Bnt) (hb : sr_by Bnw T) (hf : fa < 0) (K : ∀ t, post (nI (sr_cn (fun w => sr_met ρ T w) (sr_nb ρ))) (Bdl, Bct, Btd, Bnw, Bkp, Bdr, Bdn, Bhd, Bsz, Bat, Bnt, t)) : ∀ d j t, j + d = sr_nb ρ → wY_tally_24 post (nI r) fa (nI (sr_mk ρ)) (nI (sr_nb ρ)) (d + 1) (nI (sr_cn (fun w => sr_met ρ T w) j)) (nI j) Bdl Bct Btd Bnw Bkp Bdr Bdn Bhd Bsz Bat Bnt t := by
  have hnb := sr_nb_le ρ
  intro d
  induction d with
  | zero =>
    intro j t hj
    have e : j = sr_nb ρ := by omega
    subst e
    exact br_t (nI_le (Nat.le_refl _) (by omega)) (K t)
  | succ d ih =>
    intro j t hj
    refine br_f (nI_ge (by omega) (by omega)) (sr_y_bnd (sr_mk_lt _) (by omega) (fun t' ht' => ?_))
    refine sr_y_bh hr h1 hb ht' ?_
    have k := ih (j + 1) t' (by omega)
    simp only [sr_cn] at k
    refine sr_if sr_bI_0 (fun z => ?_) (fun z => br_t hf ?_)
    · rw [if_neg (by rw [z]; decide), Nat.add_zero] at k
      exact nm_r (nI_1 j) k
    · rw [if_pos (by simpa using z)] at k
      exact nm_r (nI_1 _) (nm_r (nI_1 j) k)
theorem sr_y_tlb {post : Int32 → SY → Prop} {r f : Nat} {ρ : sr_R} {T : Nat → Bool} (hr : r < 14) (h1 : sr_r2 r ρ Bhd Bsz Bat Bnt) (hb : sr_by Bnw T) (hf : f < 36) (K : ∀ t, post (nI (sr_cn (fun w => sr_met ρ T w && decide (sr_ft (sr_mk ρ) w ρ.1 = f)) (sr_nb ρ))) (Bdl, Bct, Btd, Bnw, Bkp, Bdr, Bdn, Bhd, Bsz, Bat, Bnt, t)) : ∀ d j t, j + d = sr_nb ρ → wY_tally_24 post (nI r) (nI f) (nI (sr_mk ρ)) (nI (sr_nb ρ)) (d + 1) (nI (sr_cn (fun w => sr_met ρ T w && decide (sr_ft (sr_mk ρ) w ρ.1 = f)) j)) (nI j) Bdl Bct Btd Bnw Bkp Bdr Bdn Bhd Bsz Bat Bnt t := by
  have hnb := sr_nb_le ρ
  intro d
  induction d with
  | zero =>
    intro j t hj
    have e : j = sr_nb ρ := by omega
    subst e
    exact br_t (nI_le (Nat.le_refl _) (by omega)) (K t)
  | succ d ih =>
    intro j t hj
    refine br_f (nI_ge (by omega) (by omega)) (sr_y_bnd (sr_mk_lt _) (by omega) (fun t' ht' => ?_))
    refine sr_y_bh hr h1 hb ht' ?_
    have k := ih (j + 1) t' (by omega)
    simp only [sr_cn] at k
    refine sr_if sr_bI_0 (fun z => ?_) (fun z => br_f (nI_pos (by omega)) ⟨vp_in_nI hr (by decide), ?_⟩)
    · rw [if_neg (by rw [z]; simp), Nat.add_zero] at k
      exact nm_r (nI_1 j) k
    · have h800 := h1.1.1
      have eh : Bhd (nI r).toNatClampNeg = nI ρ.1 := by rw [nI_clamp (by omega)]; exact h1.2.1
      have hpl := sr_pl_lt (m := sr_mk ρ) (w := j) h800
      have hft := sr_ft_lt (sr_mk ρ) j ρ.1
      have em : sr_pl (sr_mk ρ) j ρ.1 % 36 = sr_ft (sr_mk ρ) j ρ.1 := by unfold sr_pl; omega
      have z' : sr_met ρ T j = true := by simpa using z
      rw [eh]
      refine sr_y_plc h800 ht' ⟨by decide, ?_⟩
      rw [sr_r36 (by omega), em]
      refine sr_if (nI_eq (by omega) (by omega)) (fun y => ?_) (fun y => ?_)
      · rw [if_pos (by rw [z', y]; simp)] at k
        exact nm_r (nI_1 _) (nm_r (nI_1 j) k)
      · rw [if_neg (by rw [z']; simpa using y), Nat.add_zero] at k
        exact nm_r (nI_1 j) k
theorem i_vc_ways {k : Nat} {u : SX} {v : SY} (I : i_Rel k u v) (hk : k + 5 ≤ 2560) (v1 : Int32) : wpX_ways (fun r u' => wpY_ways (fun r' v' => r' = r ∧ i_Rel (k + 5) u' v') v v1) u v1 := by
  have J := i_up I
  obtain ⟨c, d, G, H, R, A, N, I⟩ := I
  obtain ⟨Fdl, Frc, Agf, Ahf, Afw, Ada, Adn, Aba, Abn, Abl, Ahd, Avr, Att⟩ := u
  obtain ⟨Bdl, Bct, Btd, Bnw, Bkp, Bdr, Bdn, Bhd, Bsz, Bat, Bnt, Bbd⟩ := v
  obtain ⟨rfl, rfl, rfl, rfl, hc, hd, hG, hG', hH, hD, hR, hR', ht, hA, hA'⟩ := I
  unfold wpX_ways wpY_ways
  dsimp only
  by_cases g1 : sr_gd c v1
  · obtain ⟨r, hr, rfl⟩ := g1
    have h1 := hR r hr
    have h2 := hR' r hr
    refine sr_x_iug hc hr (br_f (by decide) (sr_x_asn (by omega) (sr_mk_lt _) h1.2.2.2.1 ⟨sr_nb (R r) + 1, sr_x_wyl (by omega) h1 hH (fun t ht' => ?_) (sr_nb (R r)) 0 Att (by omega) ht⟩))
    refine sr_y_bug hc hr (br_t rfl ?_)
    unfold wpY_tally
    refine sr_y_wk hc rfl sr_lom hR' hG' (fun t F T hb hd' => ?_)
    have e := sr_dn_u hd' hD
    subst e
    refine sr_y_occ (by omega) h2 (sr_y_num (sr_mk_lt _) ⟨sr_nb (R r) + 1, sr_y_tla (by omega) h2 hb (by decide) (fun t' => ⟨rfl, ?_⟩) (sr_nb (R r)) 0 t (by omega)⟩)
    exact ⟨c, d, G, T, R, A, N, rfl, rfl, rfl, rfl, hc, hd, hG, hG', hH, hD, hR, hR', ht', hA, hA'⟩
  · exact sr_x_iub hc g1 (br_t rfl (sr_y_bub hc g1 (br_f (by decide) ⟨rfl, J⟩)))
theorem i_vc_supports {k : Nat} {u : SX} {v : SY} (I : i_Rel k u v) (hk : k + 5 ≤ 2560) (v1 : Int32) (v2 : Int32) : wpX_supports (fun r u' => wpY_supports (fun r' v' => r' = r ∧ i_Rel (k + 5) u' v') v v1 v2) u v1 v2 := by
  have J := i_up I
  obtain ⟨c, d, G, H, R, A, N, I⟩ := I
  obtain ⟨Fdl, Frc, Agf, Ahf, Afw, Ada, Adn, Aba, Abn, Abl, Ahd, Avr, Att⟩ := u
  obtain ⟨Bdl, Bct, Btd, Bnw, Bkp, Bdr, Bdn, Bhd, Bsz, Bat, Bnt, Bbd⟩ := v
  obtain ⟨rfl, rfl, rfl, rfl, hc, hd, hG, hG', hH, hD, hR, hR', ht, hA, hA'⟩ := I
  unfold wpX_supports wpY_supports
  dsimp only
  by_cases g1 : sr_gd c v1
  · obtain ⟨r, hr, rfl⟩ := g1
    have h1 := hR r hr
    have h2 := hR' r hr
    by_cases g2 : sr_gd 36 v2
    · obtain ⟨f, hf, rfl⟩ := g2
      have p0 : ¬ nI f < 0 := nI_pos (by omega)
      have p1 : nI f < 36 := nI_lt (b := 36) hf (by decide)
      have p2 : nI f ≤ 35 := nI_le (b := 35) (by omega) (by decide)
      have hnb := sr_nb_le (R r)
      refine sr_x_iug hc hr (br_f (by decide) (br_f p0 (br_t p1 (sr_x_hdH (by omega) h1 hH ht (fun t h ht' hh => ?_)))))
      refine sr_x_mem (by omega) ?_
      refine sr_y_bug hc hr (br_t rfl (br_f p0 (br_t p2 ?_)))
      unfold wpY_tally
      refine sr_y_wk hc rfl sr_lom hR' hG' (fun t' F T hb hd' => ?_)
      have e := sr_dn_u hd' hD
      subst e
      refine sr_y_occ (by omega) h2 (sr_y_num (sr_mk_lt _) ⟨sr_nb (R r) + 1, sr_y_tlb (by omega) h2 hb hf (fun t'' => ?_) (sr_nb (R r)) 0 t' (by omega)⟩)
      have hcn := sr_cn_le (fun w => sr_met (R r) T w && decide (sr_ft (sr_mk (R r)) w (R r).1 = f)) (sr_nb (R r))
      have hps := sr_cn_pos (f := fun w => sr_met (R r) T w && decide (sr_ft (sr_mk (R r)) w (R r).1 = f)) (n := sr_nb (R r))
      have hq := hh f (by omega)
      dsimp only
      refine pk_le _ 0 (fun z => ⟨?_, ?_⟩) (fun z => ⟨?_, ?_⟩) (ha := by omega)
      · cases e : sr_lb h f with
        | false => rfl
        | true =>
          obtain ⟨w, hw, m, y⟩ := hq.mp e
          have := hps.mpr ⟨w, hw, by simp [m, y]⟩
          omega
      · exact ⟨c, d, G, T, R, A, N, rfl, rfl, rfl, rfl, hc, hd, hG, hG', hH, hD, hR, hR', ht', hA, hA'⟩
      · obtain ⟨w, hw, y⟩ := hps.mp z
        rw [Bool.and_eq_true, decide_eq_true_iff] at y
        rw [hq.mpr ⟨w, hw, y⟩]
        rfl
      · exact ⟨c, d, G, T, R, A, N, rfl, rfl, rfl, rfl, hc, hd, hG, hG', hH, hD, hR, hR', ht', hA, hA'⟩
    · refine sr_x_iug hc hr (br_f (by decide) (br_c (fun z => ?_) (fun z => br_f (sr_gd_n (n := 36) (by decide) g2 z) ?_)))
      · exact sr_y_bug hc hr (br_t rfl (br_t z ⟨rfl, J⟩))
      · exact sr_y_bug hc hr (br_t rfl (br_f z (br_f (sr_le_of (sr_gd_n (n := 36) (by decide) g2 z) (by decide)) ⟨rfl, J⟩)))
  · exact sr_x_iub hc g1 (br_t rfl (sr_y_bub hc g1 (br_f (by decide) ⟨rfl, J⟩)))
theorem sr_x_wgl {post : Int32 → SX → Prop} {H T : Nat → Bool} (hH : sr_bx Ahf H) (hT : sr_bx Afw T) (h : post (nI (sr_cn (fun p => H p ^^ T p) (36 * 8))) (Fdl, Frc, Agf, Ahf, Afw, Ada, Adn, Aba, Abn, Abl, Ahd, Avr, Att)) : ∀ d v, v + d = 8 → wX_weight_23 post Fdl Frc Agf Ahf Afw Ada Adn Aba Abn Abl Ahd Avr Att (d + 1) (nI (sr_cn (fun p => H p ^^ T p) (36 * v))) (nI v) := by
  intro d
  induction d with
  | zero =>
    intro v hv
    have e : v = 8 := by omega
    subst e
    exact br_t (by decide) h
  | succ d ih =>
    intro v hv
    have k := ih (v + 1) (by omega)
    refine br_f (nI_ge (b := 8) (by omega) (by decide)) ⟨vp_in_nI (by omega) (by decide), vp_in_nI (by omega) (by decide), ?_⟩
    rw [nI_clamp (by omega)]
    refine sr_x_cnt (nm_r (e' := nI (sr_cn (fun p => H p ^^ T p) (36 * (v + 1)))) ?_ (nm_r (nI_1 v) k))
    rw [nI_add, show 36 * (v + 1) = 36 * v + 36 by omega, sr_cn_add]
    refine congrArg (fun z => nI (_ + z)) (sr_cn_eq fun f hf => ?_)
    rw [sr_lb_xor, sr_bx_l hH (by omega) hf, sr_bx_l hT (by omega) hf]
theorem sr_y_wgl {post : Int32 → SY → Prop} {H T : Nat → Bool} (hK : sr_by Bkp H) (hb : sr_by Bnw T) (h : post (nI (sr_cn (fun p => H p ^^ T p) 288)) (Bdl, Bct, Btd, Bnw, Bkp, Bdr, Bdn, Bhd, Bsz, Bat, Bnt, Bbd)) : ∀ d v, v + d = 288 → wY_weight_51 post Bdl Bct Btd Bnw Bkp Bdr Bdn Bhd Bsz Bat Bnt Bbd (d + 1) (nI (sr_cn (fun p => H p ^^ T p) v)) (nI v) := by
  intro d
  induction d with
  | zero =>
    intro v hv
    have e : v = 288 := by omega
    subst e
    exact br_t (by decide) h
  | succ d ih =>
    intro v hv
    have k := ih (v + 1) (by omega)
    simp only [sr_cn] at k
    refine br_f (nI_ge (b := 288) (by omega) (by decide)) ⟨vp_in_nI (by omega) (by decide), vp_in_nI (by omega) (by decide), ?_⟩
    rw [nI_clamp (by omega), hb _ (by omega), hK _ (by omega)]
    refine sr_if sr_bI_i (fun z => ?_) (fun z => ?_)
    · rw [if_neg (by rw [z]; simp), Nat.add_zero] at k
      exact nm_r (nI_1 v) k
    · rw [if_pos (by cases e1 : H v <;> cases e2 : T v <;> simp_all)] at k
      exact nm_r (nI_1 _) (nm_r (nI_1 v) k)
theorem sr_y_kpl {post : Int32 → SY → Prop} {c r : Nat} {R : Nat → sr_R} {G H : Nat → Bool} (hc : c ≤ 14) (hct : Bct = nI c) (hr : r < c) (hR : ∀ r, r < c → sr_r2 r (R r) Bhd Bsz Bat Bnt) (hG : sr_by Btd G) (hb : sr_by Bnw H) (K : ∀ t E F T, sr_dn R c r G 4 T → post (nI (sr_cn (fun p => H p ^^ T p) 288)) (Bdl, Bct, Btd, F, E, Bdr, Bdn, Bhd, Bsz, Bat, Bnt, t)) : ∀ d i E, i + d = 288 → (∀ p, p < i → E p = sr_bI (H p)) → wY_weight_17 post (nI r) Bdl Bct (d + 1) (nI i) Btd Bnw E Bdr Bdn Bhd Bsz Bat Bnt Bbd := by
  intro d
  induction d with
  | zero =>
    intro i E hi hE
    have e : i = 288 := by omega
    subst e
    refine br_t (by decide) (sr_y_wk hc hct (sr_lor (by omega)) hR hG (fun t F T hb' hd' => ?_))
    exact ⟨289, sr_y_wgl hE hb' (K t E F T hd') 288 0 rfl⟩
  | succ d ih =>
    intro i E hi hE
    refine br_f (nI_ge (b := 288) (by omega) (by decide)) ⟨vp_in_nI (by omega) (by decide), vp_in_nI (by omega) (by decide), nm_r (e' := upd E i (sr_bI (H i))) ?_ (nm_r (nI_1 i) (ih (i + 1) _ (by omega) ?_))⟩
    · rw [nI_clamp (by omega), hb i (by omega), sr_nar]
    · intro p hp
      by_cases z : p = i
      · subst z; rw [pk_us]
      · rw [pk_un z]; exact hE p (by omega)
theorem i_vc_weight {k : Nat} {u : SX} {v : SY} (I : i_Rel k u v) (hk : k + 5 ≤ 2560) (v1 : Int32) : wpX_weight (fun r u' => wpY_weight (fun r' v' => r' = r ∧ i_Rel (k + 5) u' v') v v1) u v1 := by
  have J := i_up I
  obtain ⟨c, d, G, H, R, A, N, I⟩ := I
  obtain ⟨Fdl, Frc, Agf, Ahf, Afw, Ada, Adn, Aba, Abn, Abl, Ahd, Avr, Att⟩ := u
  obtain ⟨Bdl, Bct, Btd, Bnw, Bkp, Bdr, Bdn, Bhd, Bsz, Bat, Bnt, Bbd⟩ := v
  obtain ⟨rfl, rfl, rfl, rfl, hc, hd, hG, hG', hH, hD, hR, hR', ht, hA, hA'⟩ := I
  unfold wpX_weight wpY_weight
  dsimp only
  by_cases g1 : sr_gd c v1
  · obtain ⟨r, hr, rfl⟩ := g1
    refine sr_x_iug hc hr (br_f (by decide) (sr_x_dW hc rfl (sr_lor (by omega)) hR ht hG (fun t F T ht' hb' hd' => ?_)))
    refine ⟨9, sr_x_wgl hH hb' ?_ 8 0 rfl⟩
    refine sr_y_bug hc hr (br_t rfl (sr_y_wk hc rfl sr_lom hR' hG' (fun t2 F2 T2 hb2 hd2 => ?_)))
    have e := sr_dn_u hd2 hD
    subst e
    refine ⟨289, sr_y_kpl hc rfl hr hR' hG' hb2 (fun t3 E F3 T3 hd3 => ?_) 288 0 Bkp rfl lt_0⟩
    have e := sr_dn_u hd3 hd'
    subst e
    exact ⟨rfl, c, d, G, T2, R, A, N, rfl, rfl, rfl, rfl, hc, hd, hG, hG', hH, hD, hR, hR', ht', hA, hA'⟩
  · exact sr_x_iub hc g1 (br_t rfl (sr_y_bub hc g1 (br_f (by decide) ⟨rfl, J⟩)))
end
end
section
section
variable {Fdl Frc : Int32} {Agf Ahf Afw : Nat → Int64} {Ada Adn Aba Abn Abl Ahd Avr Att : Nat → Int32}
variable {Bdl Bct : Int32} {Btd Bnw Bkp Bdr Bdn Bhd Bsz Bat Bnt Bbd : Nat → Int32}
theorem sr_x_v26 {post : Int32 → Prop} {z : Int32} {t q : Nat} (ht : t < 10) (hz : z = nI q) (h : post (nI (q ||| sr_v1 t))) : wX_variablesOf_26 post (nI t) z := by
  subst hz
  refine pk_le 4 t (fun k => ?_) (fun k => nm_r (e' := nI (q ||| sr_v1 t)) ?_ h)
  · rw [sr_v1_ge k, Nat.or_zero] at h
    exact h
  · rw [sr_v1_s k, sr_or]
theorem sr_x_var {post : Int32 → Prop} {a : Nat} (ha : a < 800) (h : post (nI (sr_vs a))) : wpX_variablesOf post (nI a) := by
  refine ⟨by decide, by decide, nm_r (sr_t1 ha) ⟨by decide, nm_r (sr_t2 ha) (pk_le 4 (a / 10 % 10) (fun k => ?_) (fun k => nm_r (e' := nI (sr_v1 (a / 10 % 10))) ?_ ?_))⟩⟩
  · refine sr_x_v26 (q := 0) (by omega) rfl ?_
    unfold sr_vs at h
    rw [sr_v1_ge k] at h
    exact h
  · rw [sr_v1_s k, Int32.zero_or]
  · exact sr_x_v26 (by omega) rfl h
theorem sr_x_dvl {post : Int32 → Prop} {dd : Nat} {A : Nat → Nat} {N : Nat → Bool} {b : Bool} (h3 : dd ≤ 3) (hd : Fdl = nI dd) (hA : sr_D dd A N Ada Adn) (h : post (nI (sr_po A N b 0 dd))) : ∀ d i, i + d = dd → wX_draftVariables_4 post (sr_bI b) Fdl Frc Agf Ahf Afw Ada Adn Aba Abn Abl Ahd Avr Att (d + 1) (nI (sr_po A N b 0 i)) (nI i) := by
  subst hd
  intro d
  induction d with
  | zero =>
    intro i hi
    have e : i = dd := by omega
    subst e
    exact br_t (nI_le (Nat.le_refl _) (by omega)) h
  | succ d ih =>
    intro i hi
    obtain ⟨h800, ea, en⟩ := hA i (by omega)
    have k := ih (i + 1) (by omega)
    simp only [sr_po] at k
    have e : (nI i).toNatClampNeg = i := nI_clamp (by omega)
    refine br_f (nI_ge (by omega) (by omega)) ⟨vp_in_nI (by omega) (by decide), ?_⟩
    rw [e, en, ea]
    refine sr_if sr_bI_i (fun z => ⟨vp_in_nI (by omega) (by decide), sr_x_var h800 ?_⟩) (fun z => ?_)
    · rw [if_pos z] at k
      exact nm_r (sr_or _ _) (nm_r (nI_1 i) k)
    · rw [if_neg z] at k
      exact nm_r (nI_1 i) k
theorem sr_x_dv {post : Int32 → Prop} {dd : Nat} {A : Nat → Nat} {N : Nat → Bool} {x : Int32} (b : Bool) (hx : x = sr_bI b) (h3 : dd ≤ 3) (hd : Fdl = nI dd) (hA : sr_D dd A N Ada Adn) (h : post (nI (sr_po A N b 0 dd))) : wpX_draftVariables post (Fdl, Frc, Agf, Ahf, Afw, Ada, Adn, Aba, Abn, Abl, Ahd, Avr, Att) x := by
  subst hx
  exact ⟨dd + 1, sr_x_dvl h3 hd hA h dd 0 (by omega)⟩
theorem sr_x_dfl {post : Int32 → Prop} {dd hd : Nat} {A : Nat → Nat} {N : Nat → Bool} (h3 : dd ≤ 3) (hh : hd < 800) (hdd : Fdl = nI dd) (hA : sr_D dd A N Ada Adn) (k1 : sr_fit hd A N dd → post 1) (k0 : ¬ sr_fit hd A N dd → post 0) : ∀ d i, i + d = dd → sr_fit hd A N i → wX_draftLayersFit_7 post (nI (hd / 200)) Fdl Frc Agf Ahf Afw Ada Adn Aba Abn Abl Ahd Avr Att (d + 1) (nI i) := by
  subst hdd
  intro d
  induction d with
  | zero =>
    intro i hi hf
    have e : i = dd := by omega
    subst e
    exact br_t (nI_le (Nat.le_refl _) (by omega)) (k1 hf)
  | succ d ih =>
    intro i hi hf
    obtain ⟨h800, ea, en⟩ := hA i (by omega)
    have e : (nI i).toNatClampNeg = i := nI_clamp (by omega)
    refine br_f (nI_ge (by omega) (by omega)) ⟨vp_in_nI (by omega) (by decide), ?_⟩
    rw [e, ea, en]
    refine sr_x_lay h800 (pk_lt (hd / 200) (A i / 200) (fun z => k0 (fun q => ?_)) (fun z => ⟨vp_in_nI (by omega) (by decide), sr_if sr_bI_0 (fun y => nm_r (nI_1 i) (ih (i + 1) (by omega) (lt_s hf ⟨by omega, fun x => by rw [y] at x; exact nomatch x⟩))) (fun y => sr_if (nI_eq (by omega) (by omega)) (fun x => k0 (fun q => ?_)) (fun x => nm_r (nI_1 i) (ih (i + 1) (by omega) (lt_s hf ⟨by omega, fun _ => by omega⟩))))⟩))
    · have := (q i (by omega)).1
      omega
    · have := (q i (by omega)).2 (by simpa using y)
      omega
theorem sr_x_df {post : Int32 → Prop} {dd hd : Nat} {A : Nat → Nat} {N : Nat → Bool} (h3 : dd ≤ 3) (hh : hd < 800) (hdd : Fdl = nI dd) (hA : sr_D dd A N Ada Adn) (k1 : sr_fit hd A N dd → post 1) (k0 : ¬ sr_fit hd A N dd → post 0) : wpX_draftLayersFit post (Fdl, Frc, Agf, Ahf, Afw, Ada, Adn, Aba, Abn, Abl, Ahd, Avr, Att) (nI hd) := by
  unfold wpX_draftLayersFit
  exact sr_x_lay hh ⟨dd + 1, sr_x_dfl h3 hh hdd hA k1 k0 dd 0 (by omega) lt_0⟩
theorem sr_x_mvl {post : SX → Prop} {dd r : Nat} {A : Nat → Nat} {N : Nat → Bool} {ba0 bn0 : Nat → Int32} (hr : r < 14) (h3 : dd ≤ 3) (hdd : Fdl = nI dd) (hA : sr_D dd A N Ada Adn) (K : ∀ ba bn, (∀ i, i < dd → ba (3 * r + i) = nI (A i) ∧ bn (3 * r + i) = sr_bI (N i)) → (∀ p, p < 3 * r → ba p = ba0 p ∧ bn p = bn0 p) → post (0, Frc, Agf, Ahf, Afw, Ada, Adn, ba, bn, (upd Abl r (nI dd)), Ahd, Avr, Att)) : ∀ d i ba bn, i + d = dd → (∀ j, j < i → ba (3 * r + j) = nI (A j) ∧ bn (3 * r + j) = sr_bI (N j)) → (∀ p, p < 3 * r → ba p = ba0 p ∧ bn p = bn0 p) → wX_moveDraftTo_2 post (nI r) Fdl Frc (d + 1) (nI i) Agf Ahf Afw Ada Adn ba bn Abl Ahd Avr Att := by
  subst hdd
  intro d
  induction d with
  | zero =>
    intro i ba bn hi hw ho
    have e : i = dd := by omega
    subst e
    exact br_t (nI_le (Nat.le_refl _) (by omega)) ⟨vp_in_nI hr (by decide), nm_r (e' := upd Abl r (nI i)) (by rw [nI_clamp (by omega)]) (K ba bn hw ho)⟩
  | succ d ih =>
    intro i ba bn hi hw ho
    obtain ⟨h800, ea, en⟩ := hA i (by omega)
    have e : (nI i).toNatClampNeg = i := nI_clamp (by omega)
    have ep : 3 * nI r + nI i = nI (3 * r + i) := by rw [sr_m3, nI_add]
    have e2 : (nI (3 * r + i)).toNatClampNeg = 3 * r + i := nI_clamp (by omega)
    have q1 : vp_in (nI i) 3 := vp_in_nI (by omega) (by decide)
    have q2 : vp_in (nI (3 * r + i)) 42 := vp_in_nI (by omega) (by decide)
    refine br_f (nI_ge (by omega) (by omega)) ?_
    rw [ep, e, e2, ea, en, sr_nar]
    refine ⟨q1, q2, nm_e ⟨q1, q2, nm_e (nm_r (nI_1 i) (ih (i + 1) _ _ (by omega) (fun j hj => ?_) (fun p hp => ?_)))⟩⟩
    · by_cases z : j = i
      · subst z; rw [pk_us, pk_us]; exact ⟨rfl, rfl⟩
      · rw [pk_un (by omega), pk_un (by omega)]; exact hw j (by omega)
    · rw [pk_un (by omega), pk_un (by omega)]; exact ho p hp
theorem sr_x_mv {post : SX → Prop} {dd r : Nat} {A : Nat → Nat} {N : Nat → Bool} (hr : r < 14) (h3 : dd ≤ 3) (hdd : Fdl = nI dd) (hA : sr_D dd A N Ada Adn) (K : ∀ ba bn, (∀ i, i < dd → ba (3 * r + i) = nI (A i) ∧ bn (3 * r + i) = sr_bI (N i)) → (∀ p, p < 3 * r → ba p = Aba p ∧ bn p = Abn p) → post (0, Frc, Agf, Ahf, Afw, Ada, Adn, ba, bn, (upd Abl r (nI dd)), Ahd, Avr, Att)) : wpX_moveDraftTo post (Fdl, Frc, Agf, Ahf, Afw, Ada, Adn, Aba, Abn, Abl, Ahd, Avr, Att) (nI r) :=
  ⟨dd + 1, sr_x_mvl hr h3 hdd hA K dd 0 Aba Abn (by omega) lt_0 (fun _ _ => ⟨rfl, rfl⟩)⟩
theorem sr_y_r189 {post : Int32 → SY → Prop} {r dd : Nat} {A : Nat → Nat} {N : Nat → Bool} {at0 nt0 : Nat → Int32} (hr : r < 14) (h3 : dd ≤ 3) (hA : sr_D dd A N Bdr Bdn) (K : ∀ at' nt, (∀ i, i < dd → at' (3 * r + i) = nI (A i) ∧ nt (3 * r + i) = sr_bI (N i)) → (∀ p, p < 3 * r → at' p = at0 p ∧ nt p = nt0 p) → post (nI r) (0, (nI (r + 1)), Btd, Bnw, Bkp, Bdr, Bdn, Bhd, Bsz, at', nt, Bbd)) : ∀ d i at' nt, i + d = 3 → (∀ j, j < i → j < dd → at' (3 * r + j) = nI (A j) ∧ nt (3 * r + j) = sr_bI (N j)) → (∀ p, p < 3 * r → at' p = at0 p ∧ nt p = nt0 p) → wY_rule_189 post (nI r) Bdl Bct (d + 1) (nI i) Btd Bnw Bkp Bdr Bdn Bhd Bsz at' nt Bbd := by
  intro d
  induction d with
  | zero =>
    intro i at' nt hi hw ho
    have e : i = 3 := by omega
    subst e
    exact br_t (by decide) (nm_r (nI_1 r) (K at' nt (fun j hj => hw j (by omega) hj) ho))
  | succ d ih =>
    intro i at' nt hi hw ho
    have e : (nI i).toNatClampNeg = i := nI_clamp (by omega)
    have ep : 3 * nI r + nI i = nI (3 * r + i) := by rw [sr_m3, nI_add]
    have e2 : (nI (3 * r + i)).toNatClampNeg = 3 * r + i := nI_clamp (by omega)
    have q1 : vp_in (nI i) 3 := vp_in_nI (by omega) (by decide)
    have q2 : vp_in (nI (3 * r + i)) 42 := vp_in_nI (by omega) (by decide)
    refine br_f (nI_ge (b := 3) (by omega) (by decide)) ?_
    rw [ep, e, e2]
    refine ⟨q1, q2, nm_e ⟨q1, q2, nm_e (nm_r (nI_1 i) (ih (i + 1) _ _ (by omega) (fun j hj hjd => ?_) (fun p hp => ?_)))⟩⟩
    · by_cases z : j = i
      · subst z
        obtain ⟨h800, ea, en⟩ := hA j hjd
        rw [pk_us, pk_us, ea, en, sr_nar]
        exact ⟨rfl, rfl⟩
      · rw [pk_un (by omega), pk_un (by omega)]; exact hw j (by omega) hjd
    · rw [pk_un (by omega), pk_un (by omega)]; exact ho p hp
theorem sr_y_r108 {post : Int32 → SY → Prop} {Jj : Int32 → Int32 → Int32 → Prop} {x1 x2 : Int32} {a i p q : Nat} {b : Bool} (hi : i < 3) (h800 : a < 800) (ea : Bdr i = nI a) (en : Bdn i = sr_bI b) (k0 : b = false → Jj (nI (p ||| sr_vs a)) (nI q) (nI (i + 1))) (k1 : ¬ b = false → Jj (nI p) (nI (q ||| sr_vs a)) (nI (i + 1))) : wY_rule_108 post Jj x1 x2 (nI p) (nI q) (nI i) Bdl Bct Btd Bnw Bkp Bdr Bdn Bhd Bsz Bat Bnt Bbd := by
  have e : (nI i).toNatClampNeg = i := nI_clamp (by omega)
  have q1 : vp_in (nI i) 3 := vp_in_nI (by omega) (by decide)
  refine ⟨q1, ?_⟩
  rw [e, ea, en]
  exact sr_if sr_bI_0 (fun z => ⟨q1, sr_y_var h800 (nm_r (sr_or _ _) (nm_r (nI_1 i) (k0 z)))⟩) (fun z => ⟨q1, sr_y_var h800 (nm_r (sr_or _ _) (nm_r (nI_1 i) (k1 z)))⟩)
theorem sr_y_r39 {post : Int32 → SY → Prop} {x2 : Int32} {dd hd : Nat} {A : Nat → Nat} {N : Nat → Bool} (h3 : dd ≤ 3) (hh : hd < 800) (hdd : Bdl = nI dd) (hA : sr_D dd A N Bdr Bdn) (k1 : sr_fit hd A N dd → wY_rule_157 post (nI hd) x2 (nI (sr_po A N false 0 dd)) (nI (sr_po A N true (sr_vs hd) dd)) Bdl Bct Btd Bnw Bkp Bdr Bdn Bhd Bsz Bat Bnt Bbd) (k0 : ¬ sr_fit hd A N dd → post (-3) (Bdl, Bct, Btd, Bnw, Bkp, Bdr, Bdn, Bhd, Bsz, Bat, Bnt, Bbd)) : ∀ d i, i + d = dd → sr_fit hd A N i → wY_rule_39 post (nI hd) x2 Bdl Bct Btd Bnw Bkp Bdr Bdn Bhd Bsz Bat Bnt Bbd (d + 1) (nI (sr_po A N false 0 i)) (nI (sr_po A N true (sr_vs hd) i)) (nI i) := by
  subst hdd
  intro d
  induction d with
  | zero =>
    intro i hi hf
    have e : i = dd := by omega
    subst e
    exact br_t (nI_le (Nat.le_refl _) (by omega)) (k1 hf)
  | succ d ih =>
    intro i hi hf
    obtain ⟨h800, ea, en⟩ := hA i (by omega)
    have e : (nI i).toNatClampNeg = i := nI_clamp (by omega)
    have q1 : vp_in (nI i) 3 := vp_in_nI (by omega) (by decide)
    have nx : sr_fit hd A N (i + 1) → wY_rule_108 post (wY_rule_39 post (nI hd) x2 (nI dd) Bct Btd Bnw Bkp Bdr Bdn Bhd Bsz Bat Bnt Bbd (d + 1)) (nI hd) x2 (nI (sr_po A N false 0 i)) (nI (sr_po A N true (sr_vs hd) i)) (nI i) (nI dd) Bct Btd Bnw Bkp Bdr Bdn Bhd Bsz Bat Bnt Bbd := fun hf' => by
      have k := ih (i + 1) (by omega) hf'
      simp only [sr_po] at k
      refine sr_y_r108 (by omega) h800 ea en (fun z => ?_) (fun z => ?_)
      · rw [if_pos z, if_neg (by rw [z]; decide)] at k
        exact k
      · rw [if_neg z, if_pos (by simpa using z)] at k
        exact k
    refine br_f (nI_ge (by omega) (by omega)) (br_f (nI_ge (b := 3) (by omega) (by decide)) ⟨q1, ?_⟩)
    rw [e, ea, en]
    refine sr_y_lay h800 (sr_y_lay hh (pk_le (A i / 200) (hd / 200) (fun z => ⟨q1, sr_if sr_bI_0 (fun y => nx (lt_s hf ⟨z, fun x => by rw [y] at x; exact nomatch x⟩)) (fun y => ⟨q1, sr_y_lay h800 (sr_y_lay hh (sr_if (nI_eq (by omega) (by omega)) (fun x => k0 (fun q => ?_)) (fun x => nx (lt_s hf ⟨z, fun _ => by omega⟩))))⟩)⟩) (fun z => k0 (fun q => ?_))))
    · have := (q i (by omega)).2 (by simpa using y)
      omega
    · have := (q i (by omega)).1
      omega
theorem sr_mk_new {hd dd : Nat} {A : Nat → Nat} {N : Nat → Bool} (h : sr_po A N true (sr_vs hd) dd ||| sr_po A N false 0 dd = sr_po A N false 0 dd) : sr_mk (hd, dd, A, N) = sr_po A N false 0 dd := by
  show sr_mo (fun i => sr_vs (A i)) (sr_vs hd) dd = _
  rw [sr_po_m A N (sr_vs hd) dd, h]
def sr_ad (R : Nat → sr_R) (c : Nat) (ρ : sr_R) : Nat → sr_R := fun r => if r = c then ρ else R r
theorem sr_wf_new {hd dd : Nat} {A : Nat → Nat} {N : Nat → Bool} {da dn : Nat → Int32} (hh : hd < 800) (h3 : dd ≤ 3) (hA : sr_D dd A N da dn) (hf : sr_fit hd A N dd) : sr_wf (hd, dd, A, N) := ⟨hh, h3, fun i hi => ⟨(hA i hi).1, hf i hi⟩⟩
theorem sr_ad1 {R : Nat → sr_R} {c : Nat} {ρ : sr_R} {hd bl ba bn vr ba' bn' : Nat → Int32} (hR : ∀ r, r < c → sr_r1 r (R r) hd bl ba bn vr) (wf : sr_wf ρ) (hw : ∀ i, i < ρ.2.1 → ba' (3 * c + i) = nI (ρ.2.2.1 i) ∧ bn' (3 * c + i) = sr_bI (ρ.2.2.2 i)) (ho : ∀ p, p < 3 * c → ba' p = ba p ∧ bn' p = bn p) : ∀ r, r < c + 1 → sr_r1 r (sr_ad R c ρ r) (upd hd c (nI ρ.1)) (upd bl c (nI ρ.2.1)) ba' bn' (upd vr c (nI (sr_mk ρ))) := by
  intro r hr
  unfold sr_ad
  by_cases z : r = c
  · subst z
    rw [if_pos rfl]
    exact ⟨wf, pk_us, pk_us, pk_us, hw⟩
  · rw [if_neg z]
    obtain ⟨a, b, c', d', e⟩ := hR r (by omega)
    refine ⟨a, by rw [pk_un z]; exact b, by rw [pk_un z]; exact c', by rw [pk_un z]; exact d', fun i hi => ?_⟩
    have h3 := a.2.1
    have o := ho (3 * r + i) (by omega)
    rw [o.1, o.2]
    exact e i hi
theorem sr_ad2 {R : Nat → sr_R} {c : Nat} {ρ : sr_R} {hd bl ba bn ba' bn' : Nat → Int32} (hR : ∀ r, r < c → sr_r2 r (R r) hd bl ba bn) (wf : sr_wf ρ) (hw : ∀ i, i < ρ.2.1 → ba' (3 * c + i) = nI (ρ.2.2.1 i) ∧ bn' (3 * c + i) = sr_bI (ρ.2.2.2 i)) (ho : ∀ p, p < 3 * c → ba' p = ba p ∧ bn' p = bn p) : ∀ r, r < c + 1 → sr_r2 r (sr_ad R c ρ r) (upd hd c (nI ρ.1)) (upd bl c (nI ρ.2.1)) ba' bn' := by
  intro r hr
  unfold sr_ad
  by_cases z : r = c
  · subst z
    rw [if_pos rfl]
    exact ⟨wf, pk_us, pk_us, hw⟩
  · rw [if_neg z]
    obtain ⟨a, b, c', e⟩ := hR r (by omega)
    refine ⟨a, by rw [pk_un z]; exact b, by rw [pk_un z]; exact c', fun i hi => ?_⟩
    have h3 := a.2.1
    have o := ho (3 * r + i) (by omega)
    rw [o.1, o.2]
    exact e i hi
theorem i_vc_rule {k : Nat} {u : SX} {v : SY} (I : i_Rel k u v) (hk : k + 5 ≤ 2560) (v1 : Int32) : wpX_rule (fun r u' => wpY_rule (fun r' v' => r' = r ∧ i_Rel (k + 5) u' v') v v1) u v1 := by
  have J := i_up I
  obtain ⟨c, d, G, H, R, A, N, I⟩ := I
  obtain ⟨Fdl, Frc, Agf, Ahf, Afw, Ada, Adn, Aba, Abn, Abl, Ahd, Avr, Att⟩ := u
  obtain ⟨Bdl, Bct, Btd, Bnw, Bkp, Bdr, Bdn, Bhd, Bsz, Bat, Bnt, Bbd⟩ := v
  obtain ⟨rfl, rfl, rfl, rfl, hc, hd, hG, hG', hH, hD, hR, hR', ht, hA, hA'⟩ := I
  unfold wpX_rule wpY_rule
  dsimp only
  by_cases g1 : sr_gd 800 v1
  · obtain ⟨a, ha, rfl⟩ := g1
    have p0 : ¬ nI a < 0 := nI_pos (by omega)
    have p1 : nI a ≤ 799 := nI_le (b := 799) (by omega) (by decide)
    refine sr_x_iag ha (br_f (by decide) ?_)
    by_cases h14 : c < 14
    · have q1 : nI c < 14 := nI_lt (b := 14) h14 (by decide)
      have q2 : nI c ≤ 13 := nI_le (b := 13) (by omega) (by decide)
      have q3 : vp_in (nI c) 14 := vp_in_nI h14 (by decide)
      have e : (nI c).toNatClampNeg = c := nI_clamp (by omega)
      refine br_t q1 (sr_x_df hd ha rfl hA (fun hf => br_f (by decide) (sr_x_dv false rfl hd rfl hA (sr_x_dv true rfl hd rfl hA (sr_x_var ha (nm_r (e' := nI (sr_po A N true (sr_vs a) d)) ?_ ?_))))) (fun hf => br_t rfl ?_))
      · rw [sr_or, ← sr_po_i]
      · have hm := sr_nd _ (sr_po_lt (A := A) (N := N) (b := true) (sr_vs_lt a) d) _ (sr_po_lt (A := A) (N := N) (b := false) (i0 := 0) (by decide) d)
        refine br_c (fun z => ⟨q3, nm_e ⟨q3, nm_e (sr_x_mv h14 hd rfl hA (fun ba bn hw ho => ?_))⟩⟩) (fun z => ?_)
        · have wf := sr_wf_new ha hd hA hf
          have em := sr_mk_new (hm.mp z)
          rw [e, ← em]
          refine nm_r (nI_1 c) (sr_x_dH (R := sr_ad R c (a, d, A, N)) (by omega) rfl sr_lom (sr_ad1 hR wf hw ho) ht hG (fun t F T ht' hb' hd' => ?_))
          refine br_f p0 (br_t p1 (br_t q2 (sr_y_var ha ⟨d + 1, sr_y_r39 hd ha rfl hA' (fun _ => ?_) (fun q => absurd hf q) d 0 (by omega) lt_0⟩)))
          refine br_t z ⟨q3, nm_e ⟨q3, nm_e ⟨4, sr_y_r189 h14 hd hA' (fun at' nt hw' ho' => ⟨rfl, ?_⟩) 3 0 Bat Bnt rfl (fun j hj => absurd hj (Nat.not_lt_zero j)) (fun _ _ => ⟨rfl, rfl⟩)⟩⟩⟩
          rw [e]
          exact ⟨c + 1, 0, G, T, sr_ad R c (a, d, A, N), A, N, rfl, rfl, rfl, rfl, by omega, Nat.zero_le _, hG, hG', hb', hd', sr_ad1 hR wf hw ho, sr_ad2 hR' wf hw' ho', ht', (fun i hi => absurd hi (Nat.not_lt_zero i)), (fun i hi => absurd hi (Nat.not_lt_zero i))⟩
        · exact br_f p0 (br_t p1 (br_t q2 (sr_y_var ha ⟨d + 1, sr_y_r39 hd ha rfl hA' (fun _ => br_f z ⟨rfl, J⟩) (fun q => absurd hf q) d 0 (by omega) lt_0⟩)))
      · exact br_f p0 (br_t p1 (br_t q2 (sr_y_var ha ⟨d + 1, sr_y_r39 hd ha rfl hA' (fun q => absurd q hf) (fun _ => ⟨rfl, J⟩) d 0 (by omega) lt_0⟩)))
    · have q1 : ¬ nI c < 14 := nI_nlt (b := 14) (by omega) (by omega)
      have q2 : ¬ nI c ≤ 13 := nI_ge (a := 13) (by omega) (by omega)
      exact br_f q1 (br_f p0 (br_t p1 (br_f q2 ⟨rfl, J⟩)))
  · exact sr_x_iab g1 (br_t rfl (br_c (fun _ => ⟨rfl, J⟩) (fun z => br_f (sr_le_of (sr_gd_n (n := 800) (by decide) g1 z) (by decide)) ⟨rfl, J⟩)))
end
end
section
section
variable {Fdl Frc : Int32} {Agf Ahf Afw : Nat → Int64} {Ada Adn Aba Abn Abl Ahd Avr Att : Nat → Int32}
variable {Bdl Bct : Int32} {Btd Bnw Bkp Bdr Bdn Bhd Bsz Bat Bnt Bbd : Nat → Int32}
def sr_mvd (j n : Nat) (ba0 bn0 ba bn : Nat → Int32) : Prop := (∀ i, i < n → ba (3 * j + i) = ba0 (3 * (j + 1) + i) ∧ bn (3 * j + i) = vp_nar .boolean (bn0 (3 * (j + 1) + i))) ∧ (∀ p, (p < 3 * j ∨ 3 * j + n ≤ p) → ba p = ba0 p ∧ bn p = bn0 p)
theorem sr_mvd_0 (j : Nat) (ba bn : Nat → Int32) : sr_mvd j 0 ba bn ba bn := ⟨lt_0, fun _ _ => ⟨rfl, rfl⟩⟩
theorem sr_mvd_s {j n : Nat} {ba0 bn0 ba bn : Nat → Int32} (hn : n < 3) (h : sr_mvd j n ba0 bn0 ba bn) : sr_mvd j (n + 1) ba0 bn0 (upd ba (3 * j + n) (ba (3 * j + n + 3))) (upd bn (3 * j + n) (vp_nar .boolean (bn (3 * j + n + 3)))) := by
  refine ⟨fun i hi => ?_, fun p hp => ?_⟩
  · by_cases z : i = n
    · subst z
      have o := h.2 (3 * j + i + 3) (by omega)
      rw [pk_us, pk_us, o.1, o.2, show 3 * j + i + 3 = 3 * (j + 1) + i by omega]
      exact ⟨rfl, rfl⟩
    · rw [pk_un (by omega), pk_un (by omega)]
      exact h.1 i (by omega)
  · rw [pk_un (by omega), pk_un (by omega)]
    exact h.2 p (by omega)
theorem sr_x_cpl {post : SX → Prop} {j : Nat} {ba0 bn0 : Nat → Int32} (hj : j < 13) (K : ∀ ba bn, sr_mvd j 3 ba0 bn0 ba bn → post (Fdl, Frc, Agf, Ahf, Afw, Ada, Adn, ba, bn, Abl, Ahd, Avr, Att)) : ∀ d i ba bn, i + d = 3 → sr_mvd j i ba0 bn0 ba bn → wX_copyFromNext_44 post (nI j) Fdl Frc (d + 1) (nI i) Agf Ahf Afw Ada Adn ba bn Abl Ahd Avr Att := by
  intro d
  induction d with
  | zero =>
    intro i ba bn hi hm
    have e : i = 3 := by omega
    subst e
    exact br_t (by decide) (K ba bn hm)
  | succ d ih =>
    intro i ba bn hi hm
    have ep : 3 * nI j + nI i = nI (3 * j + i) := by rw [sr_m3, nI_add]
    have e1 : (nI (3 * j + i)).toNatClampNeg = 3 * j + i := nI_clamp (by omega)
    have e2 : (nI (3 * j + i + 3)).toNatClampNeg = 3 * j + i + 3 := nI_clamp (by omega)
    have q1 : vp_in (nI (3 * j + i)) 42 := vp_in_nI (by omega) (by decide)
    have q2 : vp_in (nI (3 * j + i + 3)) 42 := vp_in_nI (by omega) (by decide)
    refine br_f (nI_ge (b := 3) (by omega) (by decide)) (nm_r ep ?_)
    rw [sr_a3, e1, e2]
    exact ⟨q2, q1, nm_e ⟨q2, q1, nm_e (nm_r (nI_1 i) (ih (i + 1) _ _ (by omega) (sr_mvd_s (by omega) hm)))⟩⟩
theorem sr_x_cp {post : SX → Prop} {j : Nat} (hj : j < 13) (K : ∀ ba bn, sr_mvd j 3 Aba Abn ba bn → post (Fdl, Frc, Agf, Ahf, Afw, Ada, Adn, ba, bn, (upd Abl j (Abl (j + 1))), (upd Ahd j (Ahd (j + 1))), (upd Avr j (Avr (j + 1))), Att)) : wpX_copyFromNext post (Fdl, Frc, Agf, Ahf, Afw, Ada, Adn, Aba, Abn, Abl, Ahd, Avr, Att) (nI j) := by
  have e1 : (nI j).toNatClampNeg = j := nI_clamp (by omega)
  have e2 : (nI (j + 1)).toNatClampNeg = j + 1 := nI_clamp (by omega)
  have q1 : vp_in (nI j) 14 := vp_in_nI (by omega) (by decide)
  have q2 : vp_in (nI (j + 1)) 14 := vp_in_nI (by omega) (by decide)
  unfold wpX_copyFromNext
  dsimp only
  rw [nI_1 j, e1, e2]
  exact ⟨q2, q1, nm_e ⟨q2, q1, nm_e ⟨q2, q1, nm_e ⟨4, sr_x_cpl hj K 3 0 Aba Abn rfl (sr_mvd_0 j Aba Abn)⟩⟩⟩⟩
theorem sr_cp1 {j : Nat} {ρ : sr_R} {hd bl ba bn vr ba' bn' : Nat → Int32} (h : sr_r1 (j + 1) ρ hd bl ba bn vr) (hm : sr_mvd j 3 ba bn ba' bn') : sr_r1 j ρ (upd hd j (hd (j + 1))) (upd bl j (bl (j + 1))) ba' bn' (upd vr j (vr (j + 1))) := by
  obtain ⟨a, b, c', d', e⟩ := h
  refine ⟨a, by rw [pk_us]; exact b, by rw [pk_us]; exact c', by rw [pk_us]; exact d', fun i hi => ?_⟩
  have h3 := a.2.1
  have m := hm.1 i (by omega)
  rw [m.1, m.2, (e i hi).1, (e i hi).2, sr_nar]
  exact ⟨rfl, rfl⟩
theorem sr_cp2 {j r : Nat} {ρ : sr_R} {hd bl ba bn vr ba' bn' : Nat → Int32} (z : r ≠ j) (h : sr_r1 r ρ hd bl ba bn vr) (hm : sr_mvd j 3 ba bn ba' bn') : sr_r1 r ρ (upd hd j (hd (j + 1))) (upd bl j (bl (j + 1))) ba' bn' (upd vr j (vr (j + 1))) := by
  obtain ⟨a, b, c', d', e⟩ := h
  refine ⟨a, by rw [pk_un z]; exact b, by rw [pk_un z]; exact c', by rw [pk_un z]; exact d', fun i hi => ?_⟩
  have h3 := a.2.1
  have m := hm.2 (3 * r + i) (by omega)
  rw [m.1, m.2]
  exact e i hi
theorem sr_cq1 {j : Nat} {ρ : sr_R} {hd bl ba bn ba' bn' : Nat → Int32} (h : sr_r2 (j + 1) ρ hd bl ba bn) (hm : sr_mvd j 3 ba bn ba' bn') : sr_r2 j ρ (upd hd j (hd (j + 1))) (upd bl j (bl (j + 1))) ba' bn' := by
  obtain ⟨a, b, c', e⟩ := h
  refine ⟨a, by rw [pk_us]; exact b, by rw [pk_us]; exact c', fun i hi => ?_⟩
  have h3 := a.2.1
  have m := hm.1 i (by omega)
  rw [m.1, m.2, (e i hi).1, (e i hi).2, sr_nar]
  exact ⟨rfl, rfl⟩
theorem sr_cq2 {j r : Nat} {ρ : sr_R} {hd bl ba bn ba' bn' : Nat → Int32} (z : r ≠ j) (h : sr_r2 r ρ hd bl ba bn) (hm : sr_mvd j 3 ba bn ba' bn') : sr_r2 r ρ (upd hd j (hd (j + 1))) (upd bl j (bl (j + 1))) ba' bn' := by
  obtain ⟨a, b, c', e⟩ := h
  refine ⟨a, by rw [pk_un z]; exact b, by rw [pk_un z]; exact c', fun i hi => ?_⟩
  have h3 := a.2.1
  have m := hm.2 (3 * r + i) (by omega)
  rw [m.1, m.2]
  exact e i hi
def sr_dr (R : Nat → sr_R) (q : Nat) : Nat → sr_R := fun r => if r < q then R r else R (r + 1)
def sr_i1 (R : Nat → sr_R) (q c j : Nat) (hd bl ba bn vr : Nat → Int32) : Prop := (∀ r, r < j → sr_r1 r (sr_dr R q r) hd bl ba bn vr) ∧ ∀ r, j ≤ r → r < c + 1 → sr_r1 r (R r) hd bl ba bn vr
def sr_i2 (R : Nat → sr_R) (q c j : Nat) (hd bl ba bn : Nat → Int32) : Prop := (∀ r, r < j → sr_r2 r (sr_dr R q r) hd bl ba bn) ∧ ∀ r, j ≤ r → r < c + 1 → sr_r2 r (R r) hd bl ba bn
theorem sr_i1_0 {R : Nat → sr_R} {q c : Nat} {hd bl ba bn vr : Nat → Int32} (hq : q < c + 1) (h : ∀ r, r < c + 1 → sr_r1 r (R r) hd bl ba bn vr) : sr_i1 R q c q hd bl ba bn vr := by
  refine ⟨fun r hr => ?_, fun r _ hr => h r hr⟩
  unfold sr_dr
  rw [if_pos hr]
  exact h r (by omega)
theorem sr_i2_0 {R : Nat → sr_R} {q c : Nat} {hd bl ba bn : Nat → Int32} (hq : q < c + 1) (h : ∀ r, r < c + 1 → sr_r2 r (R r) hd bl ba bn) : sr_i2 R q c q hd bl ba bn := by
  refine ⟨fun r hr => ?_, fun r _ hr => h r hr⟩
  unfold sr_dr
  rw [if_pos hr]
  exact h r (by omega)
theorem sr_i1_s {R : Nat → sr_R} {q c j : Nat} {hd bl ba bn vr ba' bn' : Nat → Int32} (hq : q ≤ j) (hj : j < c) (h : sr_i1 R q c j hd bl ba bn vr) (hm : sr_mvd j 3 ba bn ba' bn') : sr_i1 R q c (j + 1) (upd hd j (hd (j + 1))) (upd bl j (bl (j + 1))) ba' bn' (upd vr j (vr (j + 1))) := by
  refine ⟨fun r hr => ?_, fun r h1 hr => sr_cp2 (by omega) (h.2 r (by omega) hr) hm⟩
  by_cases z : r = j
  · subst z
    unfold sr_dr
    rw [if_neg (by omega)]
    exact sr_cp1 (h.2 (r + 1) (by omega) (by omega)) hm
  · exact sr_cp2 z (h.1 r (by omega)) hm
theorem sr_i2_s {R : Nat → sr_R} {q c j : Nat} {hd bl ba bn ba' bn' : Nat → Int32} (hq : q ≤ j) (hj : j < c) (h : sr_i2 R q c j hd bl ba bn) (hm : sr_mvd j 3 ba bn ba' bn') : sr_i2 R q c (j + 1) (upd hd j (hd (j + 1))) (upd bl j (bl (j + 1))) ba' bn' := by
  refine ⟨fun r hr => ?_, fun r h1 hr => sr_cq2 (by omega) (h.2 r (by omega) hr) hm⟩
  by_cases z : r = j
  · subst z
    unfold sr_dr
    rw [if_neg (by omega)]
    exact sr_cq1 (h.2 (r + 1) (by omega) (by omega)) hm
  · exact sr_cq2 z (h.1 r (by omega)) hm
theorem sr_x_drl {post : Int32 → SX → Prop} {c q : Nat} {R : Nat → sr_R} {G : Nat → Bool} (hc : c < 14) (ht : sr_tt Att) (hG : sr_bx Agf G) (K : ∀ t F T hd bl ba bn vr, sr_tt t → sr_bx F T → sr_dn (sr_dr R q) c 14 G 4 T → (∀ r, r < c → sr_r1 r (sr_dr R q r) hd bl ba bn vr) → post (nI c) (Fdl, (nI c), Agf, F, Afw, Ada, Adn, ba, bn, bl, hd, vr, t)) : ∀ d j hd bl ba bn vr, j + d = c → q ≤ j → sr_i1 R q c j hd bl ba bn vr → wX_drop_22 post (d + 1) (nI j) Fdl (nI c) Agf Ahf Afw Ada Adn ba bn bl hd vr Att := by
  intro d
  induction d with
  | zero =>
    intro j hd bl ba bn vr hj hq hi
    have e : j = c := by omega
    subst e
    refine br_t (nI_le (Nat.le_refl _) (by omega)) (sr_x_dH (by omega) rfl sr_lom hi.1 ht hG (fun t F T ht' hb' hd' => ?_))
    exact K t F T hd bl ba bn vr ht' hb' hd' hi.1
  | succ d ih =>
    intro j hd bl ba bn vr hj hq hi
    refine br_f (nI_ge (by omega) (by omega)) (sr_x_cp (by omega) (fun ba' bn' hm => ?_))
    exact nm_r (nI_1 j) (ih (j + 1) _ _ _ _ _ (by omega) (by omega) (sr_i1_s hq (by omega) hi hm))
theorem sr_y_d58 {post : Int32 → SY → Prop} {Jj : Int32 → (Nat → Int32) → (Nat → Int32) → (Nat → Int32) → (Nat → Int32) → (Nat → Int32) → (Nat → Int32) → (Nat → Int32) → (Nat → Int32) → (Nat → Int32) → (Nat → Int32) → Prop} {j : Nat} {at0 nt0 : Nat → Int32} (hj : j < 13) (K : ∀ at' nt, sr_mvd j 3 at0 nt0 at' nt → Jj (nI (j + 1)) Btd Bnw Bkp Bdr Bdn Bhd Bsz at' nt Bbd) : ∀ d i at' nt, i + d = 3 → sr_mvd j i at0 nt0 at' nt → wY_drop_58 post Jj (nI j) Bdl Bct (d + 1) (nI i) Btd Bnw Bkp Bdr Bdn Bhd Bsz at' nt Bbd := by
  intro d
  induction d with
  | zero =>
    intro i ba bn hi hm
    have e : i = 3 := by omega
    subst e
    exact br_t (by decide) (nm_r (nI_1 j) (K ba bn hm))
  | succ d ih =>
    intro i ba bn hi hm
    have ep : 3 * nI j + nI i = nI (3 * j + i) := by rw [sr_m3, nI_add]
    have eq : 3 * nI j + 3 + nI i = nI (3 * j + i + 3) := by rw [sr_m3, sr_a3, nI_add, show 3 * j + 3 + i = 3 * j + i + 3 by omega]
    have e1 : (nI (3 * j + i)).toNatClampNeg = 3 * j + i := nI_clamp (by omega)
    have e2 : (nI (3 * j + i + 3)).toNatClampNeg = 3 * j + i + 3 := nI_clamp (by omega)
    have q1 : vp_in (nI (3 * j + i)) 42 := vp_in_nI (by omega) (by decide)
    have q2 : vp_in (nI (3 * j + i + 3)) 42 := vp_in_nI (by omega) (by decide)
    refine br_f (nI_ge (b := 3) (by omega) (by decide)) ?_
    rw [ep, eq, e1, e2]
    exact ⟨q2, q1, nm_e ⟨q2, q1, nm_e (nm_r (nI_1 i) (ih (i + 1) _ _ (by omega) (sr_mvd_s (by omega) hm)))⟩⟩
theorem sr_y_drl {post : Int32 → SY → Prop} {c q : Nat} {R : Nat → sr_R} (hc : c < 14) (K : ∀ hd sz at' nt, (∀ r, r < c → sr_r2 r (sr_dr R q r) hd sz at' nt) → post (nI c) (Bdl, (nI c), Btd, Bnw, Bkp, Bdr, Bdn, hd, sz, at', nt, Bbd)) : ∀ d j hd sz at' nt, j + d = c → q ≤ j → sr_i2 R q c j hd sz at' nt → wY_drop_12 post Bdl (nI (c + 1)) (d + 1) (nI j) Btd Bnw Bkp Bdr Bdn hd sz at' nt Bbd := by
  intro d
  induction d with
  | zero =>
    intro j hd sz at' nt hj hq hi
    have e : j = c := by omega
    subst e
    refine br_t ?_ (nm_r (nI_pred j) (K hd sz at' nt hi.1))
    rw [nI_pred]
    exact nI_le (Nat.le_refl _) (by omega)
  | succ d ih =>
    intro j hd sz at' nt hj hq hi
    have e1 : (nI j).toNatClampNeg = j := nI_clamp (by omega)
    have e2 : (nI (j + 1)).toNatClampNeg = j + 1 := nI_clamp (by omega)
    have q1 : vp_in (nI j) 14 := vp_in_nI (by omega) (by decide)
    have q2 : vp_in (nI (j + 1)) 14 := vp_in_nI (by omega) (by decide)
    refine br_f ?_ (br_f (nI_ge (b := 13) (by omega) (by decide)) ?_)
    · rw [nI_pred]
      exact nI_ge (by omega) (by omega)
    · rw [nI_1 j, e1, e2]
      exact ⟨q2, q1, nm_e ⟨q2, q1, nm_e ⟨4, sr_y_d58 (by omega) (fun at2 nt2 hm => ih (j + 1) _ _ _ _ (by omega) (by omega) (sr_i2_s hq (by omega) hi hm)) 3 0 at' nt rfl (sr_mvd_0 j at' nt)⟩⟩⟩
theorem i_vc_drop {k : Nat} {u : SX} {v : SY} (I : i_Rel k u v) (hk : k + 5 ≤ 2560) (v1 : Int32) : wpX_drop (fun r u' => wpY_drop (fun r' v' => r' = r ∧ i_Rel (k + 5) u' v') v v1) u v1 := by
  have J := i_up I
  obtain ⟨c, d, G, H, R, A, N, I⟩ := I
  obtain ⟨Fdl, Frc, Agf, Ahf, Afw, Ada, Adn, Aba, Abn, Abl, Ahd, Avr, Att⟩ := u
  obtain ⟨Bdl, Bct, Btd, Bnw, Bkp, Bdr, Bdn, Bhd, Bsz, Bat, Bnt, Bbd⟩ := v
  obtain ⟨rfl, rfl, rfl, rfl, hc, hd, hG, hG', hH, hD, hR, hR', ht, hA, hA'⟩ := I
  unfold wpX_drop wpY_drop
  dsimp only
  by_cases g1 : sr_gd c v1
  · obtain ⟨q, hq, rfl⟩ := g1
    obtain ⟨c, rfl⟩ : ∃ c', c = c' + 1 := ⟨c - 1, by omega⟩
    refine sr_x_iug hc hq (br_f (by decide) (nm_r (nI_pred c) ⟨c - q + 1, sr_x_drl (q := q) (R := R) (by omega) ht hG (fun t F T hd' bl ba bn vr ht' hb' hdn hR1 => ?_) (c - q) q Ahd Abl Aba Abn Avr (by omega) (Nat.le_refl _) (sr_i1_0 hq hR)⟩))
    refine sr_y_bug hc hq (br_t rfl ⟨c - q + 1, sr_y_drl (q := q) (R := R) (by omega) (fun hd2 sz at' nt hR2 => ⟨rfl, ?_⟩) (c - q) q Bhd Bsz Bat Bnt (by omega) (Nat.le_refl _) (sr_i2_0 hq hR')⟩)
    exact ⟨c, d, G, T, sr_dr R q, A, N, rfl, rfl, rfl, rfl, by omega, hd, hG, hG', hb', hdn, hR1, hR2, ht', hA, hA'⟩
  · exact sr_x_iub hc g1 (br_t rfl (sr_y_bub hc g1 (br_f (by decide) ⟨rfl, J⟩)))
end
end
