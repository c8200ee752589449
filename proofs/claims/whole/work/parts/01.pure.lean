abbrev sr_R : Type := Nat × Nat × (Nat → Nat) × (Nat → Bool)
def sr_cn (f : Nat → Bool) : Nat → Nat
  | 0 => 0
  | n + 1 => sr_cn f n + (if f n = true then 1 else 0)
theorem sr_cn_le (f : Nat → Bool) : ∀ n, sr_cn f n ≤ n
  | 0 => Nat.le_refl _
  | n + 1 => by
    have h := sr_cn_le f n
    simp only [sr_cn]
    split <;> omega
theorem sr_cn_eq {f g : Nat → Bool} : ∀ {n : Nat}, (∀ i, i < n → f i = g i) → sr_cn f n = sr_cn g n
  | 0, _ => rfl
  | n + 1, h => by
    have a := sr_cn_eq (f := f) (g := g) (n := n) (fun i hi => h i (by omega))
    simp only [sr_cn]
    rw [a, h n (by omega)]
theorem sr_cn_mono {f g : Nat → Bool} : ∀ {n : Nat}, (∀ i, i < n → f i = true → g i = true) → sr_cn f n ≤ sr_cn g n
  | 0, _ => Nat.le_refl _
  | n + 1, h => by
    have a := sr_cn_mono (f := f) (g := g) (n := n) (fun i hi => h i (by omega))
    have b := h n (by omega)
    simp only [sr_cn]
    by_cases z : f n = true
    · rw [if_pos z, if_pos (b z)]; omega
    · rw [if_neg z]; omega
theorem sr_cn_lt {f g : Nat → Bool} {a : Nat} (hf : f a = false) (hg : g a = true) : ∀ {n : Nat}, (∀ i, i < n → f i = true → g i = true) → a < n → sr_cn f n < sr_cn g n
  | 0, _, h => by omega
  | n + 1, h, ha => by
    simp only [sr_cn]
    rcases Nat.lt_or_ge a n with z | z
    · have x := sr_cn_lt hf hg (n := n) (fun i hi => h i (by omega)) z
      have b := h n (by omega)
      by_cases y : f n = true
      · rw [if_pos y, if_pos (b y)]; omega
      · rw [if_neg y]; omega
    · have e : a = n := by omega
      subst e
      have x := sr_cn_mono (f := f) (g := g) (n := a) (fun i hi => h i (by omega))
      rw [if_pos hg, if_neg (by rw [hf]; decide)]
      omega
theorem sr_cn_add (f : Nat → Bool) (a : Nat) : ∀ b, sr_cn f (a + b) = sr_cn f a + sr_cn (fun i => f (a + i)) b
  | 0 => rfl
  | b + 1 => by
    have h := sr_cn_add f a b
    rw [show a + (b + 1) = (a + b) + 1 from rfl]
    simp only [sr_cn]
    omega
theorem sr_cn_pos {f : Nat → Bool} : ∀ {n : Nat}, 0 < sr_cn f n ↔ ∃ i, i < n ∧ f i = true
  | 0 => ⟨fun h => absurd h (Nat.lt_irrefl 0), fun ⟨i, h, _⟩ => absurd h (Nat.not_lt_zero i)⟩
  | n + 1 => by
    have ih := sr_cn_pos (f := f) (n := n)
    simp only [sr_cn]
    constructor
    · intro h
      by_cases z : f n = true
      · exact ⟨n, by omega, z⟩
      · rw [if_neg z] at h
        obtain ⟨i, hi, hf⟩ := ih.mp (by omega)
        exact ⟨i, by omega, hf⟩
    · rintro ⟨i, hi, hf⟩
      by_cases z : i = n
      · subst z; rw [if_pos hf]; omega
      · have := ih.mpr ⟨i, by omega, hf⟩
        omega
def sr_v1 (t : Nat) : Nat := if t < 4 then 2 ^ t else 0
def sr_vs (a : Nat) : Nat := sr_v1 (a / 10 % 10) ||| sr_v1 (a % 10)
def sr_mo (f : Nat → Nat) (i0 : Nat) : Nat → Nat
  | 0 => i0
  | n + 1 => sr_mo f i0 n ||| f n
def sr_mk (ρ : sr_R) : Nat := sr_mo (fun i => sr_vs (ρ.2.2.1 i)) (sr_vs ρ.1) ρ.2.1
theorem sr_v1_lt (t : Nat) : sr_v1 t < 16 := by
  unfold sr_v1
  by_cases h : t < 4
  · rw [if_pos h]
    exact (by decide : ∀ t, t < 4 → 2 ^ t < 16) t h
  · rw [if_neg h]; decide
theorem sr_vs_lt (a : Nat) : sr_vs a < 16 := Nat.or_lt_two_pow (n := 4) (sr_v1_lt _) (sr_v1_lt _)
theorem sr_mo_lt {f : Nat → Nat} {i0 : Nat} (h0 : i0 < 16) (hf : ∀ i, f i < 16) : ∀ n, sr_mo f i0 n < 16
  | 0 => h0
  | n + 1 => Nat.or_lt_two_pow (n := 4) (sr_mo_lt h0 hf n) (hf n)
theorem sr_mk_lt (ρ : sr_R) : sr_mk ρ < 16 := sr_mo_lt (sr_vs_lt _) (fun _ => sr_vs_lt _) _
theorem sr_v1_bit {t : Nat} (h : t < 4) : (sr_v1 t).testBit t = true := (by decide : ∀ t, t < 4 → (sr_v1 t).testBit t = true) t h
theorem sr_vs_b1 {a : Nat} (h : a / 10 % 10 < 4) : (sr_vs a).testBit (a / 10 % 10) = true := by
  unfold sr_vs
  rw [Nat.testBit_or, sr_v1_bit h, Bool.true_or]
theorem sr_vs_b2 {a : Nat} (h : a % 10 < 4) : (sr_vs a).testBit (a % 10) = true := by
  unfold sr_vs
  rw [Nat.testBit_or, sr_v1_bit h, Bool.or_true]
theorem sr_mo_b0 {f : Nat → Nat} {i0 b : Nat} (h : i0.testBit b = true) : ∀ n, (sr_mo f i0 n).testBit b = true
  | 0 => h
  | n + 1 => by
    show (sr_mo f i0 n ||| f n).testBit b = true
    rw [Nat.testBit_or, sr_mo_b0 h n, Bool.true_or]
theorem sr_mo_b {f : Nat → Nat} {i0 b i : Nat} (h : (f i).testBit b = true) : ∀ {n}, i < n → (sr_mo f i0 n).testBit b = true
  | 0, hi => absurd hi (Nat.not_lt_zero _)
  | n + 1, hi => by
    show (sr_mo f i0 n ||| f n).testBit b = true
    rw [Nat.testBit_or]
    by_cases z : i = n
    · subst z; rw [h, Bool.or_true]
    · rw [sr_mo_b h (show i < n by omega), Bool.true_or]
def sr_hs (m a : Nat) : Prop := (a / 10 % 10 < 4 → m.testBit (a / 10 % 10) = true) ∧ (a % 10 < 4 → m.testBit (a % 10) = true)
theorem sr_mk_hd (ρ : sr_R) : sr_hs (sr_mk ρ) ρ.1 := ⟨fun h => sr_mo_b0 (sr_vs_b1 h) _, fun h => sr_mo_b0 (sr_vs_b2 h) _⟩
theorem sr_mk_at (ρ : sr_R) {i : Nat} (hi : i < ρ.2.1) : sr_hs (sr_mk ρ) (ρ.2.2.1 i) :=
  ⟨fun h => sr_mo_b (f := fun i => sr_vs (ρ.2.2.1 i)) (sr_vs_b1 h) hi, fun h => sr_mo_b (f := fun i => sr_vs (ρ.2.2.1 i)) (sr_vs_b2 h) hi⟩
def sr_rs (m w : Nat) : Nat → Nat
  | 0 => w
  | v + 1 => if m.testBit v = true then sr_rs m w v / 6 else sr_rs m w v
def sr_th (m w t : Nat) : Nat := if t < 4 then (if m.testBit t = true then sr_rs m w t % 6 else 0) else t - 4
def sr_ft (m w a : Nat) : Nat := 6 * sr_th m w (a / 10 % 10) + sr_th m w (a % 10)
def sr_pl (m w a : Nat) : Nat := 36 * (a / 100) + sr_ft m w a
def sr_pw (m : Nat) : Nat → Nat
  | 0 => 1
  | v + 1 => if m.testBit v = true then 6 * sr_pw m v else sr_pw m v
theorem sr_th_lt {m w t : Nat} (h : t < 10) : sr_th m w t < 6 := by
  unfold sr_th
  split
  · split <;> omega
  · omega
theorem sr_ft_lt (m w a : Nat) : sr_ft m w a < 36 := by
  have h1 := sr_th_lt (m := m) (w := w) (t := a / 10 % 10) (Nat.mod_lt _ (by decide))
  have h2 := sr_th_lt (m := m) (w := w) (t := a % 10) (Nat.mod_lt _ (by decide))
  unfold sr_ft
  omega
theorem sr_pl_ly (m w a : Nat) : sr_pl m w a / 72 = a / 200 := by
  have h := sr_ft_lt m w a
  unfold sr_pl
  omega
theorem sr_pl_lt {m w a : Nat} (ha : a < 800) : sr_pl m w a < 288 := by
  have h := sr_ft_lt m w a
  unfold sr_pl
  omega
theorem sr_rs_le (m w : Nat) : ∀ v, sr_rs m w v ≤ w
  | 0 => Nat.le_refl _
  | v + 1 => by
    have h := sr_rs_le m w v
    simp only [sr_rs]
    split <;> omega
theorem sr_pw_le (m : Nat) : ∀ v, sr_pw m v ≤ 6 ^ v
  | 0 => Nat.le_refl _
  | v + 1 => by
    have h := sr_pw_le m v
    simp only [sr_pw, Nat.pow_succ]
    split <;> omega
def sr_nb (ρ : sr_R) : Nat := sr_pw (sr_mk ρ) 4
theorem sr_nb_le (ρ : sr_R) : sr_nb ρ ≤ 1296 := sr_pw_le _ 4
def sr_bd (ρ : sr_R) (S : Nat → Bool) (w i : Nat) : Bool := S (sr_pl (sr_mk ρ) w (ρ.2.2.1 i)) != ρ.2.2.2 i
def sr_met (ρ : sr_R) (S : Nat → Bool) (w : Nat) : Bool := decide (∀ i, i < ρ.2.1 → sr_bd ρ S w i = true)
def sr_hp (ρ : sr_R) (w : Nat) : Nat := sr_pl (sr_mk ρ) w ρ.1
def sr_wf (ρ : sr_R) : Prop := ρ.1 < 800 ∧ ρ.2.1 ≤ 3 ∧ ∀ i, i < ρ.2.1 → ρ.2.2.1 i < 800 ∧ ρ.2.2.1 i / 200 ≤ ρ.1 / 200 ∧ (ρ.2.2.2 i = true → ρ.2.2.1 i / 200 < ρ.1 / 200)
def sr_q (ρ : sr_R) (n : Nat) (T : Nat → Bool) : Prop := ∀ w, w < n → sr_met ρ T w = true → T (sr_hp ρ w) = true
def sr_cl (R : Nat → sr_R) (c wo ℓ : Nat) (T : Nat → Bool) : Prop := ∀ r, r < c → r ≠ wo → (R r).1 / 200 = ℓ → sr_q (R r) (sr_nb (R r)) T
def sr_up (S T : Nat → Bool) : Prop := ∀ p, S p = true → T p = true
def sr_ab (ℓ : Nat) (S T : Nat → Bool) : Prop := sr_up S T ∧ ∀ p, p / 72 ≠ ℓ → T p = S p
def sr_in (R : Nat → sr_R) (c wo ℓ : Nat) (S T : Nat → Bool) : Prop := sr_ab ℓ S T ∧ ∀ Z, sr_ab ℓ S Z → sr_cl R c wo ℓ Z → sr_up T Z
def sr_lf (R : Nat → sr_R) (c wo ℓ : Nat) (S T : Nat → Bool) : Prop := sr_in R c wo ℓ S T ∧ sr_cl R c wo ℓ T
theorem sr_up_r (S : Nat → Bool) : sr_up S S := fun _ h => h
theorem sr_up_t {S T U : Nat → Bool} (a : sr_up S T) (b : sr_up T U) : sr_up S U := fun p h => b p (a p h)
theorem sr_up_a {S T : Nat → Bool} (a : sr_up S T) (b : sr_up T S) : S = T := by
  funext p
  have x := a p
  have y := b p
  cases h : S p <;> cases k : T p <;> simp_all
theorem sr_in_0 (R : Nat → sr_R) (c wo ℓ : Nat) (S : Nat → Bool) : sr_in R c wo ℓ S S := ⟨⟨sr_up_r S, fun _ _ => rfl⟩, fun _ h _ => h.1⟩
theorem sr_lf_u {R : Nat → sr_R} {c wo ℓ : Nat} {S T T' : Nat → Bool} (h : sr_lf R c wo ℓ S T) (h' : sr_lf R c wo ℓ S T') : T = T' :=
  sr_up_a (h.1.2 T' h'.1.1 h'.2) (h'.1.2 T h.1.1 h.2)
theorem sr_met_m {ρ : sr_R} {S T Z : Nat → Bool} {ℓ w : Nat} (wf : sr_wf ρ) (hl : ρ.1 / 200 = ℓ) (hT : sr_ab ℓ S T) (hZ : sr_ab ℓ S Z) (u : sr_up T Z) (h : sr_met ρ T w = true) : sr_met ρ Z w = true := by
  unfold sr_met at h ⊢
  rw [decide_eq_true_iff] at h ⊢
  intro i hi
  have hb := h i hi
  obtain ⟨ha, hle, hneg⟩ := wf.2.2 i hi
  unfold sr_bd at hb ⊢
  cases e : ρ.2.2.2 i with
  | false =>
    rw [e] at hb
    rw [u _ (by simpa using hb)]
    rfl
  | true =>
    rw [e] at hb
    have hlt := hneg e
    have hp : sr_pl (sr_mk ρ) w (ρ.2.2.1 i) / 72 ≠ ℓ := by rw [sr_pl_ly]; omega
    rw [hZ.2 _ hp, ← hT.2 _ hp]
    exact hb
theorem sr_in_s {R : Nat → sr_R} {c wo ℓ r : Nat} {S T T' : Nat → Bool} (hr : r < c) (hwo : r ≠ wo) (hl : (R r).1 / 200 = ℓ) (wf : sr_wf (R r)) (h : sr_in R c wo ℓ S T) (h1 : sr_up T T') (h2 : ∀ p, T' p = true → T p = true ∨ ∃ w, w < sr_nb (R r) ∧ sr_met (R r) T w = true ∧ p = sr_hp (R r) w) : sr_in R c wo ℓ S T' := by
  refine ⟨⟨sr_up_t h.1.1 h1, fun p hp => ?_⟩, fun Z hZ hc p hp => ?_⟩
  · rw [← h.1.2 p hp]
    cases e : T' p with
    | true =>
      rcases h2 p e with z | ⟨w, _, _, z⟩
      · exact z.symm
      · exact absurd (by rw [z]; unfold sr_hp; rw [sr_pl_ly]; exact hl) hp
    | false =>
      cases k : T p with
      | true => exact absurd (h1 p k) (by rw [e]; decide)
      | false => rfl
  · have u := h.2 Z hZ hc
    rcases h2 p hp with z | ⟨w, hw, hm, z⟩
    · exact u p z
    · rw [z]
      exact hc r hr hwo hl w hw (sr_met_m wf hl h.1 hZ u hm)
def sr_cd (ℓ : Nat) (T : Nat → Bool) : Nat := sr_cn (fun i => T (72 * ℓ + i)) 72
theorem sr_cd_le (ℓ : Nat) (T : Nat → Bool) : sr_cd ℓ T ≤ 72 := sr_cn_le _ _
theorem sr_cd_m {ℓ : Nat} {T T' : Nat → Bool} (u : sr_up T T') : sr_cd ℓ T ≤ sr_cd ℓ T' := sr_cn_mono fun i _ h => u _ h
theorem sr_cd_l {ℓ p : Nat} {T T' : Nat → Bool} (u : sr_up T T') (hp : p / 72 = ℓ) (h : T p = false) (h' : T' p = true) : sr_cd ℓ T < sr_cd ℓ T' := by
  have e : 72 * ℓ + p % 72 = p := by omega
  exact sr_cn_lt (a := p % 72) (by rw [e]; exact h) (by rw [e]; exact h') (fun i _ h => u _ h) (Nat.mod_lt _ (by decide))
def sr_pr (ℓ : Nat) (T0 T : Nat → Bool) (g : Bool) (Q : Prop) : Prop := sr_up T0 T ∧ (g = true → sr_cd ℓ T0 < sr_cd ℓ T) ∧ (g = false → T = T0 ∧ Q)
theorem sr_pr_0 {ℓ : Nat} {T : Nat → Bool} {Q : Prop} (q : Q) : sr_pr ℓ T T false Q := ⟨sr_up_r T, (fun h => nomatch h), fun _ => ⟨rfl, q⟩⟩
theorem sr_pr_q {ℓ : Nat} {T0 T : Nat → Bool} {g : Bool} {Q Q' : Prop} (h : sr_pr ℓ T0 T g Q) (i : Q → Q') : sr_pr ℓ T0 T g Q' := ⟨h.1, h.2.1, fun z => ⟨(h.2.2 z).1, i (h.2.2 z).2⟩⟩
theorem sr_pr_c {ℓ : Nat} {T0 T1 T2 : Nat → Bool} {g1 g2 : Bool} {Q1 : Prop} {Q2 : (Nat → Bool) → Prop} (a : sr_pr ℓ T0 T1 g1 Q1) (b : sr_pr ℓ T1 T2 g2 (Q2 T1)) : sr_pr ℓ T0 T2 (g1 || g2) (Q1 ∧ Q2 T0) := by
  refine ⟨sr_up_t a.1 b.1, fun h => ?_, fun h => ?_⟩
  · have x := sr_cd_m (ℓ := ℓ) a.1
    have y := sr_cd_m (ℓ := ℓ) b.1
    cases g1 with
    | true => have := a.2.1 rfl; omega
    | false =>
      cases g2 with
      | true => have := b.2.1 rfl; omega
      | false => exact nomatch h
  · cases g1 with
    | true => exact nomatch h
    | false =>
      cases g2 with
      | true => exact nomatch h
      | false =>
        obtain ⟨e1, q1⟩ := a.2.2 rfl
        obtain ⟨e2, q2⟩ := b.2.2 rfl
        subst e1
        exact ⟨e2, q1, q2⟩
theorem sr_cl_s {R : Nat → sr_R} {j wo ℓ : Nat} {T : Nat → Bool} (h : sr_cl R j wo ℓ T) (k : j ≠ wo → (R j).1 / 200 = ℓ → sr_q (R j) (sr_nb (R j)) T) : sr_cl R (j + 1) wo ℓ T := by
  intro r hr hwo hl
  by_cases z : r = j
  · subst z; exact k hwo hl
  · exact h r (by omega) hwo hl
def sr_rd (R : Nat → sr_R) (c wo ℓ : Nat) (S T : Nat → Bool) (i : Nat) (g : Bool) : Prop := sr_in R c wo ℓ S T ∧ (g = true → i ≤ sr_cd ℓ T) ∧ (g = false → sr_cl R c wo ℓ T)
theorem sr_rd_0 (R : Nat → sr_R) (c wo ℓ : Nat) (S : Nat → Bool) : sr_rd R c wo ℓ S S 0 true := ⟨sr_in_0 _ _ _ _ _, fun _ => Nat.zero_le _, fun h => nomatch h⟩
theorem sr_rd_s {R : Nat → sr_R} {c wo ℓ i : Nat} {S T T' : Nat → Bool} {g : Bool} (h : sr_rd R c wo ℓ S T i true) (hi : sr_in R c wo ℓ S T') (p : sr_pr ℓ T T' g (sr_cl R c wo ℓ T)) : sr_rd R c wo ℓ S T' (i + 1) g := by
  refine ⟨hi, fun z => ?_, fun z => ?_⟩
  · have a := h.2.1 rfl
    have b := p.2.1 z
    omega
  · obtain ⟨e, q⟩ := p.2.2 z
    rw [e]; exact q
theorem sr_rd_f {R : Nat → sr_R} {c wo ℓ i : Nat} {S T : Nat → Bool} (h : sr_rd R c wo ℓ S T i false) : sr_lf R c wo ℓ S T := ⟨h.1, h.2.2 rfl⟩
theorem sr_rd_x {R : Nat → sr_R} {c wo ℓ i : Nat} {S T : Nat → Bool} (h : sr_rd R c wo ℓ S T i true) : i ≤ 72 := Nat.le_trans (h.2.1 rfl) (sr_cd_le _ _)
def sr_dn (R : Nat → sr_R) (c wo : Nat) (G : Nat → Bool) : Nat → (Nat → Bool) → Prop
  | 0, T => T = G
  | ℓ + 1, T => ∃ S, sr_dn R c wo G ℓ S ∧ sr_lf R c wo ℓ S T
theorem sr_dn_u {R : Nat → sr_R} {c wo : Nat} {G : Nat → Bool} : ∀ {ℓ : Nat} {T T' : Nat → Bool}, sr_dn R c wo G ℓ T → sr_dn R c wo G ℓ T' → T = T'
  | 0, _, _, h, h' => h.trans h'.symm
  | ℓ + 1, _, _, ⟨S, a, b⟩, ⟨S', a', b'⟩ => by
    have e := sr_dn_u a a'
    subst e
    exact sr_lf_u b b'
