def sr_hb (ρ : sr_R) (T : Nat → Bool) (n : Nat) (h : Int64) : Prop := ∀ f, f < 64 → (sr_lb h f = true ↔ ∃ w, w < n ∧ sr_met ρ T w = true ∧ sr_ft (sr_mk ρ) w ρ.1 = f)
theorem sr_hb_0 (ρ : sr_R) (T : Nat → Bool) : sr_hb ρ T 0 0 := by
  intro f _
  rw [sr_lb_0]
  exact ⟨(fun h => nomatch h), fun ⟨w, hw, _⟩ => absurd hw (Nat.not_lt_zero w)⟩
theorem sr_hb_n {ρ : sr_R} {T : Nat → Bool} {n : Nat} {h : Int64} (a : sr_hb ρ T n h) (m : sr_met ρ T n = false) : sr_hb ρ T (n + 1) h := by
  intro f hf
  rw [a f hf]
  constructor
  · rintro ⟨w, hw, x⟩; exact ⟨w, by omega, x⟩
  · rintro ⟨w, hw, x, y⟩
    by_cases z : w = n
    · subst z; rw [m] at x; exact nomatch x
    · exact ⟨w, by omega, x, y⟩
theorem sr_hb_s {ρ : sr_R} {T : Nat → Bool} {n : Nat} {h : Int64} (a : sr_hb ρ T n h) (m : sr_met ρ T n = true) : sr_hb ρ T (n + 1) (h ||| (1 : Int64) <<< ((nI (sr_ft (sr_mk ρ) n ρ.1)).toInt64 &&& 63)) := by
  intro f hf
  have hl := sr_ft_lt (sr_mk ρ) n ρ.1
  rw [sr_lb_or, sr_lb_1 (by omega) hf, Bool.or_eq_true, a f hf, decide_eq_true_iff]
  constructor
  · rintro (⟨w, hw, x⟩ | e)
    · exact ⟨w, by omega, x⟩
    · exact ⟨n, by omega, m, e⟩
  · rintro ⟨w, hw, x, y⟩
    by_cases z : w = n
    · subst z; exact Or.inr y
    · exact Or.inl ⟨w, by omega, x, y⟩
theorem sr_hb_b {ρ : sr_R} {T : Nat → Bool} {n f : Nat} {h : Int64} (a : sr_hb ρ T n h) (hf : 36 ≤ f) (h2 : f < 64) : sr_lb h f = false := by
  cases e : sr_lb h f with
  | false => rfl
  | true =>
    obtain ⟨w, _, _, y⟩ := (a f h2).mp e
    have hl := sr_ft_lt (sr_mk ρ) w ρ.1
    omega
theorem sr_hp_e (ρ : sr_R) (w : Nat) : sr_hp ρ w = 36 * (ρ.1 / 100) + sr_ft (sr_mk ρ) w ρ.1 := rfl
theorem sr_xs0 {ρ : sr_R} {T : Nat → Bool} {h : Int64} {a : Nat → Int64} (hb : sr_bx a T) (wf : sr_wf ρ) (hh : sr_hb ρ T (sr_nb ρ) h) (z : (h &&& ((a (ρ.1 / 100)) ^^^ (-1))) = 0) : sr_q ρ (sr_nb ρ) T := by
  intro w hw m
  have hr : ρ.1 / 100 < 8 := by have := wf.1; omega
  have hl := sr_ft_lt (sr_mk ρ) w ρ.1
  have e := sr_lb_z.mp z (sr_ft (sr_mk ρ) w ρ.1) (by omega)
  rw [sr_lb_and, sr_lb_not (by omega), (hh _ (by omega)).mpr ⟨w, hw, m, rfl⟩, sr_bx_l hb hr hl, Bool.true_and] at e
  rw [sr_hp_e]
  simpa using e
def sr_jn (ρ : sr_R) (T : Nat → Bool) (h : Int64) : Nat → Bool := fun p => T p || (decide (p / 36 = ρ.1 / 100) && sr_lb h (p % 36))
theorem sr_jn_u (ρ : sr_R) (T : Nat → Bool) (h : Int64) : sr_up T (sr_jn ρ T h) := by
  intro p hp
  unfold sr_jn
  rw [hp, Bool.true_or]
theorem sr_jn_h {ρ : sr_R} {T : Nat → Bool} {h : Int64} (hh : sr_hb ρ T (sr_nb ρ) h) {p : Nat} (e : sr_jn ρ T h p = true) : T p = true ∨ ∃ w, w < sr_nb ρ ∧ sr_met ρ T w = true ∧ p = sr_hp ρ w := by
  unfold sr_jn at e
  rw [Bool.or_eq_true, Bool.and_eq_true, decide_eq_true_iff] at e
  rcases e with e | ⟨e, k⟩
  · exact Or.inl e
  · have hl : p % 36 < 36 := Nat.mod_lt _ (by decide)
    obtain ⟨w, hw, m, y⟩ := (hh _ (by omega)).mp k
    refine Or.inr ⟨w, hw, m, ?_⟩
    rw [sr_hp_e, y]
    omega
theorem sr_jn_b {ρ : sr_R} {T : Nat → Bool} {h : Int64} {a : Nat → Int64} (hb : sr_bx a T) (hh : sr_hb ρ T (sr_nb ρ) h) : sr_bx (vp_updL a (ρ.1 / 100) (a (ρ.1 / 100) ||| h)) (sr_jn ρ T h) := by
  intro r hr f hf
  unfold sr_jn
  by_cases y : f < 36
  · have e1 : (36 * r + f) / 36 = r := by omega
    have e2 : (36 * r + f) % 36 = f := by omega
    rw [e1, e2]
    by_cases z : r = ρ.1 / 100
    · rw [← z, pk_uLs, sr_lb_or, hb r hr f hf, decide_eq_true y]
      simp
    · rw [pk_uLn z, hb r hr f hf, decide_eq_false z]
      simp
  · rw [decide_eq_false y, Bool.false_and]
    by_cases z : r = ρ.1 / 100
    · rw [← z, pk_uLs, sr_lb_or, hb r hr f hf, sr_hb_b hh (by omega) hf, decide_eq_false y]
      rfl
    · rw [pk_uLn z, hb r hr f hf, decide_eq_false y]
      rfl
theorem sr_xs1 {ρ : sr_R} {T : Nat → Bool} {h : Int64} {a : Nat → Int64} {ℓ : Nat} {Q : Prop} (hb : sr_bx a T) (wf : sr_wf ρ) (hl : ρ.1 / 200 = ℓ) (hh : sr_hb ρ T (sr_nb ρ) h) (z : ¬ (h &&& ((a (ρ.1 / 100)) ^^^ (-1))) = 0) : sr_pr ℓ T (sr_jn ρ T h) true Q := by
  refine ⟨sr_jn_u ρ T h, fun _ => ?_, fun h => nomatch h⟩
  have hr : ρ.1 / 100 < 8 := by have := wf.1; omega
  apply Classical.byContradiction
  intro n
  apply z
  rw [sr_lb_z]
  intro f hf
  rw [sr_lb_and, sr_lb_not hf]
  by_cases y : f < 36
  · rw [sr_bx_l hb hr y]
    cases e1 : sr_lb h f with
    | false => rfl
    | true =>
      cases e2 : T (36 * (ρ.1 / 100) + f) with
      | true => rfl
      | false =>
        refine absurd (sr_cd_l (ℓ := ℓ) (p := 36 * (ρ.1 / 100) + f) (sr_jn_u ρ T h) (by omega) e2 ?_) n
        unfold sr_jn
        have q1 : (36 * (ρ.1 / 100) + f) / 36 = ρ.1 / 100 := by omega
        have q2 : (36 * (ρ.1 / 100) + f) % 36 = f := by omega
        rw [q1, q2, e1, decide_eq_true rfl]
        simp
  · rw [sr_hb_b hh (by omega) hf]
    rfl
theorem sr_q_n {ρ : sr_R} {ℓ j : Nat} {T0 T : Nat → Bool} {g : Bool} (h : sr_pr ℓ T0 T g (sr_q ρ j T0)) (m : sr_met ρ T j = false) : sr_pr ℓ T0 T g (sr_q ρ (j + 1) T0) := by
  refine ⟨h.1, h.2.1, fun z => ?_⟩
  obtain ⟨e, q⟩ := h.2.2 z
  refine ⟨e, fun w hw x => ?_⟩
  by_cases y : w = j
  · subst y; rw [e] at m; rw [m] at x; exact nomatch x
  · exact q w (by omega) x
theorem sr_st_t {T : Nat → Bool} {p : Nat} (h : T p = true) : sr_st T p true = T := by
  funext q
  unfold sr_st
  by_cases z : q = p
  · subst z; rw [if_pos rfl, h]
  · rw [if_neg z]
theorem sr_st_u (T : Nat → Bool) (p : Nat) : sr_up T (sr_st T p true) := by
  intro q h
  unfold sr_st
  by_cases z : q = p
  · rw [if_pos z]
  · rw [if_neg z, h]
theorem sr_st_h {T : Nat → Bool} {p q : Nat} (h : sr_st T p true q = true) : T q = true ∨ q = p := by
  unfold sr_st at h
  by_cases z : q = p
  · exact Or.inr z
  · rw [if_neg z] at h; exact Or.inl h
theorem sr_q_t {ρ : sr_R} {ℓ j : Nat} {T0 T : Nat → Bool} {g : Bool} (h : sr_pr ℓ T0 T g (sr_q ρ j T0)) (e : T (sr_hp ρ j) = true) : sr_pr ℓ T0 (sr_st T (sr_hp ρ j) true) g (sr_q ρ (j + 1) T0) := by
  rw [sr_st_t e]
  refine ⟨h.1, h.2.1, fun z => ?_⟩
  obtain ⟨k, q⟩ := h.2.2 z
  refine ⟨k, fun w hw x => ?_⟩
  by_cases y : w = j
  · subst y; rw [← k]; exact e
  · exact q w (by omega) x
theorem sr_q_f {ρ : sr_R} {ℓ j : Nat} {T0 T : Nat → Bool} {g : Bool} {Q Q' : Prop} (h : sr_pr ℓ T0 T g Q) (hl : ρ.1 / 200 = ℓ) (e : T (sr_hp ρ j) = false) : sr_pr ℓ T0 (sr_st T (sr_hp ρ j) true) true Q' := by
  refine ⟨sr_up_t h.1 (sr_st_u _ _), fun _ => ?_, fun h => nomatch h⟩
  have a := sr_cd_m (ℓ := ℓ) h.1
  have b := sr_cd_l (ℓ := ℓ) (p := sr_hp ρ j) (sr_st_u T (sr_hp ρ j)) (by unfold sr_hp; rw [sr_pl_ly]; exact hl) e (by unfold sr_st; rw [if_pos rfl])
  omega
theorem sr_met_z {ρ : sr_R} {S : Nat → Bool} {w i : Nat} (hi : i < ρ.2.1) (h : sr_bd ρ S w i = false) : sr_met ρ S w = false := by
  unfold sr_met
  rw [decide_eq_false_iff_not]
  intro z
  rw [z i hi] at h
  exact nomatch h
theorem sr_met_o {ρ : sr_R} {S : Nat → Bool} {w : Nat} (h : ∀ i, i < ρ.2.1 → sr_bd ρ S w i = true) : sr_met ρ S w = true := by
  unfold sr_met
  rw [decide_eq_true_iff]
  exact h
