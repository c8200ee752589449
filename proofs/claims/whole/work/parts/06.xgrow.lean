section
variable {Fdl Frc : Int32} {Agf Ahf Afw : Nat → Int64} {Ada Adn Aba Abn Abl Ahd Avr Att : Nat → Int32}
theorem sr_x_67H {post J : Int32 → Prop} {x4 z : Int32} {p : Nat} {b n : Bool} (hp : p < 42) (hz : z = sr_bI b) (hn : Abn p = sr_bI n) (h0 : b = n → post 0) (h1 : ¬ b = n → J (nI (p + 1))) : wX_bodyIsMet__heldFacts_67 post J x4 (nI p) z Fdl Frc Agf Ahf Afw Ada Adn Aba Abn Abl Ahd Avr Att := by
  refine ⟨vp_in_nI hp (by decide), sr_if ?_ h0 (fun hb => nm_r (nI_1 p) (h1 hb))⟩
  rw [nI_clamp (by omega), hz, hn]
  exact sr_bI_i
theorem sr_x_bmlH {post : Int32 → Prop} {r w : Nat} {ρ : sr_R} {T : Nat → Bool} (hr : r < 14) (h1 : sr_r1 r ρ Ahd Abl Aba Abn Avr) (hb : sr_bx Ahf T) (ht : sr_tw Att (sr_mk ρ) w) (h : post (sr_bI (sr_met ρ T w))) : ∀ d i, i + d = ρ.2.1 → (∀ j, j < i → sr_bd ρ T w j = true) → wX_bodyIsMet__heldFacts_17 post (nI (3 * r + ρ.2.1)) Fdl Frc Agf Ahf Afw Ada Adn Aba Abn Abl Ahd Avr Att (d + 1) (nI (3 * r + i)) := by
  obtain ⟨wf, e1, e2, e3, e4⟩ := h1
  have hl3 := wf.2.1
  intro d
  induction d with
  | zero =>
    intro i hi hj
    have e : i = ρ.2.1 := by omega
    subst e
    rw [sr_met_o hj] at h
    exact br_t (nI_le (Nat.le_refl _) (by omega)) h
  | succ d ih =>
    intro i hi hj
    have hil : i < ρ.2.1 := by omega
    obtain ⟨ea, en⟩ := e4 i hil
    have hA := (wf.2.2 i hil).1
    have eA : Aba (nI (3 * r + i)).toNatClampNeg = nI (ρ.2.2.1 i) := by rw [nI_clamp (by omega)]; exact ea
    refine br_f (nI_ge (by omega) (by omega)) ⟨vp_in_nI (by omega) (by decide), ?_⟩
    rw [eA]
    refine sr_x_rel hA ⟨vp_in_nI (by omega) (by decide), sr_x_fct hA (sr_mk_at ρ hil) ht ⟨vp_in_nI (by omega) (by decide), ?_⟩⟩
    have hft := sr_ft_lt (sr_mk ρ) w (ρ.2.2.1 i)
    refine sr_x_mem (by omega) ?_
    rw [nI_clamp (by omega), sr_bx_l hb (by omega) hft]
    have hbd : sr_bd ρ T w i = (T (36 * (ρ.2.2.1 i / 100) + sr_ft (sr_mk ρ) w (ρ.2.2.1 i)) != ρ.2.2.2 i) := rfl
    generalize T (36 * (ρ.2.2.1 i / 100) + sr_ft (sr_mk ρ) w (ρ.2.2.1 i)) = b at hbd
    have k0 : b = ρ.2.2.2 i → post 0 := fun z => by
      rw [sr_met_z hil (by rw [hbd, z]; simp)] at h
      exact h
    have k1 : ¬ b = ρ.2.2.2 i → wX_bodyIsMet__heldFacts_17 post (nI (3 * r + ρ.2.1)) Fdl Frc Agf Ahf Afw Ada Adn Aba Abn Abl Ahd Avr Att (d + 1) (nI (3 * r + i + 1)) := fun z => ih (i + 1) (by omega) (fun j hji => by
      by_cases y : j = i
      · subst y; rw [hbd]; simpa using z
      · exact hj j (by omega))
    cases b with
    | true => exact br_t rfl (sr_x_67H (by omega) rfl en k0 k1)
    | false => exact br_f (by decide) (sr_x_67H (by omega) rfl en k0 k1)
theorem sr_x_bmH {post : Int32 → Prop} {r w : Nat} {ρ : sr_R} {T : Nat → Bool} (hr : r < 14) (h1 : sr_r1 r ρ Ahd Abl Aba Abn Avr) (hb : sr_bx Ahf T) (ht : sr_tw Att (sr_mk ρ) w) (h : post (sr_bI (sr_met ρ T w))) : wpX_bodyIsMet__heldFacts post (Fdl, Frc, Agf, Ahf, Afw, Ada, Adn, Aba, Abn, Abl, Ahd, Avr, Att) (nI r) := by
  refine nm_r (sr_m3 r) ⟨vp_in_nI hr (by decide), nm_r (e' := nI (3 * r + ρ.2.1)) ?_ ⟨ρ.2.1 + 1, ?_⟩⟩
  · rw [nI_clamp (by omega), h1.2.2.1, nI_add]
  · exact sr_x_bmlH hr h1 hb ht h ρ.2.1 0 (by omega) (fun j hj => absurd hj (Nat.not_lt_zero j))
theorem sr_x_hdlH {post : Int64 → SX → Prop} {r : Nat} {ρ : sr_R} {T : Nat → Bool} (hr : r < 14) (h1 : sr_r1 r ρ Ahd Abl Aba Abn Avr) (hb : sr_bx Ahf T) (K : ∀ t h, sr_tt t → sr_hb ρ T (sr_nb ρ) h → post h (Fdl, Frc, Agf, Ahf, Afw, Ada, Adn, Aba, Abn, Abl, Ahd, Avr, t)) : ∀ d j t h, j + d = sr_nb ρ → sr_tt t → sr_hb ρ T j h → wX_headsOf__heldFacts_12 post (nI r) (nI (sr_nb ρ)) (d + 1) h (nI j) Fdl Frc Agf Ahf Afw Ada Adn Aba Abn Abl Ahd Avr t := by
  have hnb := sr_nb_le ρ
  intro d
  induction d with
  | zero =>
    intro j t h hj ht hh
    have e : j = sr_nb ρ := by omega
    subst e
    exact br_t (nI_le (Nat.le_refl _) (by omega)) (K t h ht hh)
  | succ d ih =>
    intro j t h hj ht hh
    refine br_f (nI_ge (by omega) (by omega)) (sr_x_ag hr (sr_mk_lt ρ) h1.2.2.2.1 (by omega) ht (fun t' ht' htw => ?_))
    refine sr_x_bmH hr h1 hb htw ?_
    cases m : sr_met ρ T j with
    | false => exact br_t rfl (nm_r (nI_1 j) (ih (j + 1) t' h (by omega) ht' (sr_hb_n hh m)))
    | true =>
      refine br_f (by decide) ⟨vp_in_nI hr (by decide), ?_⟩
      have eh : Ahd (nI r).toNatClampNeg = nI ρ.1 := by rw [nI_clamp (by omega)]; exact h1.2.1
      rw [eh]
      exact sr_x_fct h1.1.1 (sr_mk_hd ρ) htw (nm_e (nm_r (nI_1 j) (ih (j + 1) t' _ (by omega) ht' (sr_hb_s hh m))))
theorem sr_x_hdH {post : Int64 → SX → Prop} {r : Nat} {ρ : sr_R} {T : Nat → Bool} (hr : r < 14) (h1 : sr_r1 r ρ Ahd Abl Aba Abn Avr) (hb : sr_bx Ahf T) (ht : sr_tt Att) (K : ∀ t h, sr_tt t → sr_hb ρ T (sr_nb ρ) h → post h (Fdl, Frc, Agf, Ahf, Afw, Ada, Adn, Aba, Abn, Abl, Ahd, Avr, t)) : wpX_headsOf__heldFacts post (Fdl, Frc, Agf, Ahf, Afw, Ada, Adn, Aba, Abn, Abl, Ahd, Avr, Att) (nI r) :=
  sr_x_asn hr (sr_mk_lt ρ) h1.2.2.2.1 ⟨sr_nb ρ + 1, sr_x_hdlH hr h1 hb K (sr_nb ρ) 0 Att 0 (by omega) ht (sr_hb_0 ρ T)⟩
theorem sr_x_grlH {post : Int32 → SX → Prop} {lo : Int32} {c wo ℓ : Nat} {R : Nat → sr_R} {S T0 : Nat → Bool} (hc : c ≤ 14) (hrc : Frc = nI c) (hl4 : ℓ < 4) (hlo : ∀ r, r < 14 → (nI r = lo ↔ r = wo)) (hR : ∀ r, r < c → sr_r1 r (R r) Ahd Abl Aba Abn Avr) (K : ∀ t F T g, sr_tt t → sr_bx F T → sr_in R c wo ℓ S T → sr_pr ℓ T0 T g (sr_cl R c wo ℓ T0) → post (sr_bI g) (Fdl, Frc, Agf, F, Afw, Ada, Adn, Aba, Abn, Abl, Ahd, Avr, t)) : ∀ d j t F T g, j + d = c → sr_tt t → sr_bx F T → sr_in R c wo ℓ S T → sr_pr ℓ T0 T g (sr_cl R j wo ℓ T0) → wX_growLayer__heldFacts_6 post (nI ℓ) lo (d + 1) (sr_bI g) (nI j) Fdl Frc Agf F Afw Ada Adn Aba Abn Abl Ahd Avr t := by
  subst hrc
  intro d
  induction d with
  | zero =>
    intro j t F T g hj ht hb hi hp
    have e : j = c := by omega
    subst e
    exact br_t (nI_le (Nat.le_refl _) (by omega)) ⟨sr_nrw g, K t F T g ht hb hi hp⟩
  | succ d ih =>
    intro j t F T g hj ht hb hi hp
    have hjc : j < c := by omega
    refine br_f (nI_ge (by omega) (by omega)) (sr_if (hlo j (by omega)) (fun z => nm_r (nI_1 j) (ih (j + 1) t F T g (by omega) ht hb hi (sr_pr_q hp fun q => sr_cl_s q fun y => absurd z y))) (fun z => ⟨vp_in_nI (by omega) (by decide), ?_⟩))
    have h1 := hR j hjc
    have h800 := h1.1.1
    have eh : Ahd (nI j).toNatClampNeg = nI (R j).1 := by rw [nI_clamp (by omega)]; exact h1.2.1
    rw [eh]
    refine sr_x_lay h800 (sr_if (nI_eq (by omega) (by omega)) (fun y => ⟨vp_in_nI (by omega) (by decide), sr_x_rel h800 ?_⟩) (fun y => nm_r (nI_1 j) (ih (j + 1) t F T g (by omega) ht hb hi (sr_pr_q hp fun q => sr_cl_s q fun _ x => absurd x y))))
    refine sr_x_hdH (by omega) h1 hb ht (fun t' h ht' hh => ⟨vp_in_nI (by omega) (by decide), ?_⟩)
    have ec : (nI ((R j).1 / 100)).toNatClampNeg = (R j).1 / 100 := nI_clamp (by omega)
    rw [ec]
    refine br_c (fun x => nm_r (nI_1 j) (ih (j + 1) t' F T g (by omega) ht' hb hi ?_)) (fun x => ⟨vp_in_nI (by omega) (by decide), vp_in_nI (by omega) (by decide), nm_e (nm_r (nI_1 j) (ih (j + 1) t' _ (sr_jn (R j) T h) true (by omega) ht' (sr_jn_b hb hh) (sr_in_s hjc z y h1.1 hi (sr_jn_u _ _ _) (fun p e => sr_jn_h hh e)) ?_))⟩)
    · have a := sr_pr_c (Q2 := fun T => sr_q (R j) (sr_nb (R j)) T) hp (sr_pr_0 (sr_xs0 hb h1.1 hh x))
      rw [Bool.or_false] at a
      exact sr_pr_q a fun q => sr_cl_s q.1 fun _ _ => q.2
    · have a := sr_pr_c (Q2 := fun T => sr_q (R j) (sr_nb (R j)) T) hp (sr_xs1 hb h1.1 y hh x)
      rw [Bool.or_true] at a
      exact sr_pr_q a fun q => sr_cl_s q.1 fun _ _ => q.2
theorem sr_x_grH {post : Int32 → SX → Prop} {lo : Int32} {c wo ℓ : Nat} {R : Nat → sr_R} {S T0 : Nat → Bool} (hc : c ≤ 14) (hrc : Frc = nI c) (hl4 : ℓ < 4) (hlo : ∀ r, r < 14 → (nI r = lo ↔ r = wo)) (hR : ∀ r, r < c → sr_r1 r (R r) Ahd Abl Aba Abn Avr) (ht : sr_tt Att) (hb : sr_bx Ahf T0) (hi : sr_in R c wo ℓ S T0) (K : ∀ t F T g, sr_tt t → sr_bx F T → sr_in R c wo ℓ S T → sr_pr ℓ T0 T g (sr_cl R c wo ℓ T0) → post (sr_bI g) (Fdl, Frc, Agf, F, Afw, Ada, Adn, Aba, Abn, Abl, Ahd, Avr, t)) : wpX_growLayer__heldFacts post (Fdl, Frc, Agf, Ahf, Afw, Ada, Adn, Aba, Abn, Abl, Ahd, Avr, Att) (nI ℓ) lo :=
  ⟨c + 1, sr_x_grlH hc hrc hl4 hlo hR K c 0 Att Ahf T0 false (by omega) ht hb hi (sr_pr_0 (fun r hr => absurd hr (Nat.not_lt_zero r)))⟩
theorem sr_x_67W {post J : Int32 → Prop} {x4 z : Int32} {p : Nat} {b n : Bool} (hp : p < 42) (hz : z = sr_bI b) (hn : Abn p = sr_bI n) (h0 : b = n → post 0) (h1 : ¬ b = n → J (nI (p + 1))) : wX_bodyIsMet__factsWithout_67 post J x4 (nI p) z Fdl Frc Agf Ahf Afw Ada Adn Aba Abn Abl Ahd Avr Att := by
  refine ⟨vp_in_nI hp (by decide), sr_if ?_ h0 (fun hb => nm_r (nI_1 p) (h1 hb))⟩
  rw [nI_clamp (by omega), hz, hn]
  exact sr_bI_i
theorem sr_x_bmlW {post : Int32 → Prop} {r w : Nat} {ρ : sr_R} {T : Nat → Bool} (hr : r < 14) (h1 : sr_r1 r ρ Ahd Abl Aba Abn Avr) (hb : sr_bx Afw T) (ht : sr_tw Att (sr_mk ρ) w) (h : post (sr_bI (sr_met ρ T w))) : ∀ d i, i + d = ρ.2.1 → (∀ j, j < i → sr_bd ρ T w j = true) → wX_bodyIsMet__factsWithout_17 post (nI (3 * r + ρ.2.1)) Fdl Frc Agf Ahf Afw Ada Adn Aba Abn Abl Ahd Avr Att (d + 1) (nI (3 * r + i)) := by
  obtain ⟨wf, e1, e2, e3, e4⟩ := h1
  have hl3 := wf.2.1
  intro d
  induction d with
  | zero =>
    intro i hi hj
    have e : i = ρ.2.1 := by omega
    subst e
    rw [sr_met_o hj] at h
    exact br_t (nI_le (Nat.le_refl _) (by omega)) h
  | succ d ih =>
    intro i hi hj
    have hil : i < ρ.2.1 := by omega
    obtain ⟨ea, en⟩ := e4 i hil
    have hA := (wf.2.2 i hil).1
    have eA : Aba (nI (3 * r + i)).toNatClampNeg = nI (ρ.2.2.1 i) := by rw [nI_clamp (by omega)]; exact ea
    refine br_f (nI_ge (by omega) (by omega)) ⟨vp_in_nI (by omega) (by decide), ?_⟩
    rw [eA]
    refine sr_x_rel hA ⟨vp_in_nI (by omega) (by decide), sr_x_fct hA (sr_mk_at ρ hil) ht ⟨vp_in_nI (by omega) (by decide), ?_⟩⟩
    have hft := sr_ft_lt (sr_mk ρ) w (ρ.2.2.1 i)
    refine sr_x_mem (by omega) ?_
    rw [nI_clamp (by omega), sr_bx_l hb (by omega) hft]
    have hbd : sr_bd ρ T w i = (T (36 * (ρ.2.2.1 i / 100) + sr_ft (sr_mk ρ) w (ρ.2.2.1 i)) != ρ.2.2.2 i) := rfl
    generalize T (36 * (ρ.2.2.1 i / 100) + sr_ft (sr_mk ρ) w (ρ.2.2.1 i)) = b at hbd
    have k0 : b = ρ.2.2.2 i → post 0 := fun z => by
      rw [sr_met_z hil (by rw [hbd, z]; simp)] at h
      exact h
    have k1 : ¬ b = ρ.2.2.2 i → wX_bodyIsMet__factsWithout_17 post (nI (3 * r + ρ.2.1)) Fdl Frc Agf Ahf Afw Ada Adn Aba Abn Abl Ahd Avr Att (d + 1) (nI (3 * r + i + 1)) := fun z => ih (i + 1) (by omega) (fun j hji => by
      by_cases y : j = i
      · subst y; rw [hbd]; simpa using z
      · exact hj j (by omega))
    cases b with
    | true => exact br_t rfl (sr_x_67W (by omega) rfl en k0 k1)
    | false => exact br_f (by decide) (sr_x_67W (by omega) rfl en k0 k1)
theorem sr_x_bmW {post : Int32 → Prop} {r w : Nat} {ρ : sr_R} {T : Nat → Bool} (hr : r < 14) (h1 : sr_r1 r ρ Ahd Abl Aba Abn Avr) (hb : sr_bx Afw T) (ht : sr_tw Att (sr_mk ρ) w) (h : post (sr_bI (sr_met ρ T w))) : wpX_bodyIsMet__factsWithout post (Fdl, Frc, Agf, Ahf, Afw, Ada, Adn, Aba, Abn, Abl, Ahd, Avr, Att) (nI r) := by
  refine nm_r (sr_m3 r) ⟨vp_in_nI hr (by decide), nm_r (e' := nI (3 * r + ρ.2.1)) ?_ ⟨ρ.2.1 + 1, ?_⟩⟩
  · rw [nI_clamp (by omega), h1.2.2.1, nI_add]
  · exact sr_x_bmlW hr h1 hb ht h ρ.2.1 0 (by omega) (fun j hj => absurd hj (Nat.not_lt_zero j))
theorem sr_x_hdlW {post : Int64 → SX → Prop} {r : Nat} {ρ : sr_R} {T : Nat → Bool} (hr : r < 14) (h1 : sr_r1 r ρ Ahd Abl Aba Abn Avr) (hb : sr_bx Afw T) (K : ∀ t h, sr_tt t → sr_hb ρ T (sr_nb ρ) h → post h (Fdl, Frc, Agf, Ahf, Afw, Ada, Adn, Aba, Abn, Abl, Ahd, Avr, t)) : ∀ d j t h, j + d = sr_nb ρ → sr_tt t → sr_hb ρ T j h → wX_headsOf__factsWithout_12 post (nI r) (nI (sr_nb ρ)) (d + 1) h (nI j) Fdl Frc Agf Ahf Afw Ada Adn Aba Abn Abl Ahd Avr t := by
  have hnb := sr_nb_le ρ
  intro d
  induction d with
  | zero =>
    intro j t h hj ht hh
    have e : j = sr_nb ρ := by omega
    subst e
    exact br_t (nI_le (Nat.le_refl _) (by omega)) (K t h ht hh)
  | succ d ih =>
    intro j t h hj ht hh
    refine br_f (nI_ge (by omega) (by omega)) (sr_x_ag hr (sr_mk_lt ρ) h1.2.2.2.1 (by omega) ht (fun t' ht' htw => ?_))
    refine sr_x_bmW hr h1 hb htw ?_
    cases m : sr_met ρ T j with
    | false => exact br_t rfl (nm_r (nI_1 j) (ih (j + 1) t' h (by omega) ht' (sr_hb_n hh m)))
    | true =>
      refine br_f (by decide) ⟨vp_in_nI hr (by decide), ?_⟩
      have eh : Ahd (nI r).toNatClampNeg = nI ρ.1 := by rw [nI_clamp (by omega)]; exact h1.2.1
      rw [eh]
      exact sr_x_fct h1.1.1 (sr_mk_hd ρ) htw (nm_e (nm_r (nI_1 j) (ih (j + 1) t' _ (by omega) ht' (sr_hb_s hh m))))
theorem sr_x_hdW {post : Int64 → SX → Prop} {r : Nat} {ρ : sr_R} {T : Nat → Bool} (hr : r < 14) (h1 : sr_r1 r ρ Ahd Abl Aba Abn Avr) (hb : sr_bx Afw T) (ht : sr_tt Att) (K : ∀ t h, sr_tt t → sr_hb ρ T (sr_nb ρ) h → post h (Fdl, Frc, Agf, Ahf, Afw, Ada, Adn, Aba, Abn, Abl, Ahd, Avr, t)) : wpX_headsOf__factsWithout post (Fdl, Frc, Agf, Ahf, Afw, Ada, Adn, Aba, Abn, Abl, Ahd, Avr, Att) (nI r) :=
  sr_x_asn hr (sr_mk_lt ρ) h1.2.2.2.1 ⟨sr_nb ρ + 1, sr_x_hdlW hr h1 hb K (sr_nb ρ) 0 Att 0 (by omega) ht (sr_hb_0 ρ T)⟩
theorem sr_x_grlW {post : Int32 → SX → Prop} {lo : Int32} {c wo ℓ : Nat} {R : Nat → sr_R} {S T0 : Nat → Bool} (hc : c ≤ 14) (hrc : Frc = nI c) (hl4 : ℓ < 4) (hlo : ∀ r, r < 14 → (nI r = lo ↔ r = wo)) (hR : ∀ r, r < c → sr_r1 r (R r) Ahd Abl Aba Abn Avr) (K : ∀ t F T g, sr_tt t → sr_bx F T → sr_in R c wo ℓ S T → sr_pr ℓ T0 T g (sr_cl R c wo ℓ T0) → post (sr_bI g) (Fdl, Frc, Agf, Ahf, F, Ada, Adn, Aba, Abn, Abl, Ahd, Avr, t)) : ∀ d j t F T g, j + d = c → sr_tt t → sr_bx F T → sr_in R c wo ℓ S T → sr_pr ℓ T0 T g (sr_cl R j wo ℓ T0) → wX_growLayer__factsWithout_6 post (nI ℓ) lo (d + 1) (sr_bI g) (nI j) Fdl Frc Agf Ahf F Ada Adn Aba Abn Abl Ahd Avr t := by
  subst hrc
  intro d
  induction d with
  | zero =>
    intro j t F T g hj ht hb hi hp
    have e : j = c := by omega
    subst e
    exact br_t (nI_le (Nat.le_refl _) (by omega)) ⟨sr_nrw g, K t F T g ht hb hi hp⟩
  | succ d ih =>
    intro j t F T g hj ht hb hi hp
    have hjc : j < c := by omega
    refine br_f (nI_ge (by omega) (by omega)) (sr_if (hlo j (by omega)) (fun z => nm_r (nI_1 j) (ih (j + 1) t F T g (by omega) ht hb hi (sr_pr_q hp fun q => sr_cl_s q fun y => absurd z y))) (fun z => ⟨vp_in_nI (by omega) (by decide), ?_⟩))
    have h1 := hR j hjc
    have h800 := h1.1.1
    have eh : Ahd (nI j).toNatClampNeg = nI (R j).1 := by rw [nI_clamp (by omega)]; exact h1.2.1
    rw [eh]
    refine sr_x_lay h800 (sr_if (nI_eq (by omega) (by omega)) (fun y => ⟨vp_in_nI (by omega) (by decide), sr_x_rel h800 ?_⟩) (fun y => nm_r (nI_1 j) (ih (j + 1) t F T g (by omega) ht hb hi (sr_pr_q hp fun q => sr_cl_s q fun _ x => absurd x y))))
    refine sr_x_hdW (by omega) h1 hb ht (fun t' h ht' hh => ⟨vp_in_nI (by omega) (by decide), ?_⟩)
    have ec : (nI ((R j).1 / 100)).toNatClampNeg = (R j).1 / 100 := nI_clamp (by omega)
    rw [ec]
    refine br_c (fun x => nm_r (nI_1 j) (ih (j + 1) t' F T g (by omega) ht' hb hi ?_)) (fun x => ⟨vp_in_nI (by omega) (by decide), vp_in_nI (by omega) (by decide), nm_e (nm_r (nI_1 j) (ih (j + 1) t' _ (sr_jn (R j) T h) true (by omega) ht' (sr_jn_b hb hh) (sr_in_s hjc z y h1.1 hi (sr_jn_u _ _ _) (fun p e => sr_jn_h hh e)) ?_))⟩)
    · have a := sr_pr_c (Q2 := fun T => sr_q (R j) (sr_nb (R j)) T) hp (sr_pr_0 (sr_xs0 hb h1.1 hh x))
      rw [Bool.or_false] at a
      exact sr_pr_q a fun q => sr_cl_s q.1 fun _ _ => q.2
    · have a := sr_pr_c (Q2 := fun T => sr_q (R j) (sr_nb (R j)) T) hp (sr_xs1 hb h1.1 y hh x)
      rw [Bool.or_true] at a
      exact sr_pr_q a fun q => sr_cl_s q.1 fun _ _ => q.2
theorem sr_x_grW {post : Int32 → SX → Prop} {lo : Int32} {c wo ℓ : Nat} {R : Nat → sr_R} {S T0 : Nat → Bool} (hc : c ≤ 14) (hrc : Frc = nI c) (hl4 : ℓ < 4) (hlo : ∀ r, r < 14 → (nI r = lo ↔ r = wo)) (hR : ∀ r, r < c → sr_r1 r (R r) Ahd Abl Aba Abn Avr) (ht : sr_tt Att) (hb : sr_bx Afw T0) (hi : sr_in R c wo ℓ S T0) (K : ∀ t F T g, sr_tt t → sr_bx F T → sr_in R c wo ℓ S T → sr_pr ℓ T0 T g (sr_cl R c wo ℓ T0) → post (sr_bI g) (Fdl, Frc, Agf, Ahf, F, Ada, Adn, Aba, Abn, Abl, Ahd, Avr, t)) : wpX_growLayer__factsWithout post (Fdl, Frc, Agf, Ahf, Afw, Ada, Adn, Aba, Abn, Abl, Ahd, Avr, Att) (nI ℓ) lo :=
  ⟨c + 1, sr_x_grlW hc hrc hl4 hlo hR K c 0 Att Afw T0 false (by omega) ht hb hi (sr_pr_0 (fun r hr => absurd hr (Nat.not_lt_zero r)))⟩
end
