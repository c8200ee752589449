section
variable {Fdl Frc : Int32} {Agf Ahf Afw : Nat → Int64} {Ada Adn Aba Abn Abl Ahd Avr Att : Nat → Int32}
theorem sr_x_rdlH {post : SX → Prop} {J : Int32 → Int32 → Int32 → (Nat → Int64) → (Nat → Int64) → (Nat → Int64) → (Nat → Int32) → (Nat → Int32) → (Nat → Int32) → (Nat → Int32) → (Nat → Int32) → (Nat → Int32) → (Nat → Int32) → (Nat → Int32) → Prop} {lo : Int32} {c wo ℓ : Nat} {R : Nat → sr_R} {S : Nat → Bool} (hc : c ≤ 14) (hrc : Frc = nI c) (hl4 : ℓ < 4) (hlo : ∀ r, r < 14 → (nI r = lo ↔ r = wo)) (hR : ∀ r, r < c → sr_r1 r (R r) Ahd Abl Aba Abn Avr) (K : ∀ t F T, sr_tt t → sr_bx F T → sr_lf R c wo ℓ S T → J (nI (ℓ + 1)) Fdl Frc Agf F Afw Ada Adn Aba Abn Abl Ahd Avr t) : ∀ d i t F T g, i + d = 73 → sr_tt t → sr_bx F T → sr_rd R c wo ℓ S T i g → wX_derive__heldFacts_36 post J lo (nI ℓ) (d + 1) (sr_bI g) (nI i) Fdl Frc Agf F Afw Ada Adn Aba Abn Abl Ahd Avr t := by
  intro d
  induction d with
  | zero =>
    intro i t F T g hi ht hb hd
    cases g with
    | false => exact br_t rfl (nm_r (nI_1 ℓ) (K t F T ht hb (sr_rd_f hd)))
    | true => have := sr_rd_x hd; omega
  | succ d ih =>
    intro i t F T g hi ht hb hd
    cases g with
    | false => exact br_t rfl (nm_r (nI_1 ℓ) (K t F T ht hb (sr_rd_f hd)))
    | true =>
      refine br_f (by decide) (br_f (nI_ge (b := 73) (by omega) (by decide)) (sr_x_grH hc hrc hl4 hlo hR ht hb hd.1 (fun t' F' T' g' ht' hb' hi' hp' => ?_)))
      exact nm_r (nI_1 i) (ih (i + 1) t' F' T' g' (by omega) ht' hb' (sr_rd_s hd hi' hp'))
theorem sr_x_d25H {post : SX → Prop} {lo : Int32} {c wo : Nat} {R : Nat → sr_R} {G : Nat → Bool} (hc : c ≤ 14) (hrc : Frc = nI c) (hlo : ∀ r, r < 14 → (nI r = lo ↔ r = wo)) (hR : ∀ r, r < c → sr_r1 r (R r) Ahd Abl Aba Abn Avr) (K : ∀ t F T, sr_tt t → sr_bx F T → sr_dn R c wo G 4 T → post (Fdl, Frc, Agf, F, Afw, Ada, Adn, Aba, Abn, Abl, Ahd, Avr, t)) : ∀ d ℓ t F T, ℓ + d = 4 → sr_tt t → sr_bx F T → sr_dn R c wo G ℓ T → wX_derive__heldFacts_25 post lo (d + 1) (nI ℓ) Fdl Frc Agf F Afw Ada Adn Aba Abn Abl Ahd Avr t := by
  intro d
  induction d with
  | zero =>
    intro ℓ t F T hl ht hb hd
    have e : ℓ = 4 := by omega
    subst e
    exact br_t (by decide) (K t F T ht hb hd)
  | succ d ih =>
    intro ℓ t F T hl ht hb hd
    refine br_f (nI_ge (b := 4) (by omega) (by decide)) ⟨74, ?_⟩
    exact sr_x_rdlH hc hrc (by omega) hlo hR (fun t' F' T' ht' hb' hf' => ih (ℓ + 1) t' F' T' (by omega) ht' hb' ⟨T, hd, hf'⟩) 73 0 t F T true rfl ht hb (sr_rd_0 R c wo ℓ T)
theorem sr_x_d2H {post : SX → Prop} {lo : Int32} {c wo : Nat} {R : Nat → sr_R} {G : Nat → Bool} (hc : c ≤ 14) (hrc : Frc = nI c) (hlo : ∀ r, r < 14 → (nI r = lo ↔ r = wo)) (hR : ∀ r, r < c → sr_r1 r (R r) Ahd Abl Aba Abn Avr) (ht : sr_tt Att) (hG : sr_bx Agf G) (K : ∀ t F T, sr_tt t → sr_bx F T → sr_dn R c wo G 4 T → post (Fdl, Frc, Agf, F, Afw, Ada, Adn, Aba, Abn, Abl, Ahd, Avr, t)) : ∀ d i F, i + d = 8 → (∀ r, r < i → F r = Agf r) → wX_derive__heldFacts_2 post lo Fdl Frc (d + 1) (nI i) Agf F Afw Ada Adn Aba Abn Abl Ahd Avr Att := by
  intro d
  induction d with
  | zero =>
    intro i F hi hF
    have e : i = 8 := by omega
    subst e
    refine br_t (by decide) ⟨5, sr_x_d25H hc hrc hlo hR K 4 0 Att F G rfl ht ?_ rfl⟩
    intro r hr f hf
    rw [hF r hr]
    exact hG r hr f hf
  | succ d ih =>
    intro i F hi hF
    refine br_f (nI_ge (b := 8) (by omega) (by decide)) ⟨vp_in_nI (by omega) (by decide), vp_in_nI (by omega) (by decide), nm_r (e' := vp_updL F i (Agf i)) ?_ (nm_r (nI_1 i) (ih (i + 1) _ (by omega) ?_))⟩
    · rw [nI_clamp (by omega)]
    · intro r hr
      by_cases z : r = i
      · subst z; rw [pk_uLs]
      · rw [pk_uLn z]; exact hF r (by omega)
theorem sr_x_dH {post : SX → Prop} {lo : Int32} {c wo : Nat} {R : Nat → sr_R} {G : Nat → Bool} (hc : c ≤ 14) (hrc : Frc = nI c) (hlo : ∀ r, r < 14 → (nI r = lo ↔ r = wo)) (hR : ∀ r, r < c → sr_r1 r (R r) Ahd Abl Aba Abn Avr) (ht : sr_tt Att) (hG : sr_bx Agf G) (K : ∀ t F T, sr_tt t → sr_bx F T → sr_dn R c wo G 4 T → post (Fdl, Frc, Agf, F, Afw, Ada, Adn, Aba, Abn, Abl, Ahd, Avr, t)) : wpX_derive__heldFacts post (Fdl, Frc, Agf, Ahf, Afw, Ada, Adn, Aba, Abn, Abl, Ahd, Avr, Att) lo :=
  ⟨9, sr_x_d2H hc hrc hlo hR ht hG K 8 0 Ahf rfl (fun r hr => absurd hr (Nat.not_lt_zero r))⟩
theorem sr_x_rdlW {post : SX → Prop} {J : Int32 → Int32 → Int32 → (Nat → Int64) → (Nat → Int64) → (Nat → Int64) → (Nat → Int32) → (Nat → Int32) → (Nat → Int32) → (Nat → Int32) → (Nat → Int32) → (Nat → Int32) → (Nat → Int32) → (Nat → Int32) → Prop} {lo : Int32} {c wo ℓ : Nat} {R : Nat → sr_R} {S : Nat → Bool} (hc : c ≤ 14) (hrc : Frc = nI c) (hl4 : ℓ < 4) (hlo : ∀ r, r < 14 → (nI r = lo ↔ r = wo)) (hR : ∀ r, r < c → sr_r1 r (R r) Ahd Abl Aba Abn Avr) (K : ∀ t F T, sr_tt t → sr_bx F T → sr_lf R c wo ℓ S T → J (nI (ℓ + 1)) Fdl Frc Agf Ahf F Ada Adn Aba Abn Abl Ahd Avr t) : ∀ d i t F T g, i + d = 73 → sr_tt t → sr_bx F T → sr_rd R c wo ℓ S T i g → wX_derive__factsWithout_36 post J lo (nI ℓ) (d + 1) (sr_bI g) (nI i) Fdl Frc Agf Ahf F Ada Adn Aba Abn Abl Ahd Avr t := by
  intro d
  induction d with
  | zero =>
    intro i t F T g hi ht hb hd
    cases g with
    | false => exact br_t rfl (nm_r (nI_1 ℓ) (K t F T ht hb (sr_rd_f hd)))
    | true => have := sr_rd_x hd; omega
  | succ d ih =>
    intro i t F T g hi ht hb hd
    cases g with
    | false => exact br_t rfl (nm_r (nI_1 ℓ) (K t F T ht hb (sr_rd_f hd)))
    | true =>
      refine br_f (by decide) (br_f (nI_ge (b := 73) (by omega) (by decide)) (sr_x_grW hc hrc hl4 hlo hR ht hb hd.1 (fun t' F' T' g' ht' hb' hi' hp' => ?_)))
      exact nm_r (nI_1 i) (ih (i + 1) t' F' T' g' (by omega) ht' hb' (sr_rd_s hd hi' hp'))
theorem sr_x_d25W {post : SX → Prop} {lo : Int32} {c wo : Nat} {R : Nat → sr_R} {G : Nat → Bool} (hc : c ≤ 14) (hrc : Frc = nI c) (hlo : ∀ r, r < 14 → (nI r = lo ↔ r = wo)) (hR : ∀ r, r < c → sr_r1 r (R r) Ahd Abl Aba Abn Avr) (K : ∀ t F T, sr_tt t → sr_bx F T → sr_dn R c wo G 4 T → post (Fdl, Frc, Agf, Ahf, F, Ada, Adn, Aba, Abn, Abl, Ahd, Avr, t)) : ∀ d ℓ t F T, ℓ + d = 4 → sr_tt t → sr_bx F T → sr_dn R c wo G ℓ T → wX_derive__factsWithout_25 post lo (d + 1) (nI ℓ) Fdl Frc Agf Ahf F Ada Adn Aba Abn Abl Ahd Avr t := by
  intro d
  induction d with
  | zero =>
    intro ℓ t F T hl ht hb hd
    have e : ℓ = 4 := by omega
    subst e
    exact br_t (by decide) (K t F T ht hb hd)
  | succ d ih =>
    intro ℓ t F T hl ht hb hd
    refine br_f (nI_ge (b := 4) (by omega) (by decide)) ⟨74, ?_⟩
    exact sr_x_rdlW hc hrc (by omega) hlo hR (fun t' F' T' ht' hb' hf' => ih (ℓ + 1) t' F' T' (by omega) ht' hb' ⟨T, hd, hf'⟩) 73 0 t F T true rfl ht hb (sr_rd_0 R c wo ℓ T)
theorem sr_x_d2W {post : SX → Prop} {lo : Int32} {c wo : Nat} {R : Nat → sr_R} {G : Nat → Bool} (hc : c ≤ 14) (hrc : Frc = nI c) (hlo : ∀ r, r < 14 → (nI r = lo ↔ r = wo)) (hR : ∀ r, r < c → sr_r1 r (R r) Ahd Abl Aba Abn Avr) (ht : sr_tt Att) (hG : sr_bx Agf G) (K : ∀ t F T, sr_tt t → sr_bx F T → sr_dn R c wo G 4 T → post (Fdl, Frc, Agf, Ahf, F, Ada, Adn, Aba, Abn, Abl, Ahd, Avr, t)) : ∀ d i F, i + d = 8 → (∀ r, r < i → F r = Agf r) → wX_derive__factsWithout_2 post lo Fdl Frc (d + 1) (nI i) Agf Ahf F Ada Adn Aba Abn Abl Ahd Avr Att := by
  intro d
  induction d with
  | zero =>
    intro i F hi hF
    have e : i = 8 := by omega
    subst e
    refine br_t (by decide) ⟨5, sr_x_d25W hc hrc hlo hR K 4 0 Att F G rfl ht ?_ rfl⟩
    intro r hr f hf
    rw [hF r hr]
    exact hG r hr f hf
  | succ d ih =>
    intro i F hi hF
    refine br_f (nI_ge (b := 8) (by omega) (by decide)) ⟨vp_in_nI (by omega) (by decide), vp_in_nI (by omega) (by decide), nm_r (e' := vp_updL F i (Agf i)) ?_ (nm_r (nI_1 i) (ih (i + 1) _ (by omega) ?_))⟩
    · rw [nI_clamp (by omega)]
    · intro r hr
      by_cases z : r = i
      · subst z; rw [pk_uLs]
      · rw [pk_uLn z]; exact hF r (by omega)
theorem sr_x_dW {post : SX → Prop} {lo : Int32} {c wo : Nat} {R : Nat → sr_R} {G : Nat → Bool} (hc : c ≤ 14) (hrc : Frc = nI c) (hlo : ∀ r, r < 14 → (nI r = lo ↔ r = wo)) (hR : ∀ r, r < c → sr_r1 r (R r) Ahd Abl Aba Abn Avr) (ht : sr_tt Att) (hG : sr_bx Agf G) (K : ∀ t F T, sr_tt t → sr_bx F T → sr_dn R c wo G 4 T → post (Fdl, Frc, Agf, Ahf, F, Ada, Adn, Aba, Abn, Abl, Ahd, Avr, t)) : wpX_derive__factsWithout post (Fdl, Frc, Agf, Ahf, Afw, Ada, Adn, Aba, Abn, Abl, Ahd, Avr, Att) lo :=
  ⟨9, sr_x_d2W hc hrc hlo hR ht hG K 8 0 Afw rfl (fun r hr => absurd hr (Nat.not_lt_zero r))⟩
theorem sr_lom : ∀ r, r < 14 → (nI r = (-1 : Int32) ↔ r = 14) := by decide
theorem sr_lor {k : Nat} (hk : k < 14) : ∀ r, r < 14 → (nI r = nI k ↔ r = k) := fun r hr => nI_eq (by omega) (by omega)
end
