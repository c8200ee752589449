section
variable {Fdl Frc : Int32} {Agf Ahf Afw : Nat → Int64} {Ada Adn Aba Abn Abl Ahd Avr Att : Nat → Int32}
variable {Bdl Bct : Int32} {Btd Bnw Bkp Bdr Bdn Bhd Bsz Bat Bnt Bbd : Nat → Int32}
theorem sr_x_v26 {post : Int32 → Prop} {z : Int32} {t q : Nat} (ht : t < 10) (hz : z = nI q) (h : post (nI (q ||| sr_v1 t))) : wX_variablesOf_26 post (nI t) z := by
  subst hz
  refine pk_le 4 t (fun k => ?_) (fun k => nm_r (e' := nI (q ||| sr_v1 t)) ?_ h)
  · rw [sr_v1_ge k, Nat.or_zero] at h
    exact h
  · rw [sr_v1_s k, sr_or]
theorem sr_x_var {post : Int32 → Prop} {a : Nat} (ha : a < 800) (h : post (nI (sr_vs a))) : wpX_variablesOf post (nI a) := by
  refine ⟨by decide, by decide, nm_r (sr_t1 ha) ⟨by decide, nm_r (sr_t2 ha) (pk_le 4 (a / 10 % 10) (fun k => ?_) (fun k => nm_r (e' := nI (sr_v1 (a / 10 % 10))) ?_ ?_))⟩⟩
  · refine sr_x_v26 (q := 0) (by omega) rfl ?_
    unfold sr_vs at h
    rw [sr_v1_ge k] at h
    exact h
  · rw [sr_v1_s k, Int32.zero_or]
  · exact sr_x_v26 (by omega) rfl h
theorem sr_x_dvl {post : Int32 → Prop} {dd : Nat} {A : Nat → Nat} {N : Nat → Bool} {b : Bool} (h3 : dd ≤ 3) (hd : Fdl = nI dd) (hA : sr_D dd A N Ada Adn) (h : post (nI (sr_po A N b 0 dd))) : ∀ d i, i + d = dd → wX_draftVariables_4 post (sr_bI b) Fdl Frc Agf Ahf Afw Ada Adn Aba Abn Abl Ahd Avr Att (d + 1) (nI (sr_po A N b 0 i)) (nI i) := by
  subst hd
  intro d
  induction d with
  | zero =>
    intro i hi
    have e : i = dd := by omega
    subst e
    exact br_t (nI_le (Nat.le_refl _) (by omega)) h
  | succ d ih =>
    intro i hi
    obtain ⟨h800, ea, en⟩ := hA i (by omega)
    have k := ih (i + 1) (by omega)
    simp only [sr_po] at k
    have e : (nI i).toNatClampNeg = i := nI_clamp (by omega)
    refine br_f (nI_ge (by omega) (by omega)) ⟨vp_in_nI (by omega) (by decide), ?_⟩
    rw [e, en, ea]
    refine sr_if sr_bI_i (fun z => ⟨vp_in_nI (by omega) (by decide), sr_x_var h800 ?_⟩) (fun z => ?_)
    · rw [if_pos z] at k
      exact nm_r (sr_or _ _) (nm_r (nI_1 i) k)
    · rw [if_neg z] at k
      exact nm_r (nI_1 i) k
theorem sr_x_dv {post : Int32 → Prop} {dd : Nat} {A : Nat → Nat} {N : Nat → Bool} {x : Int32} (b : Bool) (hx : x = sr_bI b) (h3 : dd ≤ 3) (hd : Fdl = nI dd) (hA : sr_D dd A N Ada Adn) (h : post (nI (sr_po A N b 0 dd))) : wpX_draftVariables post (Fdl, Frc, Agf, Ahf, Afw, Ada, Adn, Aba, Abn, Abl, Ahd, Avr, Att) x := by
  subst hx
  exact ⟨dd + 1, sr_x_dvl h3 hd hA h dd 0 (by omega)⟩
theorem sr_x_dfl {post : Int32 → Prop} {dd hd : Nat} {A : Nat → Nat} {N : Nat → Bool} (h3 : dd ≤ 3) (hh : hd < 800) (hdd : Fdl = nI dd) (hA : sr_D dd A N Ada Adn) (k1 : sr_fit hd A N dd → post 1) (k0 : ¬ sr_fit hd A N dd → post 0) : ∀ d i, i + d = dd → sr_fit hd A N i → wX_draftLayersFit_7 post (nI (hd / 200)) Fdl Frc Agf Ahf Afw Ada Adn Aba Abn Abl Ahd Avr Att (d + 1) (nI i) := by
  subst hdd
  intro d
  induction d with
  | zero =>
    intro i hi hf
    have e : i = dd := by omega
    subst e
    exact br_t (nI_le (Nat.le_refl _) (by omega)) (k1 hf)
  | succ d ih =>
    intro i hi hf
    obtain ⟨h800, ea, en⟩ := hA i (by omega)
    have e : (nI i).toNatClampNeg = i := nI_clamp (by omega)
    refine br_f (nI_ge (by omega) (by omega)) ⟨vp_in_nI (by omega) (by decide), ?_⟩
    rw [e, ea, en]
    refine sr_x_lay h800 (pk_lt (hd / 200) (A i / 200) (fun z => k0 (fun q => ?_)) (fun z => ⟨vp_in_nI (by omega) (by decide), sr_if sr_bI_0 (fun y => nm_r (nI_1 i) (ih (i + 1) (by omega) (lt_s hf ⟨by omega, fun x => by rw [y] at x; exact nomatch x⟩))) (fun y => sr_if (nI_eq (by omega) (by omega)) (fun x => k0 (fun q => ?_)) (fun x => nm_r (nI_1 i) (ih (i + 1) (by omega) (lt_s hf ⟨by omega, fun _ => by omega⟩))))⟩))
    · have := (q i (by omega)).1
      omega
    · have := (q i (by omega)).2 (by simpa using y)
      omega
theorem sr_x_df {post : Int32 → Prop} {dd hd : Nat} {A : Nat → Nat} {N : Nat → Bool} (h3 : dd ≤ 3) (hh : hd < 800) (hdd : Fdl = nI dd) (hA : sr_D dd A N Ada Adn) (k1 : sr_fit hd A N dd → post 1) (k0 : ¬ sr_fit hd A N dd → post 0) : wpX_draftLayersFit post (Fdl, Frc, Agf, Ahf, Afw, Ada, Adn, Aba, Abn, Abl, Ahd, Avr, Att) (nI hd) := by
  unfold wpX_draftLayersFit
  exact sr_x_lay hh ⟨dd + 1, sr_x_dfl h3 hh hdd hA k1 k0 dd 0 (by omega) lt_0⟩
theorem sr_x_mvl {post : SX → Prop} {dd r : Nat} {A : Nat → Nat} {N : Nat → Bool} {ba0 bn0 : Nat → Int32} (hr : r < 14) (h3 : dd ≤ 3) (hdd : Fdl = nI dd) (hA : sr_D dd A N Ada Adn) (K : ∀ ba bn, (∀ i, i < dd → ba (3 * r + i) = nI (A i) ∧ bn (3 * r + i) = sr_bI (N i)) → (∀ p, p < 3 * r → ba p = ba0 p ∧ bn p = bn0 p) → post (0, Frc, Agf, Ahf, Afw, Ada, Adn, ba, bn, (upd Abl r (nI dd)), Ahd, Avr, Att)) : ∀ d i ba bn, i + d = dd → (∀ j, j < i → ba (3 * r + j) = nI (A j) ∧ bn (3 * r + j) = sr_bI (N j)) → (∀ p, p < 3 * r → ba p = ba0 p ∧ bn p = bn0 p) → wX_moveDraftTo_2 post (nI r) Fdl Frc (d + 1) (nI i) Agf Ahf Afw Ada Adn ba bn Abl Ahd Avr Att := by
  subst hdd
  intro d
  induction d with
  | zero =>
    intro i ba bn hi hw ho
    have e : i = dd := by omega
    subst e
    exact br_t (nI_le (Nat.le_refl _) (by omega)) ⟨vp_in_nI hr (by decide), nm_r (e' := upd Abl r (nI i)) (by rw [nI_clamp (by omega)]) (K ba bn hw ho)⟩
  | succ d ih =>
    intro i ba bn hi hw ho
    obtain ⟨h800, ea, en⟩ := hA i (by omega)
    have e : (nI i).toNatClampNeg = i := nI_clamp (by omega)
    have ep : 3 * nI r + nI i = nI (3 * r + i) := by rw [sr_m3, nI_add]
    have e2 : (nI (3 * r + i)).toNatClampNeg = 3 * r + i := nI_clamp (by omega)
    have q1 : vp_in (nI i) 3 := vp_in_nI (by omega) (by decide)
    have q2 : vp_in (nI (3 * r + i)) 42 := vp_in_nI (by omega) (by decide)
    refine br_f (nI_ge (by omega) (by omega)) ?_
    rw [ep, e, e2, ea, en, sr_nar]
    refine ⟨q1, q2, nm_e ⟨q1, q2, nm_e (nm_r (nI_1 i) (ih (i + 1) _ _ (by omega) (fun j hj => ?_) (fun p hp => ?_)))⟩⟩
    · by_cases z : j = i
      · subst z; rw [pk_us, pk_us]; exact ⟨rfl, rfl⟩
      · rw [pk_un (by omega), pk_un (by omega)]; exact hw j (by omega)
    · rw [pk_un (by omega), pk_un (by omega)]; exact ho p hp
theorem sr_x_mv {post : SX → Prop} {dd r : Nat} {A : Nat → Nat} {N : Nat → Bool} (hr : r < 14) (h3 : dd ≤ 3) (hdd : Fdl = nI dd) (hA : sr_D dd A N Ada Adn) (K : ∀ ba bn, (∀ i, i < dd → ba (3 * r + i) = nI (A i) ∧ bn (3 * r + i) = sr_bI (N i)) → (∀ p, p < 3 * r → ba p = Aba p ∧ bn p = Abn p) → post (0, Frc, Agf, Ahf, Afw, Ada, Adn, ba, bn, (upd Abl r (nI dd)), Ahd, Avr, Att)) : wpX_moveDraftTo post (Fdl, Frc, Agf, Ahf, Afw, Ada, Adn, Aba, Abn, Abl, Ahd, Avr, Att) (nI r) :=
  ⟨dd + 1, sr_x_mvl hr h3 hdd hA K dd 0 Aba Abn (by omega) lt_0 (fun _ _ => ⟨rfl, rfl⟩)⟩
theorem sr_y_r189 {post : Int32 → SY → Prop} {r dd : Nat} {A : Nat → Nat} {N : Nat → Bool} {at0 nt0 : Nat → Int32} (hr : r < 14) (h3 : dd ≤ 3) (hA : sr_D dd A N Bdr Bdn) (K : ∀ at' nt, (∀ i, i < dd → at' (3 * r + i) = nI (A i) ∧ nt (3 * r + i) = sr_bI (N i)) → (∀ p, p < 3 * r → at' p = at0 p ∧ nt p = nt0 p) → post (nI r) (0, (nI (r + 1)), Btd, Bnw, Bkp, Bdr, Bdn, Bhd, Bsz, at', nt, Bbd)) : ∀ d i at' nt, i + d = 3 → (∀ j, j < i → j < dd → at' (3 * r + j) = nI (A j) ∧ nt (3 * r + j) = sr_bI (N j)) → (∀ p, p < 3 * r → at' p = at0 p ∧ nt p = nt0 p) → wY_rule_189 post (nI r) Bdl Bct (d + 1) (nI i) Btd Bnw Bkp Bdr Bdn Bhd Bsz at' nt Bbd := by
  intro d
  induction d with
  | zero =>
    intro i at' nt hi hw ho
    have e : i = 3 := by omega
    subst e
    exact br_t (by decide) (nm_r (nI_1 r) (K at' nt (fun j hj => hw j (by omega) hj) ho))
  | succ d ih =>
    intro i at' nt hi hw ho
    have e : (nI i).toNatClampNeg = i := nI_clamp (by omega)
    have ep : 3 * nI r + nI i = nI (3 * r + i) := by rw [sr_m3, nI_add]
    have e2 : (nI (3 * r + i)).toNatClampNeg = 3 * r + i := nI_clamp (by omega)
    have q1 : vp_in (nI i) 3 := vp_in_nI (by omega) (by decide)
    have q2 : vp_in (nI (3 * r + i)) 42 := vp_in_nI (by omega) (by decide)
    refine br_f (nI_ge (b := 3) (by omega) (by decide)) ?_
    rw [ep, e, e2]
    refine ⟨q1, q2, nm_e ⟨q1, q2, nm_e (nm_r (nI_1 i) (ih (i + 1) _ _ (by omega) (fun j hj hjd => ?_) (fun p hp => ?_)))⟩⟩
    · by_cases z : j = i
      · subst z
        obtain ⟨h800, ea, en⟩ := hA j hjd
        rw [pk_us, pk_us, ea, en, sr_nar]
        exact ⟨rfl, rfl⟩
      · rw [pk_un (by omega), pk_un (by omega)]; exact hw j (by omega) hjd
    · rw [pk_un (by omega), pk_un (by omega)]; exact ho p hp
theorem sr_y_r108 {post : Int32 → SY → Prop} {Jj : Int32 → Int32 → Int32 → Prop} {x1 x2 : Int32} {a i p q : Nat} {b : Bool} (hi : i < 3) (h800 : a < 800) (ea : Bdr i = nI a) (en : Bdn i = sr_bI b) (k0 : b = false → Jj (nI (p ||| sr_vs a)) (nI q) (nI (i + 1))) (k1 : ¬ b = false → Jj (nI p) (nI (q ||| sr_vs a)) (nI (i + 1))) : wY_rule_108 post Jj x1 x2 (nI p) (nI q) (nI i) Bdl Bct Btd Bnw Bkp Bdr Bdn Bhd Bsz Bat Bnt Bbd := by
  have e : (nI i).toNatClampNeg = i := nI_clamp (by omega)
  have q1 : vp_in (nI i) 3 := vp_in_nI (by omega) (by decide)
  refine ⟨q1, ?_⟩
  rw [e, ea, en]
  exact sr_if sr_bI_0 (fun z => ⟨q1, sr_y_var h800 (nm_r (sr_or _ _) (nm_r (nI_1 i) (k0 z)))⟩) (fun z => ⟨q1, sr_y_var h800 (nm_r (sr_or _ _) (nm_r (nI_1 i) (k1 z)))⟩)
theorem sr_y_r39 {post : Int32 → SY → Prop} {x2 : Int32} {dd hd : Nat} {A : Nat → Nat} {N : Nat → Bool} (h3 : dd ≤ 3) (hh : hd < 800) (hdd : Bdl = nI dd) (hA : sr_D dd A N Bdr Bdn) (k1 : sr_fit hd A N dd → wY_rule_157 post (nI hd) x2 (nI (sr_po A N false 0 dd)) (nI (sr_po A N true (sr_vs hd) dd)) Bdl Bct Btd Bnw Bkp Bdr Bdn Bhd Bsz Bat Bnt Bbd) (k0 : ¬ sr_fit hd A N dd → post (-3) (Bdl, Bct, Btd, Bnw, Bkp, Bdr, Bdn, Bhd, Bsz, Bat, Bnt, Bbd)) : ∀ d i, i + d = dd → sr_fit hd A N i → wY_rule_39 post (nI hd) x2 Bdl Bct Btd Bnw Bkp Bdr Bdn Bhd Bsz Bat Bnt Bbd (d + 1) (nI (sr_po A N false 0 i)) (nI (sr_po A N true (sr_vs hd) i)) (nI i) := by
  subst hdd
  intro d
  induction d with
  | zero =>
    intro i hi hf
    have e : i = dd := by omega
    subst e
    exact br_t (nI_le (Nat.le_refl _) (by omega)) (k1 hf)
  | succ d ih =>
    intro i hi hf
    obtain ⟨h800, ea, en⟩ := hA i (by omega)
    have e : (nI i).toNatClampNeg = i := nI_clamp (by omega)
    have q1 : vp_in (nI i) 3 := vp_in_nI (by omega) (by decide)
    have nx : sr_fit hd A N (i + 1) → wY_rule_108 post (wY_rule_39 post (nI hd) x2 (nI dd) Bct Btd Bnw Bkp Bdr Bdn Bhd Bsz Bat Bnt Bbd (d + 1)) (nI hd) x2 (nI (sr_po A N false 0 i)) (nI (sr_po A N true (sr_vs hd) i)) (nI i) (nI dd) Bct Btd Bnw Bkp Bdr Bdn Bhd Bsz Bat Bnt Bbd := fun hf' => by
      have k := ih (i + 1) (by omega) hf'
      simp only [sr_po] at k
      refine sr_y_r108 (by omega) h800 ea en (fun z => ?_) (fun z => ?_)
      · rw [if_pos z, if_neg (by rw [z]; decide)] at k
        exact k
      · rw [if_neg z, if_pos (by simpa using z)] at k
        exact k
    refine br_f (nI_ge (by omega) (by omega)) (br_f (nI_ge (b := 3) (by omega) (by decide)) ⟨q1, ?_⟩)
    rw [e, ea, en]
    refine sr_y_lay h800 (sr_y_lay hh (pk_le (A i / 200) (hd / 200) (fun z => ⟨q1, sr_if sr_bI_0 (fun y => nx (lt_s hf ⟨z, fun x => by rw [y] at x; exact nomatch x⟩)) (fun y => ⟨q1, sr_y_lay h800 (sr_y_lay hh (sr_if (nI_eq (by omega) (by omega)) (fun x => k0 (fun q => ?_)) (fun x => nx (lt_s hf ⟨z, fun _ => by omega⟩))))⟩)⟩) (fun z => k0 (fun q => ?_))))
    · have := (q i (by omega)).2 (by simpa using y)
      omega
    · have := (q i (by omega)).1
      omega
theorem sr_mk_new {hd dd : Nat} {A : Nat → Nat} {N : Nat → Bool} (h : sr_po A N true (sr_vs hd) dd ||| sr_po A N false 0 dd = sr_po A N false 0 dd) : sr_mk (hd, dd, A, N) = sr_po A N false 0 dd := by
  show sr_mo (fun i => sr_vs (A i)) (sr_vs hd) dd = _
  rw [sr_po_m A N (sr_vs hd) dd, h]
def sr_ad (R : Nat → sr_R) (c : Nat) (ρ : sr_R) : Nat → sr_R := fun r => if r = c then ρ else R r
theorem sr_wf_new {hd dd : Nat} {A : Nat → Nat} {N : Nat → Bool} {da dn : Nat → Int32} (hh : hd < 800) (h3 : dd ≤ 3) (hA : sr_D dd A N da dn) (hf : sr_fit hd A N dd) : sr_wf (hd, dd, A, N) := ⟨hh, h3, fun i hi => ⟨(hA i hi).1, hf i hi⟩⟩
theorem sr_ad1 {R : Nat → sr_R} {c : Nat} {ρ : sr_R} {hd bl ba bn vr ba' bn' : Nat → Int32} (hR : ∀ r, r < c → sr_r1 r (R r) hd bl ba bn vr) (wf : sr_wf ρ) (hw : ∀ i, i < ρ.2.1 → ba' (3 * c + i) = nI (ρ.2.2.1 i) ∧ bn' (3 * c + i) = sr_bI (ρ.2.2.2 i)) (ho : ∀ p, p < 3 * c → ba' p = ba p ∧ bn' p = bn p) : ∀ r, r < c + 1 → sr_r1 r (sr_ad R c ρ r) (upd hd c (nI ρ.1)) (upd bl c (nI ρ.2.1)) ba' bn' (upd vr c (nI (sr_mk ρ))) := by
  intro r hr
  unfold sr_ad
  by_cases z : r = c
  · subst z
    rw [if_pos rfl]
    exact ⟨wf, pk_us, pk_us, pk_us, hw⟩
  · rw [if_neg z]
    obtain ⟨a, b, c', d', e⟩ := hR r (by omega)
    refine ⟨a, by rw [pk_un z]; exact b, by rw [pk_un z]; exact c', by rw [pk_un z]; exact d', fun i hi => ?_⟩
    have h3 := a.2.1
    have o := ho (3 * r + i) (by omega)
    rw [o.1, o.2]
    exact e i hi
theorem sr_ad2 {R : Nat → sr_R} {c : Nat} {ρ : sr_R} {hd bl ba bn ba' bn' : Nat → Int32} (hR : ∀ r, r < c → sr_r2 r (R r) hd bl ba bn) (wf : sr_wf ρ) (hw : ∀ i, i < ρ.2.1 → ba' (3 * c + i) = nI (ρ.2.2.1 i) ∧ bn' (3 * c + i) = sr_bI (ρ.2.2.2 i)) (ho : ∀ p, p < 3 * c → ba' p = ba p ∧ bn' p = bn p) : ∀ r, r < c + 1 → sr_r2 r (sr_ad R c ρ r) (upd hd c (nI ρ.1)) (upd bl c (nI ρ.2.1)) ba' bn' := by
  intro r hr
  unfold sr_ad
  by_cases z : r = c
  · subst z
    rw [if_pos rfl]
    exact ⟨wf, pk_us, pk_us, hw⟩
  · rw [if_neg z]
    obtain ⟨a, b, c', e⟩ := hR r (by omega)
    refine ⟨a, by rw [pk_un z]; exact b, by rw [pk_un z]; exact c', fun i hi => ?_⟩
    have h3 := a.2.1
    have o := ho (3 * r + i) (by omega)
    rw [o.1, o.2]
    exact e i hi
theorem i_vc_rule {k : Nat} {u : SX} {v : SY} (I : i_Rel k u v) (hk : k + 5 ≤ 2560) (v1 : Int32) : wpX_rule (fun r u' => wpY_rule (fun r' v' => r' = r ∧ i_Rel (k + 5) u' v') v v1) u v1 := by
  have J := i_up I
  obtain ⟨c, d, G, H, R, A, N, I⟩ := I
  obtain ⟨Fdl, Frc, Agf, Ahf, Afw, Ada, Adn, Aba, Abn, Abl, Ahd, Avr, Att⟩ := u
  obtain ⟨Bdl, Bct, Btd, Bnw, Bkp, Bdr, Bdn, Bhd, Bsz, Bat, Bnt, Bbd⟩ := v
  obtain ⟨rfl, rfl, rfl, rfl, hc, hd, hG, hG', hH, hD, hR, hR', ht, hA, hA'⟩ := I
  unfold wpX_rule wpY_rule
  dsimp only
  by_cases g1 : sr_gd 800 v1
  · obtain ⟨a, ha, rfl⟩ := g1
    have p0 : ¬ nI a < 0 := nI_pos (by omega)
    have p1 : nI a ≤ 799 := nI_le (b := 799) (by omega) (by decide)
    refine sr_x_iag ha (br_f (by decide) ?_)
    by_cases h14 : c < 14
    · have q1 : nI c < 14 := nI_lt (b := 14) h14 (by decide)
      have q2 : nI c ≤ 13 := nI_le (b := 13) (by omega) (by decide)
      have q3 : vp_in (nI c) 14 := vp_in_nI h14 (by decide)
      have e : (nI c).toNatClampNeg = c := nI_clamp (by omega)
      refine br_t q1 (sr_x_df hd ha rfl hA (fun hf => br_f (by decide) (sr_x_dv false rfl hd rfl hA (sr_x_dv true rfl hd rfl hA (sr_x_var ha (nm_r (e' := nI (sr_po A N true (sr_vs a) d)) ?_ ?_))))) (fun hf => br_t rfl ?_))
      · rw [sr_or, ← sr_po_i]
      · have hm := sr_nd _ (sr_po_lt (A := A) (N := N) (b := true) (sr_vs_lt a) d) _ (sr_po_lt (A := A) (N := N) (b := false) (i0 := 0) (by decide) d)
        refine br_c (fun z => ⟨q3, nm_e ⟨q3, nm_e (sr_x_mv h14 hd rfl hA (fun ba bn hw ho => ?_))⟩⟩) (fun z => ?_)
        · have wf := sr_wf_new ha hd hA hf
          have em := sr_mk_new (hm.mp z)
          rw [e, ← em]
          refine nm_r (nI_1 c) (sr_x_dH (R := sr_ad R c (a, d, A, N)) (by omega) rfl sr_lom (sr_ad1 hR wf hw ho) ht hG (fun t F T ht' hb' hd' => ?_))
          refine br_f p0 (br_t p1 (br_t q2 (sr_y_var ha ⟨d + 1, sr_y_r39 hd ha rfl hA' (fun _ => ?_) (fun q => absurd hf q) d 0 (by omega) lt_0⟩)))
          refine br_t z ⟨q3, nm_e ⟨q3, nm_e ⟨4, sr_y_r189 h14 hd hA' (fun at' nt hw' ho' => ⟨rfl, ?_⟩) 3 0 Bat Bnt rfl (fun j hj => absurd hj (Nat.not_lt_zero j)) (fun _ _ => ⟨rfl, rfl⟩)⟩⟩⟩
          rw [e]
          exact ⟨c + 1, 0, G, T, sr_ad R c (a, d, A, N), A, N, rfl, rfl, rfl, rfl, by omega, Nat.zero_le _, hG, hG', hb', hd', sr_ad1 hR wf hw ho, sr_ad2 hR' wf hw' ho', ht', (fun i hi => absurd hi (Nat.not_lt_zero i)), (fun i hi => absurd hi (Nat.not_lt_zero i))⟩
        · exact br_f p0 (br_t p1 (br_t q2 (sr_y_var ha ⟨d + 1, sr_y_r39 hd ha rfl hA' (fun _ => br_f z ⟨rfl, J⟩) (fun q => absurd hf q) d 0 (by omega) lt_0⟩)))
      · exact br_f p0 (br_t p1 (br_t q2 (sr_y_var ha ⟨d + 1, sr_y_r39 hd ha rfl hA' (fun q => absurd q hf) (fun _ => ⟨rfl, J⟩) d 0 (by omega) lt_0⟩)))
    · have q1 : ¬ nI c < 14 := nI_nlt (b := 14) (by omega) (by omega)
      have q2 : ¬ nI c ≤ 13 := nI_ge (a := 13) (by omega) (by omega)
      exact br_f q1 (br_f p0 (br_t p1 (br_f q2 ⟨rfl, J⟩)))
  · exact sr_x_iab g1 (br_t rfl (br_c (fun _ => ⟨rfl, J⟩) (fun z => br_f (sr_le_of (sr_gd_n (n := 800) (by decide) g1 z) (by decide)) ⟨rfl, J⟩)))
end
