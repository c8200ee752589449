section
variable {Fdl Frc : Int32} {Agf Ahf Afw : Nat → Int64} {Ada Adn Aba Abn Abl Ahd Avr Att : Nat → Int32}
variable {Bdl Bct : Int32} {Btd Bnw Bkp Bdr Bdn Bhd Bsz Bat Bnt Bbd : Nat → Int32}
def sr_mvd (j n : Nat) (ba0 bn0 ba bn : Nat → Int32) : Prop := (∀ i, i < n → ba (3 * j + i) = ba0 (3 * (j + 1) + i) ∧ bn (3 * j + i) = vp_nar .boolean (bn0 (3 * (j + 1) + i))) ∧ (∀ p, (p < 3 * j ∨ 3 * j + n ≤ p) → ba p = ba0 p ∧ bn p = bn0 p)
theorem sr_mvd_0 (j : Nat) (ba bn : Nat → Int32) : sr_mvd j 0 ba bn ba bn := ⟨lt_0, fun _ _ => ⟨rfl, rfl⟩⟩
theorem sr_mvd_s {j n : Nat} {ba0 bn0 ba bn : Nat → Int32} (hn : n < 3) (h : sr_mvd j n ba0 bn0 ba bn) : sr_mvd j (n + 1) ba0 bn0 (upd ba (3 * j + n) (ba (3 * j + n + 3))) (upd bn (3 * j + n) (vp_nar .boolean (bn (3 * j + n + 3)))) := by
  refine ⟨fun i hi => ?_, fun p hp => ?_⟩
  · by_cases z : i = n
    · subst z
      have o := h.2 (3 * j + i + 3) (by omega)
      rw [pk_us, pk_us, o.1, o.2, show 3 * j + i + 3 = 3 * (j + 1) + i by omega]
      exact ⟨rfl, rfl⟩
    · rw [pk_un (by omega), pk_un (by omega)]
      exact h.1 i (by omega)
  · rw [pk_un (by omega), pk_un (by omega)]
    exact h.2 p (by omega)
theorem sr_x_cpl {post : SX → Prop} {j : Nat} {ba0 bn0 : Nat → Int32} (hj : j < 13) (K : ∀ ba bn, sr_mvd j 3 ba0 bn0 ba bn → post (Fdl, Frc, Agf, Ahf, Afw, Ada, Adn, ba, bn, Abl, Ahd, Avr, Att)) : ∀ d i ba bn, i + d = 3 → sr_mvd j i ba0 bn0 ba bn → wX_copyFromNext_44 post (nI j) Fdl Frc (d + 1) (nI i) Agf Ahf Afw Ada Adn ba bn Abl Ahd Avr Att := by
  intro d
  induction d with
  | zero =>
    intro i ba bn hi hm
    have e : i = 3 := by omega
    subst e
    exact br_t (by decide) (K ba bn hm)
  | succ d ih =>
    intro i ba bn hi hm
    have ep : 3 * nI j + nI i = nI (3 * j + i) := by rw [sr_m3, nI_add]
    have e1 : (nI (3 * j + i)).toNatClampNeg = 3 * j + i := nI_clamp (by omega)
    have e2 : (nI (3 * j + i + 3)).toNatClampNeg = 3 * j + i + 3 := nI_clamp (by omega)
    have q1 : vp_in (nI (3 * j + i)) 42 := vp_in_nI (by omega) (by decide)
    have q2 : vp_in (nI (3 * j + i + 3)) 42 := vp_in_nI (by omega) (by decide)
    refine br_f (nI_ge (b := 3) (by omega) (by decide)) (nm_r ep ?_)
    rw [sr_a3, e1, e2]
    exact ⟨q2, q1, nm_e ⟨q2, q1, nm_e (nm_r (nI_1 i) (ih (i + 1) _ _ (by omega) (sr_mvd_s (by omega) hm)))⟩⟩
theorem sr_x_cp {post : SX → Prop} {j : Nat} (hj : j < 13) (K : ∀ ba bn, sr_mvd j 3 Aba Abn ba bn → post (Fdl, Frc, Agf, Ahf, Afw, Ada, Adn, ba, bn, (upd Abl j (Abl (j + 1))), (upd Ahd j (Ahd (j + 1))), (upd Avr j (Avr (j + 1))), Att)) : wpX_copyFromNext post (Fdl, Frc, Agf, Ahf, Afw, Ada, Adn, Aba, Abn, Abl, Ahd, Avr, Att) (nI j) := by
  have e1 : (nI j).toNatClampNeg = j := nI_clamp (by omega)
  have e2 : (nI (j + 1)).toNatClampNeg = j + 1 := nI_clamp (by omega)
  have q1 : vp_in (nI j) 14 := vp_in_nI (by omega) (by decide)
  have q2 : vp_in (nI (j + 1)) 14 := vp_in_nI (by omega) (by decide)
  unfold wpX_copyFromNext
  dsimp only
  rw [nI_1 j, e1, e2]
  exact ⟨q2, q1, nm_e ⟨q2, q1, nm_e ⟨q2, q1, nm_e ⟨4, sr_x_cpl hj K 3 0 Aba Abn rfl (sr_mvd_0 j Aba Abn)⟩⟩⟩⟩
theorem sr_cp1 {j : Nat} {ρ : sr_R} {hd bl ba bn vr ba' bn' : Nat → Int32} (h : sr_r1 (j + 1) ρ hd bl ba bn vr) (hm : sr_mvd j 3 ba bn ba' bn') : sr_r1 j ρ (upd hd j (hd (j + 1))) (upd bl j (bl (j + 1))) ba' bn' (upd vr j (vr (j + 1))) := by
  obtain ⟨a, b, c', d', e⟩ := h
  refine ⟨a, by rw [pk_us]; exact b, by rw [pk_us]; exact c', by rw [pk_us]; exact d', fun i hi => ?_⟩
  have h3 := a.2.1
  have m := hm.1 i (by omega)
  rw [m.1, m.2, (e i hi).1, (e i hi).2, sr_nar]
  exact ⟨rfl, rfl⟩
theorem sr_cp2 {j r : Nat} {ρ : sr_R} {hd bl ba bn vr ba' bn' : Nat → Int32} (z : r ≠ j) (h : sr_r1 r ρ hd bl ba bn vr) (hm : sr_mvd j 3 ba bn ba' bn') : sr_r1 r ρ (upd hd j (hd (j + 1))) (upd bl j (bl (j + 1))) ba' bn' (upd vr j (vr (j + 1))) := by
  obtain ⟨a, b, c', d', e⟩ := h
  refine ⟨a, by rw [pk_un z]; exact b, by rw [pk_un z]; exact c', by rw [pk_un z]; exact d', fun i hi => ?_⟩
  have h3 := a.2.1
  have m := hm.2 (3 * r + i) (by omega)
  rw [m.1, m.2]
  exact e i hi
theorem sr_cq1 {j : Nat} {ρ : sr_R} {hd bl ba bn ba' bn' : Nat → Int32} (h : sr_r2 (j + 1) ρ hd bl ba bn) (hm : sr_mvd j 3 ba bn ba' bn') : sr_r2 j ρ (upd hd j (hd (j + 1))) (upd bl j (bl (j + 1))) ba' bn' := by
  obtain ⟨a, b, c', e⟩ := h
  refine ⟨a, by rw [pk_us]; exact b, by rw [pk_us]; exact c', fun i hi => ?_⟩
  have h3 := a.2.1
  have m := hm.1 i (by omega)
  rw [m.1, m.2, (e i hi).1, (e i hi).2, sr_nar]
  exact ⟨rfl, rfl⟩
theorem sr_cq2 {j r : Nat} {ρ : sr_R} {hd bl ba bn ba' bn' : Nat → Int32} (z : r ≠ j) (h : sr_r2 r ρ hd bl ba bn) (hm : sr_mvd j 3 ba bn ba' bn') : sr_r2 r ρ (upd hd j (hd (j + 1))) (upd bl j (bl (j + 1))) ba' bn' := by
  obtain ⟨a, b, c', e⟩ := h
  refine ⟨a, by rw [pk_un z]; exact b, by rw [pk_un z]; exact c', fun i hi => ?_⟩
  have h3 := a.2.1
  have m := hm.2 (3 * r + i) (by omega)
  rw [m.1, m.2]
  exact e i hi
def sr_dr (R : Nat → sr_R) (q : Nat) : Nat → sr_R := fun r => if r < q then R r else R (r + 1)
def sr_i1 (R : Nat → sr_R) (q c j : Nat) (hd bl ba bn vr : Nat → Int32) : Prop := (∀ r, r < j → sr_r1 r (sr_dr R q r) hd bl ba bn vr) ∧ ∀ r, j ≤ r → r < c + 1 → sr_r1 r (R r) hd bl ba bn vr
def sr_i2 (R : Nat → sr_R) (q c j : Nat) (hd bl ba bn : Nat → Int32) : Prop := (∀ r, r < j → sr_r2 r (sr_dr R q r) hd bl ba bn) ∧ ∀ r, j ≤ r → r < c + 1 → sr_r2 r (R r) hd bl ba bn
theorem sr_i1_0 {R : Nat → sr_R} {q c : Nat} {hd bl ba bn vr : Nat → Int32} (hq : q < c + 1) (h : ∀ r, r < c + 1 → sr_r1 r (R r) hd bl ba bn vr) : sr_i1 R q c q hd bl ba bn vr := by
  refine ⟨fun r hr => ?_, fun r _ hr => h r hr⟩
  unfold sr_dr
  rw [if_pos hr]
  exact h r (by omega)
theorem sr_i2_0 {R : Nat → sr_R} {q c : Nat} {hd bl ba bn : Nat → Int32} (hq : q < c + 1) (h : ∀ r, r < c + 1 → sr_r2 r (R r) hd bl ba bn) : sr_i2 R q c q hd bl ba bn := by
  refine ⟨fun r hr => ?_, fun r _ hr => h r hr⟩
  unfold sr_dr
  rw [if_pos hr]
  exact h r (by omega)
theorem sr_i1_s {R : Nat → sr_R} {q c j : Nat} {hd bl ba bn vr ba' bn' : Nat → Int32} (hq : q ≤ j) (hj : j < c) (h : sr_i1 R q c j hd bl ba bn vr) (hm : sr_mvd j 3 ba bn ba' bn') : sr_i1 R q c (j + 1) (upd hd j (hd (j + 1))) (upd bl j (bl (j + 1))) ba' bn' (upd vr j (vr (j + 1))) := by
  refine ⟨fun r hr => ?_, fun r h1 hr => sr_cp2 (by omega) (h.2 r (by omega) hr) hm⟩
  by_cases z : r = j
  · subst z
    unfold sr_dr
    rw [if_neg (by omega)]
    exact sr_cp1 (h.2 (r + 1) (by omega) (by omega)) hm
  · exact sr_cp2 z (h.1 r (by omega)) hm
theorem sr_i2_s {R : Nat → sr_R} {q c j : Nat} {hd bl ba bn ba' bn' : Nat → Int32} (hq : q ≤ j) (hj : j < c) (h : sr_i2 R q c j hd bl ba bn) (hm : sr_mvd j 3 ba bn ba' bn') : sr_i2 R q c (j + 1) (upd hd j (hd (j + 1))) (upd bl j (bl (j + 1))) ba' bn' := by
  refine ⟨fun r hr => ?_, fun r h1 hr => sr_cq2 (by omega) (h.2 r (by omega) hr) hm⟩
  by_cases z : r = j
  · subst z
    unfold sr_dr
    rw [if_neg (by omega)]
    exact sr_cq1 (h.2 (r + 1) (by omega) (by omega)) hm
  · exact sr_cq2 z (h.1 r (by omega)) hm
theorem sr_x_drl {post : Int32 → SX → Prop} {c q : Nat} {R : Nat → sr_R} {G : Nat → Bool} (hc : c < 14) (ht : sr_tt Att) (hG : sr_bx Agf G) (K : ∀ t F T hd bl ba bn vr, sr_tt t → sr_bx F T → sr_dn (sr_dr R q) c 14 G 4 T → (∀ r, r < c → sr_r1 r (sr_dr R q r) hd bl ba bn vr) → post (nI c) (Fdl, (nI c), Agf, F, Afw, Ada, Adn, ba, bn, bl, hd, vr, t)) : ∀ d j hd bl ba bn vr, j + d = c → q ≤ j → sr_i1 R q c j hd bl ba bn vr → wX_drop_22 post (d + 1) (nI j) Fdl (nI c) Agf Ahf Afw Ada Adn ba bn bl hd vr Att := by
  intro d
  induction d with
  | zero =>
    intro j hd bl ba bn vr hj hq hi
    have e : j = c := by omega
    subst e
    refine br_t (nI_le (Nat.le_refl _) (by omega)) (sr_x_dH (by omega) rfl sr_lom hi.1 ht hG (fun t F T ht' hb' hd' => ?_))
    exact K t F T hd bl ba bn vr ht' hb' hd' hi.1
  | succ d ih =>
    intro j hd bl ba bn vr hj hq hi
    refine br_f (nI_ge (by omega) (by omega)) (sr_x_cp (by omega) (fun ba' bn' hm => ?_))
    exact nm_r (nI_1 j) (ih (j + 1) _ _ _ _ _ (by omega) (by omega) (sr_i1_s hq (by omega) hi hm))
theorem sr_y_d58 {post : Int32 → SY → Prop} {Jj : Int32 → (Nat → Int32) → (Nat → Int32) → (Nat → Int32) → (Nat → Int32) → (Nat → Int32) → (Nat → Int32) → (Nat → Int32) → (Nat → Int32) → (Nat → Int32) → (Nat → Int32) → Prop} {j : Nat} {at0 nt0 : Nat → Int32} (hj : j < 13) (K : ∀ at' nt, sr_mvd j 3 at0 nt0 at' nt → Jj (nI (j + 1)) Btd Bnw Bkp Bdr Bdn Bhd Bsz at' nt Bbd) : ∀ d i at' nt, i + d = 3 → sr_mvd j i at0 nt0 at' nt → wY_drop_58 post Jj (nI j) Bdl Bct (d + 1) (nI i) Btd Bnw Bkp Bdr Bdn Bhd Bsz at' nt Bbd := by
  intro d
  induction d with
  | zero =>
    intro i ba bn hi hm
    have e : i = 3 := by omega
    subst e
    exact br_t (by decide) (nm_r (nI_1 j) (K ba bn hm))
  | succ d ih =>
    intro i ba bn hi hm
    have ep : 3 * nI j + nI i = nI (3 * j + i) := by rw [sr_m3, nI_add]
    have eq : 3 * nI j + 3 + nI i = nI (3 * j + i + 3) := by rw [sr_m3, sr_a3, nI_add, show 3 * j + 3 + i = 3 * j + i + 3 by omega]
    have e1 : (nI (3 * j + i)).toNatClampNeg = 3 * j + i := nI_clamp (by omega)
    have e2 : (nI (3 * j + i + 3)).toNatClampNeg = 3 * j + i + 3 := nI_clamp (by omega)
    have q1 : vp_in (nI (3 * j + i)) 42 := vp_in_nI (by omega) (by decide)
    have q2 : vp_in (nI (3 * j + i + 3)) 42 := vp_in_nI (by omega) (by decide)
    refine br_f (nI_ge (b := 3) (by omega) (by decide)) ?_
    rw [ep, eq, e1, e2]
    exact ⟨q2, q1, nm_e ⟨q2, q1, nm_e (nm_r (nI_1 i) (ih (i + 1) _ _ (by omega) (sr_mvd_s (by omega) hm)))⟩⟩
theorem sr_y_drl {post : Int32 → SY → Prop} {c q : Nat} {R : Nat → sr_R} (hc : c < 14) (K : ∀ hd sz at' nt, (∀ r, r < c → sr_r2 r (sr_dr R q r) hd sz at' nt) → post (nI c) (Bdl, (nI c), Btd, Bnw, Bkp, Bdr, Bdn, hd, sz, at', nt, Bbd)) : ∀ d j hd sz at' nt, j + d = c → q ≤ j → sr_i2 R q c j hd sz at' nt → wY_drop_12 post Bdl (nI (c + 1)) (d + 1) (nI j) Btd Bnw Bkp Bdr Bdn hd sz at' nt Bbd := by
  intro d
  induction d with
  | zero =>
    intro j hd sz at' nt hj hq hi
    have e : j = c := by omega
    subst e
    refine br_t ?_ (nm_r (nI_pred j) (K hd sz at' nt hi.1))
    rw [nI_pred]
    exact nI_le (Nat.le_refl _) (by omega)
  | succ d ih =>
    intro j hd sz at' nt hj hq hi
    have e1 : (nI j).toNatClampNeg = j := nI_clamp (by omega)
    have e2 : (nI (j + 1)).toNatClampNeg = j + 1 := nI_clamp (by omega)
    have q1 : vp_in (nI j) 14 := vp_in_nI (by omega) (by decide)
    have q2 : vp_in (nI (j + 1)) 14 := vp_in_nI (by omega) (by decide)
    refine br_f ?_ (br_f (nI_ge (b := 13) (by omega) (by decide)) ?_)
    · rw [nI_pred]
      exact nI_ge (by omega) (by omega)
    · rw [nI_1 j, e1, e2]
      exact ⟨q2, q1, nm_e ⟨q2, q1, nm_e ⟨4, sr_y_d58 (by omega) (fun at2 nt2 hm => ih (j + 1) _ _ _ _ (by omega) (by omega) (sr_i2_s hq (by omega) hi hm)) 3 0 at' nt rfl (sr_mvd_0 j at' nt)⟩⟩⟩
theorem i_vc_drop {k : Nat} {u : SX} {v : SY} (I : i_Rel k u v) (hk : k + 5 ≤ 2560) (v1 : Int32) : wpX_drop (fun r u' => wpY_drop (fun r' v' => r' = r ∧ i_Rel (k + 5) u' v') v v1) u v1 := by
  have J := i_up I
  obtain ⟨c, d, G, H, R, A, N, I⟩ := I
  obtain ⟨Fdl, Frc, Agf, Ahf, Afw, Ada, Adn, Aba, Abn, Abl, Ahd, Avr, Att⟩ := u
  obtain ⟨Bdl, Bct, Btd, Bnw, Bkp, Bdr, Bdn, Bhd, Bsz, Bat, Bnt, Bbd⟩ := v
  obtain ⟨rfl, rfl, rfl, rfl, hc, hd, hG, hG', hH, hD, hR, hR', ht, hA, hA'⟩ := I
  unfold wpX_drop wpY_drop
  dsimp only
  by_cases g1 : sr_gd c v1
  · obtain ⟨q, hq, rfl⟩ := g1
    obtain ⟨c, rfl⟩ : ∃ c', c = c' + 1 := ⟨c - 1, by omega⟩
    refine sr_x_iug hc hq (br_f (by decide) (nm_r (nI_pred c) ⟨c - q + 1, sr_x_drl (q := q) (R := R) (by omega) ht hG (fun t F T hd' bl ba bn vr ht' hb' hdn hR1 => ?_) (c - q) q Ahd Abl Aba Abn Avr (by omega) (Nat.le_refl _) (sr_i1_0 hq hR)⟩))
    refine sr_y_bug hc hq (br_t rfl ⟨c - q + 1, sr_y_drl (q := q) (R := R) (by omega) (fun hd2 sz at' nt hR2 => ⟨rfl, ?_⟩) (c - q) q Bhd Bsz Bat Bnt (by omega) (Nat.le_refl _) (sr_i2_0 hq hR')⟩)
    exact ⟨c, d, G, T, sr_dr R q, A, N, rfl, rfl, rfl, rfl, by omega, hd, hG, hG', hb', hdn, hR1, hR2, ht', hA, hA'⟩
  · exact sr_x_iub hc g1 (br_t rfl (sr_y_bub hc g1 (br_f (by decide) ⟨rfl, J⟩)))
end
