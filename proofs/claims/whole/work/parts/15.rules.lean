section
variable {Fdl Frc : Int32} {Agf Ahf Afw : Nat → Int64} {Ada Adn Aba Abn Abl Ahd Avr Att : Nat → Int32}
variable {Bdl Bct : Int32} {Btd Bnw Bkp Bdr Bdn Bhd Bsz Bat Bnt Bbd : Nat → Int32}
theorem sr_x_wyl {post : Int32 → SX → Prop} {r : Nat} {ρ : sr_R} {T : Nat → Bool} (hr : r < 14) (h1 : sr_r1 r ρ Ahd Abl Aba Abn Avr) (hb : sr_bx Ahf T) (K : ∀ t, sr_tt t → post (nI (sr_cn (fun w => sr_met ρ T w) (sr_nb ρ))) (Fdl, Frc, Agf, Ahf, Afw, Ada, Adn, Aba, Abn, Abl, Ahd, Avr, t)) : ∀ d j t, j + d = sr_nb ρ → sr_tt t → wX_ways_21 post (nI r) (nI (sr_nb ρ)) (d + 1) (nI (sr_cn (fun w => sr_met ρ T w) j)) (nI j) Fdl Frc Agf Ahf Afw Ada Adn Aba Abn Abl Ahd Avr t := by
  have hnb := sr_nb_le ρ
  intro d
  induction d with
  | zero =>
    intro j t hj ht
    have e : j = sr_nb ρ := by omega
    subst e
    exact br_t (nI_le (Nat.le_refl _) (by omega)) (K t ht)
  | succ d ih =>
    intro j t hj ht
    refine br_f (nI_ge (by omega) (by omega)) (sr_x_ag hr (sr_mk_lt ρ) h1.2.2.2.1 (by omega) ht (fun t' ht' htw => ?_))
    refine sr_x_bmH hr h1 hb htw ?_
    have k := ih (j + 1) t' (by omega) ht'
    simp only [sr_cn] at k
    refine sr_if sr_bI_0 (fun z => ?_) (fun z => ?_)
    · rw [if_neg (by rw [z]; decide), Nat.add_zero] at k
      exact nm_r (nI_1 j) k
    · rw [if_pos (by simpa using z)] at k
      exact nm_r (nI_1 _) (nm_r (nI_1 j) k)
theorem sr_y_tla {post : Int32 → SY → Prop} {r : Nat} {ρ : sr_R} {T : Nat → Bool} {fa : Int32} (hr : r < 14) (h1 : sr_r2 r ρ Bhd Bsz Bat Bnt) (hb : sr_by Bnw T) (hf : fa < 0) (K : ∀ t, post (nI (sr_cn (fun w => sr_met ρ T w) (sr_nb ρ))) (Bdl, Bct, Btd, Bnw, Bkp, Bdr, Bdn, Bhd, Bsz, Bat, Bnt, t)) : ∀ d j t, j + d = sr_nb ρ → wY_tally_24 post (nI r) fa (nI (sr_mk ρ)) (nI (sr_nb ρ)) (d + 1) (nI (sr_cn (fun w => sr_met ρ T w) j)) (nI j) Bdl Bct Btd Bnw Bkp Bdr Bdn Bhd Bsz Bat Bnt t := by
  have hnb := sr_nb_le ρ
  intro d
  induction d with
  | zero =>
    intro j t hj
    have e : j = sr_nb ρ := by omega
    subst e
    exact br_t (nI_le (Nat.le_refl _) (by omega)) (K t)
  | succ d ih =>
    intro j t hj
    refine br_f (nI_ge (by omega) (by omega)) (sr_y_bnd (sr_mk_lt _) (by omega) (fun t' ht' => ?_))
    refine sr_y_bh hr h1 hb ht' ?_
    have k := ih (j + 1) t' (by omega)
    simp only [sr_cn] at k
    refine sr_if sr_bI_0 (fun z => ?_) (fun z => br_t hf ?_)
    · rw [if_neg (by rw [z]; decide), Nat.add_zero] at k
      exact nm_r (nI_1 j) k
    · rw [if_pos (by simpa using z)] at k
      exact nm_r (nI_1 _) (nm_r (nI_1 j) k)
theorem sr_y_tlb {post : Int32 → SY → Prop} {r f : Nat} {ρ : sr_R} {T : Nat → Bool} (hr : r < 14) (h1 : sr_r2 r ρ Bhd Bsz Bat Bnt) (hb : sr_by Bnw T) (hf : f < 36) (K : ∀ t, post (nI (sr_cn (fun w => sr_met ρ T w && decide (sr_ft (sr_mk ρ) w ρ.1 = f)) (sr_nb ρ))) (Bdl, Bct, Btd, Bnw, Bkp, Bdr, Bdn, Bhd, Bsz, Bat, Bnt, t)) : ∀ d j t, j + d = sr_nb ρ → wY_tally_24 post (nI r) (nI f) (nI (sr_mk ρ)) (nI (sr_nb ρ)) (d + 1) (nI (sr_cn (fun w => sr_met ρ T w && decide (sr_ft (sr_mk ρ) w ρ.1 = f)) j)) (nI j) Bdl Bct Btd Bnw Bkp Bdr Bdn Bhd Bsz Bat Bnt t := by
  have hnb := sr_nb_le ρ
  intro d
  induction d with
  | zero =>
    intro j t hj
    have e : j = sr_nb ρ := by omega
    subst e
    exact br_t (nI_le (Nat.le_refl _) (by omega)) (K t)
  | succ d ih =>
    intro j t hj
    refine br_f (nI_ge (by omega) (by omega)) (sr_y_bnd (sr_mk_lt _) (by omega) (fun t' ht' => ?_))
    refine sr_y_bh hr h1 hb ht' ?_
    have k := ih (j + 1) t' (by omega)
    simp only [sr_cn] at k
    refine sr_if sr_bI_0 (fun z => ?_) (fun z => br_f (nI_pos (by omega)) ⟨vp_in_nI hr (by decide), ?_⟩)
    · rw [if_neg (by rw [z]; simp), Nat.add_zero] at k
      exact nm_r (nI_1 j) k
    · have h800 := h1.1.1
      have eh : Bhd (nI r).toNatClampNeg = nI ρ.1 := by rw [nI_clamp (by omega)]; exact h1.2.1
      have hpl := sr_pl_lt (m := sr_mk ρ) (w := j) h800
      have hft := sr_ft_lt (sr_mk ρ) j ρ.1
      have em : sr_pl (sr_mk ρ) j ρ.1 % 36 = sr_ft (sr_mk ρ) j ρ.1 := by unfold sr_pl; omega
      have z' : sr_met ρ T j = true := by simpa using z
      rw [eh]
      refine sr_y_plc h800 ht' ⟨by decide, ?_⟩
      rw [sr_r36 (by omega), em]
      refine sr_if (nI_eq (by omega) (by omega)) (fun y => ?_) (fun y => ?_)
      · rw [if_pos (by rw [z', y]; simp)] at k
        exact nm_r (nI_1 _) (nm_r (nI_1 j) k)
      · rw [if_neg (by rw [z']; simpa using y), Nat.add_zero] at k
        exact nm_r (nI_1 j) k
theorem i_vc_ways {k : Nat} {u : SX} {v : SY} (I : i_Rel k u v) (hk : k + 5 ≤ 2560) (v1 : Int32) : wpX_ways (fun r u' => wpY_ways (fun r' v' => r' = r ∧ i_Rel (k + 5) u' v') v v1) u v1 := by
  have J := i_up I
  obtain ⟨c, d, G, H, R, A, N, I⟩ := I
  obtain ⟨Fdl, Frc, Agf, Ahf, Afw, Ada, Adn, Aba, Abn, Abl, Ahd, Avr, Att⟩ := u
  obtain ⟨Bdl, Bct, Btd, Bnw, Bkp, Bdr, Bdn, Bhd, Bsz, Bat, Bnt, Bbd⟩ := v
  obtain ⟨rfl, rfl, rfl, rfl, hc, hd, hG, hG', hH, hD, hR, hR', ht, hA, hA'⟩ := I
  unfold wpX_ways wpY_ways
  dsimp only
  by_cases g1 : sr_gd c v1
  · obtain ⟨r, hr, rfl⟩ := g1
    have h1 := hR r hr
    have h2 := hR' r hr
    refine sr_x_iug hc hr (br_f (by decide) (sr_x_asn (by omega) (sr_mk_lt _) h1.2.2.2.1 ⟨sr_nb (R r) + 1, sr_x_wyl (by omega) h1 hH (fun t ht' => ?_) (sr_nb (R r)) 0 Att (by omega) ht⟩))
    refine sr_y_bug hc hr (br_t rfl ?_)
    unfold wpY_tally
    refine sr_y_wk hc rfl sr_lom hR' hG' (fun t F T hb hd' => ?_)
    have e := sr_dn_u hd' hD
    subst e
    refine sr_y_occ (by omega) h2 (sr_y_num (sr_mk_lt _) ⟨sr_nb (R r) + 1, sr_y_tla (by omega) h2 hb (by decide) (fun t' => ⟨rfl, ?_⟩) (sr_nb (R r)) 0 t (by omega)⟩)
    exact ⟨c, d, G, T, R, A, N, rfl, rfl, rfl, rfl, hc, hd, hG, hG', hH, hD, hR, hR', ht', hA, hA'⟩
  · exact sr_x_iub hc g1 (br_t rfl (sr_y_bub hc g1 (br_f (by decide) ⟨rfl, J⟩)))
theorem i_vc_supports {k : Nat} {u : SX} {v : SY} (I : i_Rel k u v) (hk : k + 5 ≤ 2560) (v1 : Int32) (v2 : Int32) : wpX_supports (fun r u' => wpY_supports (fun r' v' => r' = r ∧ i_Rel (k + 5) u' v') v v1 v2) u v1 v2 := by
  have J := i_up I
  obtain ⟨c, d, G, H, R, A, N, I⟩ := I
  obtain ⟨Fdl, Frc, Agf, Ahf, Afw, Ada, Adn, Aba, Abn, Abl, Ahd, Avr, Att⟩ := u
  obtain ⟨Bdl, Bct, Btd, Bnw, Bkp, Bdr, Bdn, Bhd, Bsz, Bat, Bnt, Bbd⟩ := v
  obtain ⟨rfl, rfl, rfl, rfl, hc, hd, hG, hG', hH, hD, hR, hR', ht, hA, hA'⟩ := I
  unfold wpX_supports wpY_supports
  dsimp only
  by_cases g1 : sr_gd c v1
  · obtain ⟨r, hr, rfl⟩ := g1
    have h1 := hR r hr
    have h2 := hR' r hr
    by_cases g2 : sr_gd 36 v2
    · obtain ⟨f, hf, rfl⟩ := g2
      have p0 : ¬ nI f < 0 := nI_pos (by omega)
      have p1 : nI f < 36 := nI_lt (b := 36) hf (by decide)
      have p2 : nI f ≤ 35 := nI_le (b := 35) (by omega) (by decide)
      have hnb := sr_nb_le (R r)
      refine sr_x_iug hc hr (br_f (by decide) (br_f p0 (br_t p1 (sr_x_hdH (by omega) h1 hH ht (fun t h ht' hh => ?_)))))
      refine sr_x_mem (by omega) ?_
      refine sr_y_bug hc hr (br_t rfl (br_f p0 (br_t p2 ?_)))
      unfold wpY_tally
      refine sr_y_wk hc rfl sr_lom hR' hG' (fun t' F T hb hd' => ?_)
      have e := sr_dn_u hd' hD
      subst e
      refine sr_y_occ (by omega) h2 (sr_y_num (sr_mk_lt _) ⟨sr_nb (R r) + 1, sr_y_tlb (by omega) h2 hb hf (fun t'' => ?_) (sr_nb (R r)) 0 t' (by omega)⟩)
      have hcn := sr_cn_le (fun w => sr_met (R r) T w && decide (sr_ft (sr_mk (R r)) w (R r).1 = f)) (sr_nb (R r))
      have hps := sr_cn_pos (f := fun w => sr_met (R r) T w && decide (sr_ft (sr_mk (R r)) w (R r).1 = f)) (n := sr_nb (R r))
      have hq := hh f (by omega)
      dsimp only
      refine pk_le _ 0 (fun z => ⟨?_, ?_⟩) (fun z => ⟨?_, ?_⟩) (ha := by omega)
      · cases e : sr_lb h f with
        | false => rfl
        | true =>
          obtain ⟨w, hw, m, y⟩ := hq.mp e
          have := hps.mpr ⟨w, hw, by simp [m, y]⟩
          omega
      · exact ⟨c, d, G, T, R, A, N, rfl, rfl, rfl, rfl, hc, hd, hG, hG', hH, hD, hR, hR', ht', hA, hA'⟩
      · obtain ⟨w, hw, y⟩ := hps.mp z
        rw [Bool.and_eq_true, decide_eq_true_iff] at y
        rw [hq.mpr ⟨w, hw, y⟩]
        rfl
      · exact ⟨c, d, G, T, R, A, N, rfl, rfl, rfl, rfl, hc, hd, hG, hG', hH, hD, hR, hR', ht', hA, hA'⟩
    · refine sr_x_iug hc hr (br_f (by decide) (br_c (fun z => ?_) (fun z => br_f (sr_gd_n (n := 36) (by decide) g2 z) ?_)))
      · exact sr_y_bug hc hr (br_t rfl (br_t z ⟨rfl, J⟩))
      · exact sr_y_bug hc hr (br_t rfl (br_f z (br_f (sr_le_of (sr_gd_n (n := 36) (by decide) g2 z) (by decide)) ⟨rfl, J⟩)))
  · exact sr_x_iub hc g1 (br_t rfl (sr_y_bub hc g1 (br_f (by decide) ⟨rfl, J⟩)))
theorem sr_x_wgl {post : Int32 → SX → Prop} {H T : Nat → Bool} (hH : sr_bx Ahf H) (hT : sr_bx Afw T) (h : post (nI (sr_cn (fun p => H p ^^ T p) (36 * 8))) (Fdl, Frc, Agf, Ahf, Afw, Ada, Adn, Aba, Abn, Abl, Ahd, Avr, Att)) : ∀ d v, v + d = 8 → wX_weight_23 post Fdl Frc Agf Ahf Afw Ada Adn Aba Abn Abl Ahd Avr Att (d + 1) (nI (sr_cn (fun p => H p ^^ T p) (36 * v))) (nI v) := by
  intro d
  induction d with
  | zero =>
    intro v hv
    have e : v = 8 := by omega
    subst e
    exact br_t (by decide) h
  | succ d ih =>
    intro v hv
    have k := ih (v + 1) (by omega)
    refine br_f (nI_ge (b := 8) (by omega) (by decide)) ⟨vp_in_nI (by omega) (by decide), vp_in_nI (by omega) (by decide), ?_⟩
    rw [nI_clamp (by omega)]
    refine sr_x_cnt (nm_r (e' := nI (sr_cn (fun p => H p ^^ T p) (36 * (v + 1)))) ?_ (nm_r (nI_1 v) k))
    rw [nI_add, show 36 * (v + 1) = 36 * v + 36 by omega, sr_cn_add]
    refine congrArg (fun z => nI (_ + z)) (sr_cn_eq fun f hf => ?_)
    rw [sr_lb_xor, sr_bx_l hH (by omega) hf, sr_bx_l hT (by omega) hf]
theorem sr_y_wgl {post : Int32 → SY → Prop} {H T : Nat → Bool} (hK : sr_by Bkp H) (hb : sr_by Bnw T) (h : post (nI (sr_cn (fun p => H p ^^ T p) 288)) (Bdl, Bct, Btd, Bnw, Bkp, Bdr, Bdn, Bhd, Bsz, Bat, Bnt, Bbd)) : ∀ d v, v + d = 288 → wY_weight_51 post Bdl Bct Btd Bnw Bkp Bdr Bdn Bhd Bsz Bat Bnt Bbd (d + 1) (nI (sr_cn (fun p => H p ^^ T p) v)) (nI v) := by
  intro d
  induction d with
  | zero =>
    intro v hv
    have e : v = 288 := by omega
    subst e
    exact br_t (by decide) h
  | succ d ih =>
    intro v hv
    have k := ih (v + 1) (by omega)
    simp only [sr_cn] at k
    refine br_f (nI_ge (b := 288) (by omega) (by decide)) ⟨vp_in_nI (by omega) (by decide), vp_in_nI (by omega) (by decide), ?_⟩
    rw [nI_clamp (by omega), hb _ (by omega), hK _ (by omega)]
    refine sr_if sr_bI_i (fun z => ?_) (fun z => ?_)
    · rw [if_neg (by rw [z]; simp), Nat.add_zero] at k
      exact nm_r (nI_1 v) k
    · rw [if_pos (by cases e1 : H v <;> cases e2 : T v <;> simp_all)] at k
      exact nm_r (nI_1 _) (nm_r (nI_1 v) k)
theorem sr_y_kpl {post : Int32 → SY → Prop} {c r : Nat} {R : Nat → sr_R} {G H : Nat → Bool} (hc : c ≤ 14) (hct : Bct = nI c) (hr : r < c) (hR : ∀ r, r < c → sr_r2 r (R r) Bhd Bsz Bat Bnt) (hG : sr_by Btd G) (hb : sr_by Bnw H) (K : ∀ t E F T, sr_dn R c r G 4 T → post (nI (sr_cn (fun p => H p ^^ T p) 288)) (Bdl, Bct, Btd, F, E, Bdr, Bdn, Bhd, Bsz, Bat, Bnt, t)) : ∀ d i E, i + d = 288 → (∀ p, p < i → E p = sr_bI (H p)) → wY_weight_17 post (nI r) Bdl Bct (d + 1) (nI i) Btd Bnw E Bdr Bdn Bhd Bsz Bat Bnt Bbd := by
  intro d
  induction d with
  | zero =>
    intro i E hi hE
    have e : i = 288 := by omega
    subst e
    refine br_t (by decide) (sr_y_wk hc hct (sr_lor (by omega)) hR hG (fun t F T hb' hd' => ?_))
    exact ⟨289, sr_y_wgl hE hb' (K t E F T hd') 288 0 rfl⟩
  | succ d ih =>
    intro i E hi hE
    refine br_f (nI_ge (b := 288) (by omega) (by decide)) ⟨vp_in_nI (by omega) (by decide), vp_in_nI (by omega) (by decide), nm_r (e' := upd E i (sr_bI (H i))) ?_ (nm_r (nI_1 i) (ih (i + 1) _ (by omega) ?_))⟩
    · rw [nI_clamp (by omega), hb i (by omega), sr_nar]
    · intro p hp
      by_cases z : p = i
      · subst z; rw [pk_us]
      · rw [pk_un z]; exact hE p (by omega)
theorem i_vc_weight {k : Nat} {u : SX} {v : SY} (I : i_Rel k u v) (hk : k + 5 ≤ 2560) (v1 : Int32) : wpX_weight (fun r u' => wpY_weight (fun r' v' => r' = r ∧ i_Rel (k + 5) u' v') v v1) u v1 := by
  have J := i_up I
  obtain ⟨c, d, G, H, R, A, N, I⟩ := I
  obtain ⟨Fdl, Frc, Agf, Ahf, Afw, Ada, Adn, Aba, Abn, Abl, Ahd, Avr, Att⟩ := u
  obtain ⟨Bdl, Bct, Btd, Bnw, Bkp, Bdr, Bdn, Bhd, Bsz, Bat, Bnt, Bbd⟩ := v
  obtain ⟨rfl, rfl, rfl, rfl, hc, hd, hG, hG', hH, hD, hR, hR', ht, hA, hA'⟩ := I
  unfold wpX_weight wpY_weight
  dsimp only
  by_cases g1 : sr_gd c v1
  · obtain ⟨r, hr, rfl⟩ := g1
    refine sr_x_iug hc hr (br_f (by decide) (sr_x_dW hc rfl (sr_lor (by omega)) hR ht hG (fun t F T ht' hb' hd' => ?_)))
    refine ⟨9, sr_x_wgl hH hb' ?_ 8 0 rfl⟩
    refine sr_y_bug hc hr (br_t rfl (sr_y_wk hc rfl sr_lom hR' hG' (fun t2 F2 T2 hb2 hd2 => ?_)))
    have e := sr_dn_u hd2 hD
    subst e
    refine ⟨289, sr_y_kpl hc rfl hr hR' hG' hb2 (fun t3 E F3 T3 hd3 => ?_) 288 0 Bkp rfl lt_0⟩
    have e := sr_dn_u hd3 hd'
    subst e
    exact ⟨rfl, c, d, G, T2, R, A, N, rfl, rfl, rfl, rfl, hc, hd, hG, hG', hH, hD, hR, hR', ht', hA, hA'⟩
  · exact sr_x_iub hc g1 (br_t rfl (sr_y_bub hc g1 (br_f (by decide) ⟨rfl, J⟩)))
end
