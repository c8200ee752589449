section
variable {Fdl Frc : Int32} {Agf Ahf Afw : Nat → Int64} {Ada Adn Aba Abn Abl Ahd Avr Att : Nat → Int32}
variable {Bdl Bct : Int32} {Btd Bnw Bkp Bdr Bdn Bhd Bsz Bat Bnt Bbd : Nat → Int32}
theorem i_vc_rules {k : Nat} {u : SX} {v : SY} (I : i_Rel k u v) (hk : k + 5 ≤ 2560) : wpX_rules (fun r => wpY_rules (fun r' => r' = r ∧ i_Rel (k + 5) u v) v) u := by
  have J := i_up I
  obtain ⟨c, d, G, H, R, A, N, I⟩ := I
  obtain ⟨Fdl, Frc, Agf, Ahf, Afw, Ada, Adn, Aba, Abn, Abl, Ahd, Avr, Att⟩ := u
  obtain ⟨Bdl, Bct, Btd, Bnw, Bkp, Bdr, Bdn, Bhd, Bsz, Bat, Bnt, Bbd⟩ := v
  obtain ⟨rfl, rfl, rfl, rfl, I⟩ := I
  exact ⟨rfl, J⟩
theorem i_vc_blank {k : Nat} {u : SX} {v : SY} (I : i_Rel k u v) (hk : k + 5 ≤ 2560) : wpX_blank (fun r u' => wpY_blank (fun r' v' => r' = r ∧ i_Rel (k + 5) u' v') v) u := by
  obtain ⟨c, d, G, H, R, A, N, I⟩ := I
  obtain ⟨Fdl, Frc, Agf, Ahf, Afw, Ada, Adn, Aba, Abn, Abl, Ahd, Avr, Att⟩ := u
  obtain ⟨Bdl, Bct, Btd, Bnw, Bkp, Bdr, Bdn, Bhd, Bsz, Bat, Bnt, Bbd⟩ := v
  obtain ⟨rfl, rfl, rfl, rfl, hc, hd, hG, hG', hH, hD, hR, hR', ht, hA, hA'⟩ := I
  exact ⟨rfl, c, 0, G, H, R, A, N, rfl, rfl, rfl, rfl, hc, Nat.zero_le _, hG, hG', hH, hD, hR, hR', ht, (fun i hi => absurd hi (Nat.not_lt_zero i)), (fun i hi => absurd hi (Nat.not_lt_zero i))⟩
theorem i_vc_given {k : Nat} {u : SX} {v : SY} (I : i_Rel k u v) (hk : k + 5 ≤ 2560) (v1 : Int32) (v2 : Int32) (v3 : Int32) : wpX_given (fun r => wpY_given (fun r' => r' = r ∧ i_Rel (k + 5) u v) v v1 v2 v3) u v1 v2 v3 := by
  have J := i_up I
  obtain ⟨c, d, G, H, R, A, N, I⟩ := I
  obtain ⟨Fdl, Frc, Agf, Ahf, Afw, Ada, Adn, Aba, Abn, Abl, Ahd, Avr, Att⟩ := u
  obtain ⟨Bdl, Bct, Btd, Bnw, Bkp, Bdr, Bdn, Bhd, Bsz, Bat, Bnt, Bbd⟩ := v
  obtain ⟨rfl, rfl, rfl, rfl, hc, hd, hG, hG', hH, hD, hR, hR', ht, hA, hA'⟩ := I
  unfold wpX_given wpX_lookUp__givenFacts wpY_given
  dsimp only
  by_cases g1 : sr_gd 8 v1
  · obtain ⟨r, hr, rfl⟩ := g1
    by_cases g2 : sr_gd 6 v2
    · obtain ⟨x, hx, rfl⟩ := g2
      by_cases g3 : sr_gd 6 v3
      · obtain ⟨y, hy, rfl⟩ := g3
        refine sr_x_irg hr (br_f (by decide) (sr_x_itg hx (br_f (by decide) (sr_x_itg hy (br_f (by decide) ⟨vp_in_nI hr (by decide), ?_⟩)))))
        rw [sr_p2, nI_clamp (by omega)]
        refine sr_x_mem (by omega) ?_
        rw [sr_bx_l hG hr (by omega)]
        refine sr_y_bdg hr (br_t rfl (sr_y_btg hx (br_t rfl (sr_y_btg hy (br_t rfl ?_)))))
        rw [sr_p3, nI_clamp (by omega), hG' _ (by omega)]
        refine ⟨vp_in_nI (by omega) (by decide), sr_if sr_bI_0 (fun z => ⟨?_, J⟩) (fun z => ⟨?_, J⟩)⟩
        · rw [z]; rfl
        · rw [show G (36 * r + (6 * x + y)) = true by simpa using z]; rfl
      · exact sr_x_irg hr (br_f (by decide) (sr_x_itg hx (br_f (by decide) (sr_x_itb g3 (br_t rfl (sr_y_bdg hr (br_t rfl (sr_y_btg hx (br_t rfl (sr_y_btb g3 (br_f (by decide) ⟨rfl, J⟩)))))))))))
    · exact sr_x_irg hr (br_f (by decide) (sr_x_itb g2 (br_t rfl (sr_y_bdg hr (br_t rfl (sr_y_btb g2 (br_f (by decide) ⟨rfl, J⟩)))))))
  · exact sr_x_irb g1 (br_t rfl (sr_y_bdb g1 (br_f (by decide) ⟨rfl, J⟩)))
theorem i_vc_holds {k : Nat} {u : SX} {v : SY} (I : i_Rel k u v) (hk : k + 5 ≤ 2560) (v1 : Int32) (v2 : Int32) (v3 : Int32) : wpX_holds (fun r => wpY_holds (fun r' v' => r' = r ∧ i_Rel (k + 5) u v') v v1 v2 v3) u v1 v2 v3 := by
  have J := i_up I
  obtain ⟨c, d, G, H, R, A, N, I⟩ := I
  obtain ⟨Fdl, Frc, Agf, Ahf, Afw, Ada, Adn, Aba, Abn, Abl, Ahd, Avr, Att⟩ := u
  obtain ⟨Bdl, Bct, Btd, Bnw, Bkp, Bdr, Bdn, Bhd, Bsz, Bat, Bnt, Bbd⟩ := v
  obtain ⟨rfl, rfl, rfl, rfl, hc, hd, hG, hG', hH, hD, hR, hR', ht, hA, hA'⟩ := I
  unfold wpX_holds wpX_lookUp__heldFacts wpY_holds
  dsimp only
  by_cases g1 : sr_gd 8 v1
  · obtain ⟨r, hr, rfl⟩ := g1
    by_cases g2 : sr_gd 6 v2
    · obtain ⟨x, hx, rfl⟩ := g2
      by_cases g3 : sr_gd 6 v3
      · obtain ⟨y, hy, rfl⟩ := g3
        refine sr_x_irg hr (br_f (by decide) (sr_x_itg hx (br_f (by decide) (sr_x_itg hy (br_f (by decide) ⟨vp_in_nI hr (by decide), ?_⟩)))))
        rw [sr_p2, nI_clamp (by omega)]
        refine sr_x_mem (by omega) ?_
        rw [sr_bx_l hH hr (by omega)]
        refine sr_y_bdg hr (br_t rfl (sr_y_btg hx (br_t rfl (sr_y_btg hy (br_t rfl (sr_y_wk hc rfl sr_lom hR' hG' (fun t F T hb hd' => ?_)))))))
        have e := sr_dn_u hd' hD
        subst e
        dsimp only
        rw [sr_p3, nI_clamp (by omega), hb _ (by omega)]
        refine ⟨vp_in_nI (by omega) (by decide), sr_if sr_bI_0 (fun z => ⟨?_, c, d, G, T, R, A, N, rfl, rfl, rfl, rfl, hc, hd, hG, hG', hH, hD, hR, hR', ht, hA, hA'⟩) (fun z => ⟨?_, c, d, G, T, R, A, N, rfl, rfl, rfl, rfl, hc, hd, hG, hG', hH, hD, hR, hR', ht, hA, hA'⟩)⟩
        · rw [z]; rfl
        · rw [show T (36 * r + (6 * x + y)) = true by simpa using z]; rfl
      · exact sr_x_irg hr (br_f (by decide) (sr_x_itg hx (br_f (by decide) (sr_x_itb g3 (br_t rfl (sr_y_bdg hr (br_t rfl (sr_y_btg hx (br_t rfl (sr_y_btb g3 (br_f (by decide) ⟨rfl, J⟩)))))))))))
    · exact sr_x_irg hr (br_f (by decide) (sr_x_itb g2 (br_t rfl (sr_y_bdg hr (br_t rfl (sr_y_btb g2 (br_f (by decide) ⟨rfl, J⟩)))))))
  · exact sr_x_irb g1 (br_t rfl (sr_y_bdb g1 (br_f (by decide) ⟨rfl, J⟩)))
theorem i_vc_size {k : Nat} {u : SX} {v : SY} (I : i_Rel k u v) (hk : k + 5 ≤ 2560) (v1 : Int32) : wpX_size (fun r => wpY_size (fun r' v' => r' = r ∧ i_Rel (k + 5) u v') v v1) u v1 := by
  have J := i_up I
  obtain ⟨c, d, G, H, R, A, N, I⟩ := I
  obtain ⟨Fdl, Frc, Agf, Ahf, Afw, Ada, Adn, Aba, Abn, Abl, Ahd, Avr, Att⟩ := u
  obtain ⟨Bdl, Bct, Btd, Bnw, Bkp, Bdr, Bdn, Bhd, Bsz, Bat, Bnt, Bbd⟩ := v
  obtain ⟨rfl, rfl, rfl, rfl, hc, hd, hG, hG', hH, hD, hR, hR', ht, hA, hA'⟩ := I
  unfold wpX_size wpY_size
  dsimp only
  by_cases g1 : sr_gd 8 v1
  · obtain ⟨r, hr, rfl⟩ := g1
    refine sr_x_irg hr (br_f (by decide) ⟨vp_in_nI hr (by decide), ?_⟩)
    rw [nI_clamp (by omega)]
    refine sr_x_cnt ?_
    rw [sr_cn_bx hH hr]
    refine sr_y_bdg hr (br_t rfl (sr_y_wk hc rfl sr_lom hR' hG' (fun t F T hb hd' => ?_)))
    have e := sr_dn_u hd' hD
    subst e
    exact ⟨37, sr_y_szl hr hb ⟨rfl, c, d, G, T, R, A, N, rfl, rfl, rfl, rfl, hc, hd, hG, hG', hH, hD, hR, hR', ht, hA, hA'⟩ 36 0 rfl⟩
  · exact sr_x_irb g1 (br_t rfl (sr_y_bdb g1 (br_f (by decide) ⟨rfl, J⟩)))
end
