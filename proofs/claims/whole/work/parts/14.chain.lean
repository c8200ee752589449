section
variable {Fdl Frc : Int32} {Agf Ahf Afw : Nat → Int64} {Ada Adn Aba Abn Abl Ahd Avr Att : Nat → Int32}
variable {Bdl Bct : Int32} {Btd Bnw Bkp Bdr Bdn Bhd Bsz Bat Bnt Bbd : Nat → Int32}
theorem sr_x_chn {post : Int32 → SX → Prop} {c r x s n : Nat} {R : Nat → sr_R} {G : Nat → Bool} (hc : c ≤ 14) (hrc : Frc = nI c) (hR : ∀ r, r < c → sr_r1 r (R r) Ahd Abl Aba Abn Avr) (ht : sr_tt Att) (hr : r < 8) (hx : x < 6) (hs : s ≤ 5) (hn : n ≤ 6) (K : ∀ t E F T, sr_tt t → sr_bx E (sr_ch G r x s n) → sr_bx F T → sr_dn R c 14 (sr_ch G r x s n) 4 T → post (nI (sr_cn (fun f => sr_ch G r x s n (36 * r + f)) 36)) (Fdl, Frc, E, F, Afw, Ada, Adn, Aba, Abn, Abl, Ahd, Avr, t)) : ∀ d i E, i + d = n → sr_bx E (sr_ch G r x s i) → wX_chain_63 post (nI r) (nI x) (nI s) (nI n) Fdl Frc (d + 1) (nI i) E Ahf Afw Ada Adn Aba Abn Abl Ahd Avr Att := by
  intro d
  induction d with
  | zero =>
    intro i E hi hb
    have e : i = n := by omega
    subst e
    refine br_t (nI_le (Nat.le_refl _) (by omega)) (sr_x_dH hc hrc sr_lom hR ht hb (fun t F T ht' hb' hd' => ⟨vp_in_nI hr (by decide), ?_⟩))
    rw [nI_clamp (by omega)]
    refine sr_x_cnt ?_
    rw [sr_cn_bx hb hr]
    exact K t E F T ht' hb hb' hd'
  | succ d ih =>
    intro i E hi hb
    have hu : (x + i) % 6 < 6 := Nat.mod_lt _ (by decide)
    have hv : (x + i + s) % 6 < 6 := Nat.mod_lt _ (by decide)
    refine br_f (nI_ge (by omega) (by omega)) ⟨by decide, nm_r (e' := nI ((x + i) % 6)) ?_ ⟨by decide, nm_r (e' := nI ((x + i + s) % 6)) ?_ ⟨vp_in_nI hr (by decide), vp_in_nI hr (by decide), nm_r (e' := vp_updL E r (E r ||| (1 : Int64) <<< ((nI (6 * ((x + i) % 6) + (x + i + s) % 6)).toInt64 &&& 63))) ?_ (nm_r (nI_1 i) (ih (i + 1) _ (by omega) (sr_bx_s hb hr (by omega))))⟩⟩⟩
    · rw [nI_add]; exact sr_r6 (by omega)
    · rw [nI_add, nI_add]; exact sr_r6 (by omega)
    · rw [nI_clamp (by omega), sr_p2]
theorem sr_y_chn {post : Int32 → SY → Prop} {r x p n : Nat} {G : Nat → Bool} (hr : r < 8) (hx : x < 6) (hp : p < 2 ^ 31) (hs : p / 8 ≤ 5) (hn : n ≤ 6) (K : ∀ E, sr_by E (sr_ch G r x (p / 8) n) → post (nI (sr_cn (fun f => sr_ch G r x (p / 8) n (36 * r + f)) 36)) (Bdl, Bct, E, Bnw, Bkp, Bdr, Bdn, Bhd, Bsz, Bat, Bnt, Bbd)) : ∀ d i E, i + d = n → sr_by E (sr_ch G r x (p / 8) i) → wY_chain_61 post (nI r) (nI x) (nI p) (nI n) Bdl Bct (d + 1) (nI i) E Bnw Bkp Bdr Bdn Bhd Bsz Bat Bnt Bbd := by
  intro d
  induction d with
  | zero =>
    intro i E hi hb
    have e : i = n := by omega
    subst e
    exact br_t (nI_le (Nat.le_refl _) (by omega)) ⟨37, sr_y_chl hr hb (K E hb) 36 0 rfl⟩
  | succ d ih =>
    intro i E hi hb
    have hu : (x + i) % 6 < 6 := Nat.mod_lt _ (by decide)
    have hv : (x + i + p / 8) % 6 < 6 := Nat.mod_lt _ (by decide)
    refine br_f (nI_ge (by omega) (by omega)) ⟨by decide, nm_r (e' := nI ((x + i) % 6)) ?_ ⟨by decide, by decide, nm_r (e' := nI ((x + i + p / 8) % 6)) ?_ ?_⟩⟩
    · rw [nI_add]; exact sr_r6 (by omega)
    · rw [sr_d8 hp, nI_add, nI_add]; exact sr_r6 (by omega)
    · have n1 : vp_nar .boolean 1 = sr_bI true := sr_nar true
      rw [sr_p3, nI_clamp (by omega), n1]
      exact ⟨vp_in_nI (by omega) (by decide), nm_e (nm_r (nI_1 i) (ih (i + 1) _ (by omega) (sr_by_s hb _ true)))⟩
theorem i_vc_chain {k : Nat} {u : SX} {v : SY} (I : i_Rel k u v) (hk : k + 5 ≤ 2560) (v1 : Int32) (v2 : Int32) (v3 : Int32) : wpX_chain (fun r u' => wpY_chain (fun r' v' => r' = r ∧ i_Rel (k + 5) u' v') v v1 v2 v3) u v1 v2 v3 := by
  have J := i_up I
  obtain ⟨c, d, G, H, R, A, N, I⟩ := I
  obtain ⟨Fdl, Frc, Agf, Ahf, Afw, Ada, Adn, Aba, Abn, Abl, Ahd, Avr, Att⟩ := u
  obtain ⟨Bdl, Bct, Btd, Bnw, Bkp, Bdr, Bdn, Bhd, Bsz, Bat, Bnt, Bbd⟩ := v
  obtain ⟨rfl, rfl, rfl, rfl, hc, hd, hG, hG', hH, hD, hR, hR', ht, hA, hA'⟩ := I
  unfold wpX_chain wpY_chain
  dsimp only
  by_cases g1 : sr_gd 8 v1
  · obtain ⟨r, hr, rfl⟩ := g1
    by_cases g2 : sr_gd 6 v2
    · obtain ⟨x, hx, rfl⟩ := g2
      by_cases h3 : v3 < 0
      · exact ⟨by decide, nm_e ⟨by decide, nm_e (sr_x_irg hr (br_f (by decide) (sr_x_itg hx (br_f (by decide) (br_t h3 (sr_y_bdg hr (br_t rfl (sr_y_btg hx (br_t rfl (br_t h3 ⟨rfl, J⟩))))))))))⟩⟩
      · obtain ⟨p, hp, rfl⟩ := nI_of h3
        have h8 : p % 8 < 8 := Nat.mod_lt _ (by decide)
        refine ⟨by decide, nm_r (sr_d8 hp) ⟨by decide, nm_r (sr_r8 hp) (sr_x_irg hr (br_f (by decide) (sr_x_itg hx (br_f (by decide) (br_f h3 ?_)))))⟩⟩
        by_cases hs : p / 8 ≤ 5
        · have s1 : nI (p / 8) ≤ 5 := nI_le (b := 5) hs (by decide)
          have s2 : nI p / 8 ≤ 5 := by rw [sr_d8 hp]; exact s1
          refine br_t s1 ?_
          by_cases h1 : p % 8 < 1
          · have q1 : nI (p % 8) < 1 := nI_lt (b := 1) h1 (by decide)
            exact br_t q1 (sr_y_bdg hr (br_t rfl (sr_y_btg hx (br_t rfl (br_f h3 ⟨by decide, br_t s2 ⟨by decide, nm_r (sr_r8 hp) (br_t q1 ⟨rfl, J⟩)⟩⟩)))))
          · have q1 : ¬ nI (p % 8) < 1 := nI_nlt (b := 1) (by omega) (by omega)
            refine br_f q1 ?_
            by_cases h6 : p % 8 ≤ 6
            · have q2 : nI (p % 8) ≤ 6 := nI_le (b := 6) h6 (by decide)
              refine br_t q2 ⟨p % 8 + 1, sr_x_chn (G := G) hc rfl hR ht hr hx hs h6 (fun t E F T ht' hE hb' hd' => ?_) (p % 8) 0 Agf (by omega) hG⟩
              refine sr_y_bdg hr (br_t rfl (sr_y_btg hx (br_t rfl (br_f h3 ⟨by decide, br_t s2 ⟨by decide, nm_r (sr_r8 hp) (br_f q1 (br_t q2 ⟨p % 8 + 1, sr_y_chn (G := G) hr hx hp hs h6 (fun E' hE' => ⟨rfl, ?_⟩) (p % 8) 0 Btd (by omega) hG'⟩))⟩⟩))))
              exact ⟨c, d, _, T, R, A, N, rfl, rfl, rfl, rfl, hc, hd, hE, hE', hb', hd', hR, hR', ht', hA, hA'⟩
            · have q2 : ¬ nI (p % 8) ≤ 6 := nI_ge (a := 6) (by omega) (by omega)
              exact br_f q2 (sr_y_bdg hr (br_t rfl (sr_y_btg hx (br_t rfl (br_f h3 ⟨by decide, br_t s2 ⟨by decide, nm_r (sr_r8 hp) (br_f q1 (br_f q2 ⟨rfl, J⟩))⟩⟩)))))
        · have s1 : ¬ nI (p / 8) ≤ 5 := nI_ge (a := 5) (by omega) (by omega)
          have s2 : ¬ nI p / 8 ≤ 5 := by rw [sr_d8 hp]; exact s1
          exact br_f s1 (sr_y_bdg hr (br_t rfl (sr_y_btg hx (br_t rfl (br_f h3 ⟨by decide, br_f s2 ⟨rfl, J⟩⟩)))))
    · exact ⟨by decide, nm_e ⟨by decide, nm_e (sr_x_irg hr (br_f (by decide) (sr_x_itb g2 (br_t rfl (sr_y_bdg hr (br_t rfl (sr_y_btb g2 (br_f (by decide) ⟨rfl, J⟩))))))))⟩⟩
  · exact ⟨by decide, nm_e ⟨by decide, nm_e (sr_x_irb g1 (br_t rfl (sr_y_bdb g1 (br_f (by decide) ⟨rfl, J⟩))))⟩⟩
end
