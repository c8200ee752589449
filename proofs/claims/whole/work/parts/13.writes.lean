section
variable {Fdl Frc : Int32} {Agf Ahf Afw : Nat → Int64} {Ada Adn Aba Abn Abl Ahd Avr Att : Nat → Int32}
variable {Bdl Bct : Int32} {Btd Bnw Bkp Bdr Bdn Bhd Bsz Bat Bnt Bbd : Nat → Int32}
theorem sr_x_inl {post : SX → Prop} (h : ∀ t, sr_tt t → post (Fdl, Frc, Agf, Ahf, Afw, Ada, Adn, Aba, Abn, Abl, Ahd, Avr, t)) : ∀ d v t, v + d = 10 → 4 ≤ v → (∀ i, 4 ≤ i → i < v → t i = nI (i - 4)) → wX_init_92 post Fdl Frc (d + 1) (nI v) Agf Ahf Afw Ada Adn Aba Abn Abl Ahd Avr t := by
  intro d
  induction d with
  | zero =>
    intro v t hv h4 hi
    have e : v = 10 := by omega
    subst e
    exact br_t (by decide) (h t hi)
  | succ d ih =>
    intro v t hv h4 hi
    refine br_f (nI_ge (b := 10) (by omega) (by decide)) ⟨vp_in_nI (by omega) (by decide), nm_r (e' := upd t v (nI (v - 4))) ?_ (nm_r (nI_1 v) (ih (v + 1) _ (by omega) (by omega) ?_))⟩
    · rw [nI_clamp (by omega)]
      have e : nI v - 4 = nI (v - 4) := pk_sub (b := 4) h4
      rw [e]
    · intro i h4' hiv
      by_cases z : i = v
      · subst z; rw [pk_us]
      · rw [pk_un z]; exact hi i h4' (by omega)
theorem sr_lb_f (f : Nat) : sr_lb ((fun _ => 0 : Nat → Int64) 0) f = false := sr_lb_0 f
theorem sr_bx_0 : sr_bx (fun _ => 0) (fun _ => false) := by
  intro r _ f _
  show sr_lb 0 f = _
  rw [sr_lb_0, Bool.and_false]
theorem sr_cl_0 (R : Nat → sr_R) (wo ℓ : Nat) (T : Nat → Bool) : sr_cl R 0 wo ℓ T := fun r hr => absurd hr (Nat.not_lt_zero r)
theorem sr_dn_0 (R : Nat → sr_R) (wo : Nat) (G : Nat → Bool) : ∀ ℓ, sr_dn R 0 wo G ℓ G
  | 0 => rfl
  | ℓ + 1 => ⟨G, sr_dn_0 R wo G ℓ, sr_in_0 R 0 wo ℓ G, sr_cl_0 R wo ℓ G⟩
theorem i_vc0 : wpX_init (fun u => wpY_init (fun v => i_Rel 0 u v)) := by
  refine ⟨7, sr_x_inl ?_ 6 4 (fun _ => 0) rfl (by omega) (fun i h4 hi => by omega)⟩
  intro t ht
  exact ⟨0, 0, fun _ => false, fun _ => false, fun _ => (0, 0, fun _ => 0, fun _ => false), fun _ => 0, fun _ => false, rfl, rfl, rfl, rfl, Nat.zero_le _, Nat.zero_le _, sr_bx_0, (fun _ _ => rfl), sr_bx_0, sr_dn_0 _ _ _ 4, (fun r hr => absurd hr (Nat.not_lt_zero r)), (fun r hr => absurd hr (Nat.not_lt_zero r)), ht, (fun r hr => absurd hr (Nat.not_lt_zero r)), (fun r hr => absurd hr (Nat.not_lt_zero r))⟩
theorem sr_D_s {d a : Nat} {A : Nat → Nat} {N : Nat → Bool} {da dn : Nat → Int32} (b : Bool) (h : sr_D d A N da dn) (ha : a < 800) : sr_D (d + 1) (fun i => if i = d then a else A i) (fun i => if i = d then b else N i) (upd da d (nI a)) (upd dn d (sr_bI b)) := by
  intro i hi
  by_cases z : i = d
  · subst z
    rw [pk_us, pk_us]
    simp [ha]
  · rw [pk_un z, pk_un z]
    simp only [if_neg z]
    exact h i (by omega)
theorem i_vc_body {k : Nat} {u : SX} {v : SY} (I : i_Rel k u v) (hk : k + 5 ≤ 2560) (v1 : Int32) (v2 : Int32) : wpX_body (fun r u' => wpY_body (fun r' v' => r' = r ∧ i_Rel (k + 5) u' v') v v1 v2) u v1 v2 := by
  have J := i_up I
  obtain ⟨c, d, G, H, R, A, N, I⟩ := I
  obtain ⟨Fdl, Frc, Agf, Ahf, Afw, Ada, Adn, Aba, Abn, Abl, Ahd, Avr, Att⟩ := u
  obtain ⟨Bdl, Bct, Btd, Bnw, Bkp, Bdr, Bdn, Bhd, Bsz, Bat, Bnt, Bbd⟩ := v
  obtain ⟨rfl, rfl, rfl, rfl, hc, hd, hG, hG', hH, hD, hR, hR', ht, hA, hA'⟩ := I
  unfold wpX_body wpY_body
  dsimp only
  by_cases g1 : sr_gd 800 v1
  · obtain ⟨a, ha, rfl⟩ := g1
    have p0 : ¬ nI a < 0 := nI_pos (by omega)
    have p1 : nI a ≤ 799 := nI_le (b := 799) (by omega) (by decide)
    refine sr_x_iag ha (br_f (by decide) ?_)
    by_cases h3 : d < 3
    · have q1 : nI d < 3 := nI_lt (b := 3) h3 (by decide)
      have q2 : nI d ≤ 2 := nI_le (b := 2) (by omega) (by decide)
      have q3 : vp_in (nI d) 3 := vp_in_nI h3 (by decide)
      have e : (nI d).toNatClampNeg = d := nI_clamp (by omega)
      have n0 : vp_nar .boolean 0 = sr_bI false := sr_nar false
      have n1 : vp_nar .boolean 1 = sr_bI true := sr_nar true
      by_cases z : v2 = 0
      · refine br_t q1 ⟨q3, nm_e (br_t z ⟨q3, nm_e (nm_r (nI_1 d) ?_)⟩)⟩
        refine br_f p0 (br_t p1 (br_t q2 ⟨q3, nm_e (br_t z ⟨q3, nm_e (nm_r (nI_1 d) ⟨rfl, ?_⟩)⟩)⟩))
        rw [e, n0]
        exact ⟨c, d + 1, G, H, R, _, _, rfl, rfl, rfl, rfl, hc, by omega, hG, hG', hH, hD, hR, hR', ht, sr_D_s false hA ha, sr_D_s false hA' ha⟩
      · refine br_t q1 ⟨q3, nm_e (br_f z ⟨q3, nm_e (nm_r (nI_1 d) ?_)⟩)⟩
        refine br_f p0 (br_t p1 (br_t q2 ⟨q3, nm_e (br_f z ⟨q3, nm_e (nm_r (nI_1 d) ⟨rfl, ?_⟩)⟩)⟩))
        rw [e, n1]
        exact ⟨c, d + 1, G, H, R, _, _, rfl, rfl, rfl, rfl, hc, by omega, hG, hG', hH, hD, hR, hR', ht, sr_D_s true hA ha, sr_D_s true hA' ha⟩
    · have q1 : ¬ nI d < 3 := nI_nlt (b := 3) (by omega) (by omega)
      have q2 : ¬ nI d ≤ 2 := nI_ge (a := 2) (by omega) (by omega)
      exact br_f q1 (br_f p0 (br_t p1 (br_f q2 ⟨rfl, J⟩)))
  · refine sr_x_iab g1 (br_t rfl (br_c (fun _ => ⟨rfl, J⟩) (fun z => br_f (sr_le_of (sr_gd_n (n := 800) (by decide) g1 z) (by decide)) ⟨rfl, J⟩)))
theorem i_vc_give {k : Nat} {u : SX} {v : SY} (I : i_Rel k u v) (hk : k + 5 ≤ 2560) (v1 : Int32) (v2 : Int32) (v3 : Int32) (v4 : Int32) : wpX_give (fun r u' => wpY_give (fun r' v' => r' = r ∧ i_Rel (k + 5) u' v') v v1 v2 v3 v4) u v1 v2 v3 v4 := by
  have J := i_up I
  obtain ⟨c, d, G, H, R, A, N, I⟩ := I
  obtain ⟨Fdl, Frc, Agf, Ahf, Afw, Ada, Adn, Aba, Abn, Abl, Ahd, Avr, Att⟩ := u
  obtain ⟨Bdl, Bct, Btd, Bnw, Bkp, Bdr, Bdn, Bhd, Bsz, Bat, Bnt, Bbd⟩ := v
  obtain ⟨rfl, rfl, rfl, rfl, hc, hd, hG, hG', hH, hD, hR, hR', ht, hA, hA'⟩ := I
  unfold wpX_give wpY_give
  dsimp only
  by_cases g1 : sr_gd 8 v1
  · obtain ⟨r, hr, rfl⟩ := g1
    by_cases g2 : sr_gd 6 v2
    · obtain ⟨x, hx, rfl⟩ := g2
      by_cases g3 : sr_gd 6 v3
      · obtain ⟨y, hy, rfl⟩ := g3
        have hp : 36 * r + (6 * x + y) < 288 := by omega
        have e1 : (nI r).toNatClampNeg = r := nI_clamp (by omega)
        have e2 : (nI (36 * r + (6 * x + y))).toNatClampNeg = 36 * r + (6 * x + y) := nI_clamp (by omega)
        have n0 : vp_nar .boolean 0 = sr_bI false := sr_nar false
        have n1 : vp_nar .boolean 1 = sr_bI true := sr_nar true
        refine sr_x_irg hr (br_f (by decide) (sr_x_itg hx (br_f (by decide) (sr_x_itg hy (br_f (by decide) (nm_r (sr_p2 x y) ⟨vp_in_nI hr (by decide), ?_⟩))))))
        rw [e1]
        refine sr_x_mem (by omega) ?_
        rw [sr_bx_l hG hr (by omega)]
        by_cases z : v4 = 0
        · refine br_t z ⟨vp_in_nI hr (by decide), vp_in_nI hr (by decide), nm_e ?_⟩
          unfold wX_give_85
          refine sr_x_dH hc rfl sr_lom hR ht (sr_bx_c hG hr (by omega)) (fun t F T ht' hb' hd' => ?_)
          dsimp only
          refine sr_y_bdg hr (br_t rfl (sr_y_btg hx (br_t rfl (sr_y_btg hy (br_t rfl (nm_r (sr_p3 r x y) ⟨vp_in_nI hp (by decide), ?_⟩))))))
          rw [e2, hG' _ hp]
          refine sr_if sr_bI_0 (fun q => br_t z ⟨vp_in_nI hp (by decide), nm_e ⟨?_, ?_⟩⟩) (fun q => br_t z ⟨vp_in_nI hp (by decide), nm_e ⟨?_, ?_⟩⟩)
          · rw [q]; rfl
          · rw [e2, n0]
            exact ⟨c, d, _, T, R, A, N, rfl, rfl, rfl, rfl, hc, hd, sr_bx_c hG hr (by omega), sr_by_s hG' _ false, hb', hd', hR, hR', ht', hA, hA'⟩
          · rw [show G (36 * r + (6 * x + y)) = true by simpa using q]; rfl
          · rw [e2, n0]
            exact ⟨c, d, _, T, R, A, N, rfl, rfl, rfl, rfl, hc, hd, sr_bx_c hG hr (by omega), sr_by_s hG' _ false, hb', hd', hR, hR', ht', hA, hA'⟩
        · refine br_f z ⟨vp_in_nI hr (by decide), vp_in_nI hr (by decide), nm_e ?_⟩
          unfold wX_give_85
          refine sr_x_dH hc rfl sr_lom hR ht (sr_bx_s hG hr (by omega)) (fun t F T ht' hb' hd' => ?_)
          dsimp only
          refine sr_y_bdg hr (br_t rfl (sr_y_btg hx (br_t rfl (sr_y_btg hy (br_t rfl (nm_r (sr_p3 r x y) ⟨vp_in_nI hp (by decide), ?_⟩))))))
          rw [e2, hG' _ hp]
          refine sr_if sr_bI_0 (fun q => br_f z ⟨vp_in_nI hp (by decide), nm_e ⟨?_, ?_⟩⟩) (fun q => br_f z ⟨vp_in_nI hp (by decide), nm_e ⟨?_, ?_⟩⟩)
          · rw [q]; rfl
          · rw [e2, n1]
            exact ⟨c, d, _, T, R, A, N, rfl, rfl, rfl, rfl, hc, hd, sr_bx_s hG hr (by omega), sr_by_s hG' _ true, hb', hd', hR, hR', ht', hA, hA'⟩
          · rw [show G (36 * r + (6 * x + y)) = true by simpa using q]; rfl
          · rw [e2, n1]
            exact ⟨c, d, _, T, R, A, N, rfl, rfl, rfl, rfl, hc, hd, sr_bx_s hG hr (by omega), sr_by_s hG' _ true, hb', hd', hR, hR', ht', hA, hA'⟩
      · exact sr_x_irg hr (br_f (by decide) (sr_x_itg hx (br_f (by decide) (sr_x_itb g3 (br_t rfl (sr_y_bdg hr (br_t rfl (sr_y_btg hx (br_t rfl (sr_y_btb g3 (br_f (by decide) ⟨rfl, J⟩)))))))))))
    · exact sr_x_irg hr (br_f (by decide) (sr_x_itb g2 (br_t rfl (sr_y_bdg hr (br_t rfl (sr_y_btb g2 (br_f (by decide) ⟨rfl, J⟩)))))))
  · exact sr_x_irb g1 (br_t rfl (sr_y_bdb g1 (br_f (by decide) ⟨rfl, J⟩)))
end
