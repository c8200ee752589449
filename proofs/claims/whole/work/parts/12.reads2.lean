section
variable {Fdl Frc : Int32} {Agf Ahf Afw : Nat → Int64} {Ada Adn Aba Abn Abl Ahd Avr Att : Nat → Int32}
variable {Bdl Bct : Int32} {Btd Bnw Bkp Bdr Bdn Bhd Bsz Bat Bnt Bbd : Nat → Int32}
def sr_nx (H : Nat → Bool) (r : Nat) (a : Int32) : Nat → Nat → Int32
  | 0, _ => -2
  | d + 1, f => if nI f ≤ a then sr_nx H r a d (f + 1) else if H (36 * r + f) = true then nI f else sr_nx H r a d (f + 1)
theorem sr_x_nxl {post : Int32 → Prop} {r : Nat} {a : Int32} {H : Nat → Bool} (hr : r < 8) (hH : sr_bx Ahf H) : ∀ d f, f + d = 36 → post (sr_nx H r a d f) → wX_next_11 post (nI r) a Fdl Frc Agf Ahf Afw Ada Adn Aba Abn Abl Ahd Avr Att (d + 1) (nI f) := by
  intro d
  induction d with
  | zero =>
    intro f hf h
    have e : f = 36 := by omega
    subst e
    exact br_t (by decide) h
  | succ d ih =>
    intro f hf h
    simp only [sr_nx] at h
    refine br_f (nI_ge (b := 36) (by omega) (by decide)) (br_c (fun ha => ?_) (fun ha => ⟨vp_in_nI hr (by decide), ?_⟩))
    · rw [if_pos ha] at h
      exact nm_r (nI_1 f) (ih (f + 1) (by omega) h)
    · rw [if_neg ha] at h
      rw [nI_clamp (by omega)]
      refine sr_x_mem (by omega) ?_
      rw [sr_bx_l hH hr (by omega)]
      refine sr_if sr_bI_1 (fun z => ?_) (fun z => ?_)
      · rw [if_pos z] at h
        exact h
      · rw [if_neg z] at h
        exact nm_r (nI_1 f) (ih (f + 1) (by omega) h)
theorem sr_y_nxl {post : Int32 → SY → Prop} {r : Nat} {a : Int32} {H : Nat → Bool} (hr : r < 8) (hb : sr_by Bnw H) : ∀ d f, f + d = 36 → post (sr_nx H r a d f) (Bdl, Bct, Btd, Bnw, Bkp, Bdr, Bdn, Bhd, Bsz, Bat, Bnt, Bbd) → wY_next_17 post (nI r) a Bdl Bct Btd Bnw Bkp Bdr Bdn Bhd Bsz Bat Bnt Bbd (d + 1) (nI f) := by
  intro d
  induction d with
  | zero =>
    intro f hf h
    have e : f = 36 := by omega
    subst e
    exact br_t (by decide) h
  | succ d ih =>
    intro f hf h
    simp only [sr_nx] at h
    refine br_f (nI_ge (b := 36) (by omega) (by decide)) (br_c (fun ha => ?_) (fun ha => ?_))
    · rw [if_pos ha] at h
      exact nm_r (nI_1 f) (ih (f + 1) (by omega) h)
    · rw [if_neg ha] at h
      rw [sr_p1, nI_clamp (by omega), hb _ (by omega)]
      refine ⟨vp_in_nI (by omega) (by decide), sr_if sr_bI_0 (fun z => ?_) (fun z => ?_)⟩
      · rw [if_neg (by rw [z]; decide)] at h
        exact nm_r (nI_1 f) (ih (f + 1) (by omega) h)
      · rw [if_pos (by simpa using z)] at h
        exact h
theorem i_vc_next {k : Nat} {u : SX} {v : SY} (I : i_Rel k u v) (hk : k + 5 ≤ 2560) (v1 : Int32) (v2 : Int32) : wpX_next (fun r => wpY_next (fun r' v' => r' = r ∧ i_Rel (k + 5) u v') v v1 v2) u v1 v2 := by
  have J := i_up I
  obtain ⟨c, d, G, H, R, A, N, I⟩ := I
  obtain ⟨Fdl, Frc, Agf, Ahf, Afw, Ada, Adn, Aba, Abn, Abl, Ahd, Avr, Att⟩ := u
  obtain ⟨Bdl, Bct, Btd, Bnw, Bkp, Bdr, Bdn, Bhd, Bsz, Bat, Bnt, Bbd⟩ := v
  obtain ⟨rfl, rfl, rfl, rfl, hc, hd, hG, hG', hH, hD, hR, hR', ht, hA, hA'⟩ := I
  unfold wpX_next wpY_next
  dsimp only
  by_cases g1 : sr_gd 8 v1
  · obtain ⟨r, hr, rfl⟩ := g1
    refine sr_x_irg hr (br_f (by decide) ⟨37, sr_x_nxl hr hH 36 0 rfl ?_⟩)
    refine sr_y_bdg hr (br_t rfl (sr_y_wk hc rfl sr_lom hR' hG' (fun t F T hb hd' => ?_)))
    have e := sr_dn_u hd' hD
    subst e
    exact ⟨37, sr_y_nxl hr hb 36 0 rfl ⟨rfl, c, d, G, T, R, A, N, rfl, rfl, rfl, rfl, hc, hd, hG, hG', hH, hD, hR, hR', ht, hA, hA'⟩⟩
  · exact sr_x_irb g1 (br_t rfl (sr_y_bdb g1 (br_f (by decide) ⟨rfl, J⟩)))
theorem sr_x_fnl {post : Int32 → Prop} {r x : Nat} {H : Nat → Bool} (hr : r < 8) (hx : x < 6) (hH : sr_bx Ahf H) (h : post (nI (sr_cn (fun y => H (36 * r + (6 * x + y))) 6))) : ∀ d v, v + d = 6 → wX_fan_24 post (nI r) (nI x) Fdl Frc Agf Ahf Afw Ada Adn Aba Abn Abl Ahd Avr Att (d + 1) (nI (sr_cn (fun y => H (36 * r + (6 * x + y))) v)) (nI v) := by
  intro d
  induction d with
  | zero =>
    intro v hv
    have e : v = 6 := by omega
    subst e
    exact br_t (by decide) h
  | succ d ih =>
    intro v hv
    have k := ih (v + 1) (by omega)
    refine br_f (nI_ge (b := 6) (by omega) (by decide)) ⟨vp_in_nI hr (by decide), ?_⟩
    rw [sr_p2, nI_clamp (by omega)]
    refine sr_x_mem (by omega) ?_
    rw [sr_bx_l hH hr (by omega)]
    refine nm_r ?_ (nm_r (nI_1 v) k)
    rw [sr_bI_n, nI_add]
    rfl
theorem sr_y_fnl {post : Int32 → SY → Prop} {r x : Nat} {S : Nat → Bool} (hr : r < 8) (hx : x < 6) (hb : sr_by Bnw S) (h : post (nI (sr_cn (fun y => S (36 * r + (6 * x + y))) 6)) (Bdl, Bct, Btd, Bnw, Bkp, Bdr, Bdn, Bhd, Bsz, Bat, Bnt, Bbd)) : ∀ d v, v + d = 6 → wY_fan_31 post (nI r) (nI x) Bdl Bct Btd Bnw Bkp Bdr Bdn Bhd Bsz Bat Bnt Bbd (d + 1) (nI (sr_cn (fun y => S (36 * r + (6 * x + y))) v)) (nI v) := by
  intro d
  induction d with
  | zero =>
    intro v hv
    have e : v = 6 := by omega
    subst e
    exact br_t (by decide) h
  | succ d ih =>
    intro v hv
    have k := ih (v + 1) (by omega)
    simp only [sr_cn] at k
    refine br_f (nI_ge (b := 6) (by omega) (by decide)) ?_
    rw [sr_p3, nI_clamp (by omega), hb _ (by omega)]
    refine ⟨vp_in_nI (by omega) (by decide), sr_if sr_bI_0 (fun z => ?_) (fun z => ?_)⟩
    · rw [if_neg (by rw [z]; decide), Nat.add_zero] at k
      exact nm_r (nI_1 v) k
    · rw [if_pos (by simpa using z)] at k
      exact nm_r (nI_1 _) (nm_r (nI_1 v) k)
theorem i_vc_fan {k : Nat} {u : SX} {v : SY} (I : i_Rel k u v) (hk : k + 5 ≤ 2560) (v1 : Int32) (v2 : Int32) : wpX_fan (fun r => wpY_fan (fun r' v' => r' = r ∧ i_Rel (k + 5) u v') v v1 v2) u v1 v2 := by
  have J := i_up I
  obtain ⟨c, d, G, H, R, A, N, I⟩ := I
  obtain ⟨Fdl, Frc, Agf, Ahf, Afw, Ada, Adn, Aba, Abn, Abl, Ahd, Avr, Att⟩ := u
  obtain ⟨Bdl, Bct, Btd, Bnw, Bkp, Bdr, Bdn, Bhd, Bsz, Bat, Bnt, Bbd⟩ := v
  obtain ⟨rfl, rfl, rfl, rfl, hc, hd, hG, hG', hH, hD, hR, hR', ht, hA, hA'⟩ := I
  unfold wpX_fan wpY_fan
  dsimp only
  by_cases g1 : sr_gd 8 v1
  · obtain ⟨r, hr, rfl⟩ := g1
    by_cases g2 : sr_gd 6 v2
    · obtain ⟨x, hx, rfl⟩ := g2
      refine sr_x_irg hr (br_f (by decide) (sr_x_itg hx (br_f (by decide) ⟨7, sr_x_fnl hr hx hH ?_ 6 0 rfl⟩)))
      refine sr_y_bdg hr (br_t rfl (sr_y_btg hx (br_t rfl (sr_y_wk hc rfl sr_lom hR' hG' (fun t F T hb hd' => ?_)))))
      have e := sr_dn_u hd' hD
      subst e
      exact ⟨7, sr_y_fnl hr hx hb ⟨rfl, c, d, G, T, R, A, N, rfl, rfl, rfl, rfl, hc, hd, hG, hG', hH, hD, hR, hR', ht, hA, hA'⟩ 6 0 rfl⟩
    · exact sr_x_irg hr (br_f (by decide) (sr_x_itb g2 (br_t rfl (sr_y_bdg hr (br_t rfl (sr_y_btb g2 (br_f (by decide) ⟨rfl, J⟩)))))))
  · exact sr_x_irb g1 (br_t rfl (sr_y_bdb g1 (br_f (by decide) ⟨rfl, J⟩)))
theorem sr_wi {H : Nat → Bool} {r s : Nat} (hr : r < 8) (hs : s < 8) (hH : sr_bx Ahf H) : (Ahf r &&& (Ahf s ^^^ (-1))) = 0 ↔ ∀ f, f < 36 → H (36 * r + f) = true → H (36 * s + f) = true := by
  rw [sr_lb_z]
  constructor
  · intro h f hf z
    have a := h f (by omega)
    rw [sr_lb_and, sr_lb_not (by omega), sr_bx_l hH hr hf, sr_bx_l hH hs hf, z] at a
    simpa using a
  · intro h f hf
    rw [sr_lb_and, sr_lb_not hf]
    by_cases z : f < 36
    · rw [sr_bx_l hH hr z, sr_bx_l hH hs z]
      have a := h f z
      cases e : H (36 * r + f) with
      | false => rfl
      | true => rw [a e]; rfl
    · rw [sr_bx_b hH hr (by omega) hf]
      rfl
theorem sr_y_wil {post : Int32 → SY → Prop} {r s : Nat} {S : Nat → Bool} (hr : r < 8) (hs : s < 8) (hb : sr_by Bnw S) (h1 : (∀ f, f < 36 → S (36 * r + f) = true → S (36 * s + f) = true) → post 1 (Bdl, Bct, Btd, Bnw, Bkp, Bdr, Bdn, Bhd, Bsz, Bat, Bnt, Bbd)) (h0 : ¬ (∀ f, f < 36 → S (36 * r + f) = true → S (36 * s + f) = true) → post 0 (Bdl, Bct, Btd, Bnw, Bkp, Bdr, Bdn, Bhd, Bsz, Bat, Bnt, Bbd)) : ∀ d v, v + d = 36 → (∀ f, f < v → S (36 * r + f) = true → S (36 * s + f) = true) → wY_within_25 post (nI r) (nI s) Bdl Bct Btd Bnw Bkp Bdr Bdn Bhd Bsz Bat Bnt Bbd (d + 1) (nI v) := by
  intro d
  induction d with
  | zero =>
    intro v hv hi
    have e : v = 36 := by omega
    subst e
    exact br_t (by decide) (h1 hi)
  | succ d ih =>
    intro v hv hi
    have k := fun z => ih (v + 1) (by omega) (lt_s hi z)
    refine br_f (nI_ge (b := 36) (by omega) (by decide)) ?_
    rw [sr_p1, sr_p1, nI_clamp (by omega), nI_clamp (by omega), hb _ (by omega), hb _ (by omega)]
    refine ⟨vp_in_nI (by omega) (by decide), sr_if sr_bI_0 (fun z => nm_r (nI_1 v) (k (fun y => by rw [z] at y; exact nomatch y))) (fun z => ⟨vp_in_nI (by omega) (by decide), sr_if sr_bI_0 (fun y => h0 (fun q => ?_)) (fun y => nm_r (nI_1 v) (k (fun _ => by simpa using y)))⟩)⟩
    have a := q v (by omega) (by simpa using z)
    rw [y] at a
    exact nomatch a
theorem i_vc_within {k : Nat} {u : SX} {v : SY} (I : i_Rel k u v) (hk : k + 5 ≤ 2560) (v1 : Int32) (v2 : Int32) : wpX_within (fun r => wpY_within (fun r' v' => r' = r ∧ i_Rel (k + 5) u v') v v1 v2) u v1 v2 := by
  have J := i_up I
  obtain ⟨c, d, G, H, R, A, N, I⟩ := I
  obtain ⟨Fdl, Frc, Agf, Ahf, Afw, Ada, Adn, Aba, Abn, Abl, Ahd, Avr, Att⟩ := u
  obtain ⟨Bdl, Bct, Btd, Bnw, Bkp, Bdr, Bdn, Bhd, Bsz, Bat, Bnt, Bbd⟩ := v
  obtain ⟨rfl, rfl, rfl, rfl, hc, hd, hG, hG', hH, hD, hR, hR', ht, hA, hA'⟩ := I
  unfold wpX_within wpY_within
  dsimp only
  by_cases g1 : sr_gd 8 v1
  · obtain ⟨r, hr, rfl⟩ := g1
    by_cases g2 : sr_gd 8 v2
    · obtain ⟨s, hs, rfl⟩ := g2
      refine sr_x_irg hr (br_f (by decide) (sr_x_irg hs (br_f (by decide) ⟨vp_in_nI hr (by decide), vp_in_nI hs (by decide), ?_⟩)))
      rw [nI_clamp (by omega), nI_clamp (by omega)]
      refine sr_if (sr_wi hr hs hH) (fun z => ?_) (fun z => ?_)
      · refine sr_y_bdg hr (br_t rfl (sr_y_bdg hs (br_t rfl (sr_y_wk hc rfl sr_lom hR' hG' (fun t F T hb hd' => ?_)))))
        have e := sr_dn_u hd' hD
        subst e
        exact ⟨37, sr_y_wil hr hs hb (fun _ => ⟨rfl, c, d, G, T, R, A, N, rfl, rfl, rfl, rfl, hc, hd, hG, hG', hH, hD, hR, hR', ht, hA, hA'⟩) (fun y => absurd z y) 36 0 rfl lt_0⟩
      · refine sr_y_bdg hr (br_t rfl (sr_y_bdg hs (br_t rfl (sr_y_wk hc rfl sr_lom hR' hG' (fun t F T hb hd' => ?_)))))
        have e := sr_dn_u hd' hD
        subst e
        exact ⟨37, sr_y_wil hr hs hb (fun y => absurd y z) (fun _ => ⟨rfl, c, d, G, T, R, A, N, rfl, rfl, rfl, rfl, hc, hd, hG, hG', hH, hD, hR, hR', ht, hA, hA'⟩) 36 0 rfl lt_0⟩
    · exact sr_x_irg hr (br_f (by decide) (sr_x_irb g2 (br_t rfl (sr_y_bdg hr (br_t rfl (sr_y_bdb g2 (br_f (by decide) ⟨rfl, J⟩)))))))
  · exact sr_x_irb g1 (br_t rfl (sr_y_bdb g1 (br_f (by decide) ⟨rfl, J⟩)))
end
