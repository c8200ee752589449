section
variable {Bdl Bct : Int32} {Btd Bnw Bkp Bdr Bdn Bhd Bsz Bat Bnt Bbd : Nat → Int32}
theorem sr_y_usl {post : Int32 → SY → Prop} {r c wo ℓ : Nat} {R : Nat → sr_R} {S T0 : Nat → Bool} (hr : r < 14) (hrc : r < c) (hwo : r ≠ wo) (hl : (R r).1 / 200 = ℓ) (h1 : sr_r2 r (R r) Bhd Bsz Bat Bnt) (K : ∀ t F T g, sr_by F T → sr_in R c wo ℓ S T → sr_pr ℓ T0 T g (sr_q (R r) (sr_nb (R r)) T0) → post (sr_bI g) (Bdl, Bct, Btd, F, Bkp, Bdr, Bdn, Bhd, Bsz, Bat, Bnt, t)) : ∀ d j t F T g, j + d = sr_nb (R r) → sr_by F T → sr_in R c wo ℓ S T → sr_pr ℓ T0 T g (sr_q (R r) j T0) → wY_use_18 post (nI r) (nI (sr_mk (R r))) (nI (sr_nb (R r))) (d + 1) (sr_bI g) (nI j) Bdl Bct Btd F Bkp Bdr Bdn Bhd Bsz Bat Bnt t := by
  have hnb := sr_nb_le (R r)
  intro d
  induction d with
  | zero =>
    intro j t F T g hj hb hi hp
    have e : j = sr_nb (R r) := by omega
    subst e
    exact br_t (nI_le (Nat.le_refl _) (by omega)) ⟨sr_nrw g, K t F T g hb hi hp⟩
  | succ d ih =>
    intro j t F T g hj hb hi hp
    refine br_f (nI_ge (by omega) (by omega)) (sr_y_bnd (sr_mk_lt _) (by omega) (fun t' ht' => ?_))
    refine sr_y_bh hr h1 hb ht' ?_
    cases m : sr_met (R r) T j with
    | false => exact br_t rfl (nm_r (nI_1 j) (ih (j + 1) t' F T g (by omega) hb hi (sr_q_n hp m)))
    | true =>
      have h800 := h1.1.1
      have eh : Bhd (nI r).toNatClampNeg = nI (R r).1 := by rw [nI_clamp (by omega)]; exact h1.2.1
      refine br_f (by decide) ⟨vp_in_nI hr (by decide), ?_⟩
      rw [eh]
      have hpl := sr_pl_lt (m := sr_mk (R r)) (w := j) h800
      refine sr_y_plc h800 ht' ⟨vp_in_nI hpl (by decide), ?_⟩
      rw [nI_clamp (by omega), hb _ hpl]
      have hs : sr_by (upd F (sr_pl (sr_mk (R r)) j (R r).1) (vp_nar .boolean 1)) (sr_st T (sr_hp (R r) j) true) := by
        have a := sr_by_s hb (sr_hp (R r) j) true
        rw [← sr_nar true] at a
        exact a
      have hin : sr_in R c wo ℓ S (sr_st T (sr_hp (R r) j) true) := sr_in_s hrc hwo hl h1.1 hi (sr_st_u _ _) (fun p hp' => (sr_st_h hp').elim Or.inl (fun e => Or.inr ⟨j, by omega, m, e⟩))
      refine sr_if sr_bI_0 (fun z => ⟨vp_in_nI hpl (by decide), nm_e (nm_r (nI_1 j) ?_)⟩) (fun z => ⟨vp_in_nI hpl (by decide), nm_e (nm_r (nI_1 j) ?_)⟩)
      · exact ih (j + 1) t' _ _ true (by omega) hs hin (sr_q_f hp hl z)
      · exact ih (j + 1) t' _ _ g (by omega) hs hin (sr_q_t hp (by unfold sr_hp; simpa using z))
theorem sr_y_use {post : Int32 → SY → Prop} {r c wo ℓ : Nat} {R : Nat → sr_R} {S T0 : Nat → Bool} (hr : r < 14) (hrc : r < c) (hwo : r ≠ wo) (hl : (R r).1 / 200 = ℓ) (h1 : sr_r2 r (R r) Bhd Bsz Bat Bnt) (hb : sr_by Bnw T0) (hi : sr_in R c wo ℓ S T0) (K : ∀ t F T g, sr_by F T → sr_in R c wo ℓ S T → sr_pr ℓ T0 T g (sr_q (R r) (sr_nb (R r)) T0) → post (sr_bI g) (Bdl, Bct, Btd, F, Bkp, Bdr, Bdn, Bhd, Bsz, Bat, Bnt, t)) : wpY_use post (Bdl, Bct, Btd, Bnw, Bkp, Bdr, Bdn, Bhd, Bsz, Bat, Bnt, Bbd) (nI r) :=
  sr_y_occ hr h1 (sr_y_num (sr_mk_lt _) ⟨sr_nb (R r) + 1, sr_y_usl hr hrc hwo hl h1 K (sr_nb (R r)) 0 Bbd Bnw T0 false (by omega) hb hi (sr_pr_0 (fun w hw => absurd hw (Nat.not_lt_zero w)))⟩)
theorem sr_y_ual {post : Int32 → SY → Prop} {lo : Int32} {c wo ℓ : Nat} {R : Nat → sr_R} {S T0 : Nat → Bool} (hc : c ≤ 14) (hct : Bct = nI c) (hl4 : ℓ < 4) (hlo : ∀ r, r < 14 → (nI r = lo ↔ r = wo)) (hR : ∀ r, r < c → sr_r2 r (R r) Bhd Bsz Bat Bnt) (K : ∀ t F T g, sr_by F T → sr_in R c wo ℓ S T → sr_pr ℓ T0 T g (sr_cl R c wo ℓ T0) → post (sr_bI g) (Bdl, Bct, Btd, F, Bkp, Bdr, Bdn, Bhd, Bsz, Bat, Bnt, t)) : ∀ d j t F T g, j + d = c → sr_by F T → sr_in R c wo ℓ S T → sr_pr ℓ T0 T g (sr_cl R j wo ℓ T0) → wY_useAll_5 post (nI ℓ) lo (d + 1) (sr_bI g) (nI j) Bdl Bct Btd F Bkp Bdr Bdn Bhd Bsz Bat Bnt t := by
  subst hct
  intro d
  induction d with
  | zero =>
    intro j t F T g hj hb hi hp
    have e : j = c := by omega
    subst e
    exact br_t (nI_le (Nat.le_refl _) (by omega)) ⟨sr_nrw g, K t F T g hb hi hp⟩
  | succ d ih =>
    intro j t F T g hj hb hi hp
    have hjc : j < c := by omega
    have h1 := hR j hjc
    have h800 := h1.1.1
    refine br_f (nI_ge (by omega) (by omega)) (br_f (nI_ge (b := 14) (by omega) (by decide)) (sr_if (hlo j (by omega)) (fun z => nm_r (nI_1 j) (ih (j + 1) t F T g (by omega) hb hi (sr_pr_q hp fun q => sr_cl_s q fun y => absurd z y))) (fun z => ⟨vp_in_nI (by omega) (by decide), by decide, ?_⟩)))
    have eh : Bhd (nI j).toNatClampNeg = nI (R j).1 := by rw [nI_clamp (by omega)]; exact h1.2.1
    rw [eh, sr_d200 (by omega)]
    refine sr_if (nI_eq (by omega) (by omega)) (fun y => ?_) (fun y => nm_r (nI_1 j) (ih (j + 1) t F T g (by omega) hb hi (sr_pr_q hp fun q => sr_cl_s q fun _ x => absurd x y)))
    refine sr_y_use (by omega) hjc z y h1 hb hi (fun t' F' T' g' hb' hi' hp' => ?_)
    have a := sr_pr_c (Q2 := fun T => sr_q (R j) (sr_nb (R j)) T) hp hp'
    have b := sr_pr_q a fun q => sr_cl_s q.1 fun _ _ => q.2
    cases g' with
    | false =>
      rw [Bool.or_false] at b
      exact br_t rfl (nm_r (nI_1 j) (ih (j + 1) t' F' T' g (by omega) hb' hi' b))
    | true =>
      rw [Bool.or_true] at b
      exact br_f (by decide) (nm_r (nI_1 j) (ih (j + 1) t' F' T' true (by omega) hb' hi' b))
theorem sr_y_ua {post : Int32 → SY → Prop} {lo : Int32} {c wo ℓ : Nat} {R : Nat → sr_R} {S T0 : Nat → Bool} (hc : c ≤ 14) (hct : Bct = nI c) (hl4 : ℓ < 4) (hlo : ∀ r, r < 14 → (nI r = lo ↔ r = wo)) (hR : ∀ r, r < c → sr_r2 r (R r) Bhd Bsz Bat Bnt) (hb : sr_by Bnw T0) (hi : sr_in R c wo ℓ S T0) (K : ∀ t F T g, sr_by F T → sr_in R c wo ℓ S T → sr_pr ℓ T0 T g (sr_cl R c wo ℓ T0) → post (sr_bI g) (Bdl, Bct, Btd, F, Bkp, Bdr, Bdn, Bhd, Bsz, Bat, Bnt, t)) : wpY_useAll post (Bdl, Bct, Btd, Bnw, Bkp, Bdr, Bdn, Bhd, Bsz, Bat, Bnt, Bbd) (nI ℓ) lo :=
  ⟨c + 1, sr_y_ual hc hct hl4 hlo hR K c 0 Bbd Bnw T0 false (by omega) hb hi (sr_pr_0 (fun r hr => absurd hr (Nat.not_lt_zero r)))⟩
theorem sr_y_rdl {post : SY → Prop} {J : Int32 → Int32 → Int32 → (Nat → Int32) → (Nat → Int32) → (Nat → Int32) → (Nat → Int32) → (Nat → Int32) → (Nat → Int32) → (Nat → Int32) → (Nat → Int32) → (Nat → Int32) → (Nat → Int32) → Prop} {lo : Int32} {c wo ℓ : Nat} {R : Nat → sr_R} {S : Nat → Bool} (hc : c ≤ 14) (hct : Bct = nI c) (hl4 : ℓ < 4) (hlo : ∀ r, r < 14 → (nI r = lo ↔ r = wo)) (hR : ∀ r, r < c → sr_r2 r (R r) Bhd Bsz Bat Bnt) (K : ∀ t F T, sr_by F T → sr_lf R c wo ℓ S T → J (nI (ℓ + 1)) Bdl Bct Btd F Bkp Bdr Bdn Bhd Bsz Bat Bnt t) : ∀ d i t F T g, i + d = 80 → sr_by F T → sr_rd R c wo ℓ S T i g → wY_work_39 post J lo (nI ℓ) (d + 1) (sr_bI g) (nI i) Bdl Bct Btd F Bkp Bdr Bdn Bhd Bsz Bat Bnt t := by
  intro d
  induction d with
  | zero =>
    intro i t F T g hi hb hd
    have e : i = 80 := by omega
    subst e
    cases g with
    | false => exact br_t (by decide) (nm_r (nI_1 ℓ) (K t F T hb (sr_rd_f hd)))
    | true => have := sr_rd_x hd; omega
  | succ d ih =>
    intro i t F T g hi hb hd
    refine br_f (nI_ge (b := 80) (by omega) (by decide)) ?_
    cases g with
    | false => exact br_t rfl (nm_r (nI_1 ℓ) (K t F T hb (sr_rd_f hd)))
    | true =>
      refine br_f (by decide) (sr_y_ua hc hct hl4 hlo hR hb hd.1 (fun t' F' T' g' hb' hi' hp' => ?_))
      exact nm_r (nI_1 i) (ih (i + 1) t' F' T' g' (by omega) hb' (sr_rd_s hd hi' hp'))
theorem sr_y_w29 {post : SY → Prop} {lo : Int32} {c wo : Nat} {R : Nat → sr_R} {G : Nat → Bool} (hc : c ≤ 14) (hct : Bct = nI c) (hlo : ∀ r, r < 14 → (nI r = lo ↔ r = wo)) (hR : ∀ r, r < c → sr_r2 r (R r) Bhd Bsz Bat Bnt) (K : ∀ t F T, sr_by F T → sr_dn R c wo G 4 T → post (Bdl, Bct, Btd, F, Bkp, Bdr, Bdn, Bhd, Bsz, Bat, Bnt, t)) : ∀ d ℓ t F T, ℓ + d = 4 → sr_by F T → sr_dn R c wo G ℓ T → wY_work_29 post lo (d + 1) (nI ℓ) Bdl Bct Btd F Bkp Bdr Bdn Bhd Bsz Bat Bnt t := by
  intro d
  induction d with
  | zero =>
    intro ℓ t F T hl hb hd
    have e : ℓ = 4 := by omega
    subst e
    exact br_t (by decide) (K t F T hb hd)
  | succ d ih =>
    intro ℓ t F T hl hb hd
    refine br_f (nI_ge (b := 4) (by omega) (by decide)) ⟨81, ?_⟩
    exact sr_y_rdl hc hct (by omega) hlo hR (fun t' F' T' hb' hf' => ih (ℓ + 1) t' F' T' (by omega) hb' ⟨T, hd, hf'⟩) 80 0 t F T true rfl hb (sr_rd_0 R c wo ℓ T)
theorem sr_y_w2 {post : SY → Prop} {lo : Int32} {c wo : Nat} {R : Nat → sr_R} {G : Nat → Bool} (hc : c ≤ 14) (hct : Bct = nI c) (hlo : ∀ r, r < 14 → (nI r = lo ↔ r = wo)) (hR : ∀ r, r < c → sr_r2 r (R r) Bhd Bsz Bat Bnt) (hG : sr_by Btd G) (K : ∀ t F T, sr_by F T → sr_dn R c wo G 4 T → post (Bdl, Bct, Btd, F, Bkp, Bdr, Bdn, Bhd, Bsz, Bat, Bnt, t)) : ∀ d i F, i + d = 288 → (∀ r, r < i → F r = sr_bI (G r)) → wY_work_2 post lo Bdl Bct (d + 1) (nI i) Btd F Bkp Bdr Bdn Bhd Bsz Bat Bnt Bbd := by
  intro d
  induction d with
  | zero =>
    intro i F hi hF
    have e : i = 288 := by omega
    subst e
    exact br_t (by decide) ⟨5, sr_y_w29 hc hct hlo hR K 4 0 Bbd F G rfl hF rfl⟩
  | succ d ih =>
    intro i F hi hF
    refine br_f (nI_ge (b := 288) (by omega) (by decide)) ⟨vp_in_nI (by omega) (by decide), vp_in_nI (by omega) (by decide), nm_r (e' := upd F i (sr_bI (G i))) ?_ (nm_r (nI_1 i) (ih (i + 1) _ (by omega) ?_))⟩
    · rw [nI_clamp (by omega), hG i (by omega), sr_nar]
    · intro r hr
      by_cases z : r = i
      · subst z; rw [pk_us]
      · rw [pk_un z]; exact hF r (by omega)
theorem sr_y_wk {post : SY → Prop} {lo : Int32} {c wo : Nat} {R : Nat → sr_R} {G : Nat → Bool} (hc : c ≤ 14) (hct : Bct = nI c) (hlo : ∀ r, r < 14 → (nI r = lo ↔ r = wo)) (hR : ∀ r, r < c → sr_r2 r (R r) Bhd Bsz Bat Bnt) (hG : sr_by Btd G) (K : ∀ t F T, sr_by F T → sr_dn R c wo G 4 T → post (Bdl, Bct, Btd, F, Bkp, Bdr, Bdn, Bhd, Bsz, Bat, Bnt, t)) : wpY_work post (Bdl, Bct, Btd, Bnw, Bkp, Bdr, Bdn, Bhd, Bsz, Bat, Bnt, Bbd) lo :=
  ⟨289, sr_y_w2 hc hct hlo hR hG K 288 0 Bnw rfl (fun r hr => absurd hr (Nat.not_lt_zero r))⟩
end
