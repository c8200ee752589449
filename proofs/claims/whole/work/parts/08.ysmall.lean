section
variable {Bdl Bct : Int32} {Btd Bnw Bkp Bdr Bdn Bhd Bsz Bat Bnt Bbd : Nat → Int32}
def sr_r2 (r : Nat) (ρ : sr_R) (hd sz at' nt : Nat → Int32) : Prop := sr_wf ρ ∧ hd r = nI ρ.1 ∧ sz r = nI ρ.2.1 ∧ ∀ i, i < ρ.2.1 → at' (3 * r + i) = nI (ρ.2.2.1 i) ∧ nt (3 * r + i) = sr_bI (ρ.2.2.2 i)
def sr_yw (t : Nat → Int32) (m w : Nat) : Prop := ∀ i, i < 4 → t i = nI (sr_th m w i)
theorem sr_v1_ge {t : Nat} (h : 4 ≤ t) : sr_v1 t = 0 := if_neg (by omega)
theorem sr_v1_s {t : Nat} (h : t < 4) : (1 : Int32) <<< (nI t &&& 31) = nI (sr_v1 t) := by
  rw [sr_sh t h]
  unfold sr_v1
  rw [if_pos h]
theorem sr_y_v25 {post : Int32 → Prop} {z : Int32} {t q : Nat} (ht : t < 10) (hz : z = nI q) (h : post (nI (q ||| sr_v1 t))) : wY_variables_25 post (nI t) z Bdl Bct Btd Bnw Bkp Bdr Bdn Bhd Bsz Bat Bnt Bbd := by
  subst hz
  refine pk_le 4 t (fun k => ?_) (fun k => ?_)
  · rw [sr_v1_ge k] at h
    rw [← nI_0, sr_or]
    exact h
  · rw [sr_v1_s k, sr_or]
    exact h
theorem sr_y_var {post : Int32 → Prop} {a : Nat} (ha : a < 800) (h : post (nI (sr_vs a))) : wpY_variables post (Bdl, Bct, Btd, Bnw, Bkp, Bdr, Bdn, Bhd, Bsz, Bat, Bnt, Bbd) (nI a) := by
  refine ⟨by decide, by decide, nm_r (sr_t1 ha) ⟨by decide, nm_r (sr_t2 ha) (pk_le 4 (a / 10 % 10) (fun k => ?_) (fun k => ?_))⟩⟩
  · refine sr_y_v25 (q := 0) (by omega) rfl ?_
    unfold sr_vs at h
    rw [sr_v1_ge k] at h
    exact h
  · exact sr_y_v25 (by omega) (sr_v1_s k) h
theorem sr_y_lay {post : Int32 → Prop} {a : Nat} (ha : a < 800) (h : post (nI (a / 200))) : wpY_layer post (Bdl, Bct, Btd, Bnw, Bkp, Bdr, Bdn, Bhd, Bsz, Bat, Bnt, Bbd) (nI a) := by
  refine ⟨by decide, ?_⟩
  rw [sr_d200 (by omega)]
  exact h
theorem sr_y_thg {post : Int32 → Prop} {t m w : Nat} (ht : t < 10) (hb : sr_yw Bbd m w) (h : post (nI (sr_th m w t))) : wpY_thing post (Bdl, Bct, Btd, Bnw, Bkp, Bdr, Bdn, Bhd, Bsz, Bat, Bnt, Bbd) (nI t) := by
  refine pk_le 4 t (fun k => ?_) (fun k => ⟨vp_in_nI k (by decide), ?_⟩)
  · unfold sr_th at h
    rw [if_neg (by omega)] at h
    have e : nI t - 4 = nI (t - 4) := pk_sub (b := 4) k
    rw [e]
    exact h
  · rw [nI_clamp (by omega), hb t k]
    exact h
theorem sr_y_plc {post : Int32 → Prop} {a m w : Nat} (ha : a < 800) (hb : sr_yw Bbd m w) (h : post (nI (sr_pl m w a))) : wpY_place post (Bdl, Bct, Btd, Bnw, Bkp, Bdr, Bdn, Bhd, Bsz, Bat, Bnt, Bbd) (nI a) := by
  refine ⟨by decide, by decide, ?_⟩
  rw [sr_t1 ha, sr_t2 ha]
  refine sr_y_thg (Nat.mod_lt _ (by decide)) hb ⟨by decide, sr_y_thg (Nat.mod_lt _ (by decide)) hb ⟨by decide, ?_⟩⟩
  rw [sr_d100 (by omega), sr_m36, sr_m6, nI_add, nI_add]
  unfold sr_pl sr_ft at h
  rw [Nat.add_assoc]
  exact h
theorem sr_y_ocl {post : Int32 → Prop} {r : Nat} {ρ : sr_R} (hr : r < 14) (h1 : sr_r2 r ρ Bhd Bsz Bat Bnt) (h : post (nI (sr_mk ρ))) : ∀ d i, i + d = ρ.2.1 → wY_occurring_13 post (nI r) Bdl Bct Btd Bnw Bkp Bdr Bdn Bhd Bsz Bat Bnt Bbd (d + 1) (nI (sr_mo (fun i => sr_vs (ρ.2.2.1 i)) (sr_vs ρ.1) i)) (nI i) := by
  obtain ⟨wf, e1, e2, e4⟩ := h1
  have hl3 := wf.2.1
  have es : Bsz (nI r).toNatClampNeg = nI ρ.2.1 := by rw [nI_clamp (by omega)]; exact e2
  intro d
  induction d with
  | zero =>
    intro i hi
    have e : i = ρ.2.1 := by omega
    subst e
    refine ⟨vp_in_nI hr (by decide), ?_⟩
    rw [es]
    exact br_t (nI_le (Nat.le_refl _) (by omega)) h
  | succ d ih =>
    intro i hi
    have hil : i < ρ.2.1 := by omega
    obtain ⟨ea, en⟩ := e4 i hil
    refine ⟨vp_in_nI hr (by decide), ?_⟩
    rw [es]
    refine br_f (nI_ge hil (by omega)) (br_f (nI_ge (b := 3) (by omega) (by decide)) ?_)
    have ep : 3 * nI r + nI i = nI (3 * r + i) := by rw [sr_m3, nI_add]
    rw [ep]
    have eA : Bat (nI (3 * r + i)).toNatClampNeg = nI (ρ.2.2.1 i) := by rw [nI_clamp (by omega)]; exact ea
    rw [eA]
    exact ⟨vp_in_nI (by omega) (by decide), sr_y_var (wf.2.2 i hil).1 (nm_r (sr_or _ _) (nm_r (nI_1 i) (ih (i + 1) (by omega))))⟩
theorem sr_y_occ {post : Int32 → Prop} {r : Nat} {ρ : sr_R} (hr : r < 14) (h1 : sr_r2 r ρ Bhd Bsz Bat Bnt) (h : post (nI (sr_mk ρ))) : wpY_occurring post (Bdl, Bct, Btd, Bnw, Bkp, Bdr, Bdn, Bhd, Bsz, Bat, Bnt, Bbd) (nI r) := by
  have eh : Bhd (nI r).toNatClampNeg = nI ρ.1 := by rw [nI_clamp (by omega)]; exact h1.2.1
  refine ⟨vp_in_nI hr (by decide), ?_⟩
  rw [eh]
  exact sr_y_var h1.1.1 ⟨ρ.2.1 + 1, sr_y_ocl hr h1 h ρ.2.1 0 (by omega)⟩
theorem sr_y_nml {post : Int32 → Prop} {m : Nat} (hm : m < 16) (h : post (nI (sr_pw m 4))) : ∀ d v, v + d = 4 → wY_number_4 post (nI m) Bdl Bct Btd Bnw Bkp Bdr Bdn Bhd Bsz Bat Bnt Bbd (d + 1) (nI (sr_pw m v)) (nI v) := by
  intro d
  induction d with
  | zero =>
    intro v hv
    have e : v = 4 := by omega
    subst e
    exact br_t (by decide) h
  | succ d ih =>
    intro v hv
    have k := ih (v + 1) (by omega)
    simp only [sr_pw] at k
    refine br_f (nI_ge (b := 4) (by omega) (by decide)) (sr_if (sr_tb m hm v (by omega)) (fun e => ?_) (fun e => ?_))
    · rw [if_pos e] at k
      exact nm_r (sr_m6 _) (nm_r (nI_1 v) k)
    · rw [if_neg e] at k
      exact nm_r (nI_1 v) k
theorem sr_y_num {post : Int32 → Prop} {m : Nat} (hm : m < 16) (h : post (nI (sr_pw m 4))) : wpY_number post (Bdl, Bct, Btd, Bnw, Bkp, Bdr, Bdn, Bhd, Bsz, Bat, Bnt, Bbd) (nI m) := ⟨5, sr_y_nml hm h 4 0 rfl⟩
theorem sr_y_bnl {post : SY → Prop} {m w : Nat} (hm : m < 16) (hw : w < 2 ^ 31) (h : ∀ t, sr_yw t m w → post (Bdl, Bct, Btd, Bnw, Bkp, Bdr, Bdn, Bhd, Bsz, Bat, Bnt, t)) : ∀ d v t, v + d = 4 → (∀ i, i < v → t i = nI (sr_th m w i)) → wY_bind_5 post (nI m) Bdl Bct (d + 1) (nI (sr_rs m w v)) (nI v) Btd Bnw Bkp Bdr Bdn Bhd Bsz Bat Bnt t := by
  intro d
  induction d with
  | zero =>
    intro v t hv hi
    have e : v = 4 := by omega
    subst e
    exact br_t (by decide) (h t hi)
  | succ d ih =>
    intro v t hv hi
    have hle := sr_rs_le m w v
    refine br_f (nI_ge (b := 4) (by omega) (by decide)) ⟨vp_in_nI (by omega) (by decide), nm_r (e' := upd t v 0) (by rw [nI_clamp (by omega)]) (sr_if (sr_tb m hm v (by omega)) (fun e => ?_) (fun e => ?_))⟩
    · have k := ih (v + 1) (upd (upd t v 0) v (nI (sr_rs m w v % 6))) (by omega) (fun i hiv => by
        by_cases z : i = v
        · subst z; rw [pk_us]; unfold sr_th; rw [if_pos (by omega), if_pos e]
        · rw [pk_un z, pk_un z]; exact hi i (by omega))
      simp only [sr_rs] at k
      rw [if_pos e] at k
      refine ⟨by decide, vp_in_nI (by omega) (by decide), nm_r (e' := upd (upd t v 0) v (nI (sr_rs m w v % 6))) ?_ ⟨by decide, nm_r (sr_d6 (by omega)) (nm_r (nI_1 v) k)⟩⟩
      rw [nI_clamp (by omega), sr_r6 (by omega)]
    · have k := ih (v + 1) (upd t v 0) (by omega) (fun i hiv => by
        by_cases z : i = v
        · subst z; rw [pk_us]; unfold sr_th; rw [if_pos (by omega), if_neg e]; rfl
        · rw [pk_un z]; exact hi i (by omega))
      simp only [sr_rs] at k
      rw [if_neg e] at k
      exact nm_r (nI_1 v) k
theorem sr_y_bnd {post : SY → Prop} {m w : Nat} (hm : m < 16) (hw : w < 2 ^ 31) (h : ∀ t, sr_yw t m w → post (Bdl, Bct, Btd, Bnw, Bkp, Bdr, Bdn, Bhd, Bsz, Bat, Bnt, t)) : wpY_bind post (Bdl, Bct, Btd, Bnw, Bkp, Bdr, Bdn, Bhd, Bsz, Bat, Bnt, Bbd) (nI m) (nI w) :=
  ⟨5, sr_y_bnl hm hw h 4 0 Bbd rfl (fun i hi => absurd hi (Nat.not_lt_zero i))⟩
theorem sr_y_bhl {post : Int32 → Prop} {r w : Nat} {ρ : sr_R} {T : Nat → Bool} (hr : r < 14) (h1 : sr_r2 r ρ Bhd Bsz Bat Bnt) (hb : sr_by Bnw T) (ht : sr_yw Bbd (sr_mk ρ) w) (h : post (sr_bI (sr_met ρ T w))) : ∀ d i, i + d = ρ.2.1 → (∀ j, j < i → sr_bd ρ T w j = true) → wY_bodyHolds_2 post (nI r) Bdl Bct Btd Bnw Bkp Bdr Bdn Bhd Bsz Bat Bnt Bbd (d + 1) (nI i) := by
  obtain ⟨wf, e1, e2, e4⟩ := h1
  have hl3 := wf.2.1
  have es : Bsz (nI r).toNatClampNeg = nI ρ.2.1 := by rw [nI_clamp (by omega)]; exact e2
  intro d
  induction d with
  | zero =>
    intro i hi hj
    have e : i = ρ.2.1 := by omega
    subst e
    rw [sr_met_o hj] at h
    refine ⟨vp_in_nI hr (by decide), ?_⟩
    rw [es]
    exact br_t (nI_le (Nat.le_refl _) (by omega)) h
  | succ d ih =>
    intro i hi hj
    have hil : i < ρ.2.1 := by omega
    obtain ⟨ea, en⟩ := e4 i hil
    have hA := (wf.2.2 i hil).1
    refine ⟨vp_in_nI hr (by decide), ?_⟩
    rw [es]
    refine br_f (nI_ge hil (by omega)) (br_f (nI_ge (b := 3) (by omega) (by decide)) ?_)
    have ep : 3 * nI r + nI i = nI (3 * r + i) := by rw [sr_m3, nI_add]
    rw [ep]
    have eA : Bat (nI (3 * r + i)).toNatClampNeg = nI (ρ.2.2.1 i) := by rw [nI_clamp (by omega)]; exact ea
    have eN : Bnt (nI (3 * r + i)).toNatClampNeg = sr_bI (ρ.2.2.2 i) := by rw [nI_clamp (by omega)]; exact en
    rw [eA, eN]
    have hpl := sr_pl_lt (m := sr_mk ρ) (w := w) hA
    refine ⟨vp_in_nI (by omega) (by decide), sr_y_plc hA ht ⟨vp_in_nI hpl (by decide), vp_in_nI (by omega) (by decide), ?_⟩⟩
    rw [nI_clamp (by omega), hb _ hpl]
    refine sr_if sr_bI_i (fun z => ?_) (fun z => nm_r (nI_1 i) (ih (i + 1) (by omega) (fun j hji => ?_)))
    · rw [sr_met_z hil (by unfold sr_bd; rw [z]; simp)] at h
      exact h
    · by_cases y : j = i
      · subst y; unfold sr_bd; simpa using z
      · exact hj j (by omega)
theorem sr_y_bh {post : Int32 → Prop} {r w : Nat} {ρ : sr_R} {T : Nat → Bool} (hr : r < 14) (h1 : sr_r2 r ρ Bhd Bsz Bat Bnt) (hb : sr_by Bnw T) (ht : sr_yw Bbd (sr_mk ρ) w) (h : post (sr_bI (sr_met ρ T w))) : wpY_bodyHolds post (Bdl, Bct, Btd, Bnw, Bkp, Bdr, Bdn, Bhd, Bsz, Bat, Bnt, Bbd) (nI r) :=
  ⟨ρ.2.1 + 1, sr_y_bhl hr h1 hb ht h ρ.2.1 0 (by omega) (fun j hj => absurd hj (Nat.not_lt_zero j))⟩
end
