section
variable {Fdl Frc : Int32} {Agf Ahf Afw : Nat → Int64} {Ada Adn Aba Abn Abl Ahd Avr Att : Nat → Int32}
def sr_r1 (r : Nat) (ρ : sr_R) (hd bl ba bn vr : Nat → Int32) : Prop := sr_wf ρ ∧ hd r = nI ρ.1 ∧ bl r = nI ρ.2.1 ∧ vr r = nI (sr_mk ρ) ∧ ∀ i, i < ρ.2.1 → ba (3 * r + i) = nI (ρ.2.2.1 i) ∧ bn (3 * r + i) = sr_bI (ρ.2.2.2 i)
def sr_tt (t : Nat → Int32) : Prop := ∀ i, 4 ≤ i → i < 10 → t i = nI (i - 4)
def sr_tw (t : Nat → Int32) (m w : Nat) : Prop := ∀ i, i < 10 → (i < 4 → m.testBit i = true) → t i = nI (sr_th m w i)
theorem sr_if {c d A B : Prop} (e : c ↔ d) (f : d → A) (g : ¬ d → B) : (c → A) ∧ (¬ c → B) := ⟨fun h => f (e.mp h), fun h => g (fun z => h (e.mpr z))⟩
theorem sr_x_rel {post : Int32 → Prop} {a : Nat} (ha : a < 800) (h : post (nI (a / 100))) : wpX_relationOf post (nI a) := by
  refine ⟨by decide, ?_⟩
  rw [sr_d100 (by omega)]
  exact h
theorem sr_x_lay {post : Int32 → Prop} {a : Nat} (ha : a < 800) (h : post (nI (a / 200))) : wpX_layerOf post (nI a) := by
  refine sr_x_rel ha ⟨by decide, ?_⟩
  rw [sr_d2 (by omega), show a / 100 / 2 = a / 200 by omega]
  exact h
theorem sr_x_mem {post : Int32 → Prop} {w : Int64} {f : Nat} (hf : f < 64) (h : post (sr_bI (sr_lb w f))) : wpX_memberOf post w (nI f) := by
  unfold wpX_memberOf
  rw [sr_mb w hf]
  exact h
theorem sr_x_occ {post : Int32 → Prop} {r v m : Nat} (hr : r < 14) (hv : v < 4) (hm : m < 16) (hvr : Avr r = nI m) (h : post (sr_bI (m.testBit v))) : wpX_occurs post (Fdl, Frc, Agf, Ahf, Afw, Ada, Adn, Aba, Abn, Abl, Ahd, Avr, Att) (nI r) (nI v) := by
  have e : Avr (nI r).toNatClampNeg = nI m := by rw [nI_clamp (by omega)]; exact hvr
  refine ⟨vp_in_nI hr (by decide), ?_⟩
  rw [e]
  cases k : m.testBit v with
  | true =>
    rw [k] at h
    exact br_t ((sr_tb m hm v hv).mpr k) h
  | false =>
    rw [k] at h
    exact br_f (fun z => by rw [(sr_tb m hm v hv).mp z] at k; exact nomatch k) h
theorem sr_x_asl {post : Int32 → Prop} {r m : Nat} (hr : r < 14) (hm : m < 16) (hvr : Avr r = nI m) (h : post (nI (sr_pw m 4))) : ∀ d v, v + d = 4 → wX_assignmentsOf_4 post (nI r) Fdl Frc Agf Ahf Afw Ada Adn Aba Abn Abl Ahd Avr Att (d + 1) (nI (sr_pw m v)) (nI v) := by
  intro d
  induction d with
  | zero =>
    intro v hv
    have e : v = 4 := by omega
    subst e
    exact br_t (by decide) h
  | succ d ih =>
    intro v hv
    refine br_f (nI_ge (b := 4) (by omega) (by decide)) (sr_x_occ hr (by omega) hm hvr ?_)
    have k := ih (v + 1) (by omega)
    simp only [sr_pw] at k
    cases e : m.testBit v with
    | false =>
      rw [e, if_neg (by decide)] at k
      exact br_t rfl (nm_r (nI_1 v) k)
    | true =>
      rw [e, if_pos rfl] at k
      refine br_f (by decide) (nm_r (e' := nI (6 * sr_pw m v)) ?_ (nm_r (nI_1 v) k))
      rw [sr_mx6, Nat.mul_comm]
theorem sr_x_asn {post : Int32 → Prop} {r m : Nat} (hr : r < 14) (hm : m < 16) (hvr : Avr r = nI m) (h : post (nI (sr_pw m 4))) : wpX_assignmentsOf post (Fdl, Frc, Agf, Ahf, Afw, Ada, Adn, Aba, Abn, Abl, Ahd, Avr, Att) (nI r) := ⟨5, sr_x_asl hr hm hvr h 4 0 rfl⟩
theorem sr_x_agl {post : SX → Prop} {r m w : Nat} (hr : r < 14) (hm : m < 16) (hvr : Avr r = nI m) (hw : w < 2 ^ 31) (h : ∀ t, sr_tt t → sr_tw t m w → post (Fdl, Frc, Agf, Ahf, Afw, Ada, Adn, Aba, Abn, Abl, Ahd, Avr, t)) : ∀ d v t, v + d = 4 → sr_tt t → (∀ i, i < v → m.testBit i = true → t i = nI (sr_rs m w i % 6)) → wX_assign_5 post (nI r) Fdl Frc (d + 1) (nI (sr_rs m w v)) (nI v) Agf Ahf Afw Ada Adn Aba Abn Abl Ahd Avr t := by
  intro d
  induction d with
  | zero =>
    intro v t hv ht hi
    have e : v = 4 := by omega
    subst e
    refine br_t (by decide) (h t ht ?_)
    intro i hi10 hb
    unfold sr_th
    by_cases z : i < 4
    · rw [if_pos z, if_pos (hb z)]
      exact hi i z (hb z)
    · rw [if_neg z]
      exact ht i (by omega) hi10
  | succ d ih =>
    intro v t hv ht hi
    have hle := sr_rs_le m w v
    refine br_f (nI_ge (b := 4) (by omega) (by decide)) (sr_x_occ hr (by omega) hm hvr ?_)
    cases e : m.testBit v with
    | false =>
      have k := ih (v + 1) t (by omega) ht (fun i hiv hb => by
        by_cases z : i = v
        · subst z; rw [e] at hb; exact nomatch hb
        · exact hi i (by omega) hb)
      simp only [sr_rs] at k
      rw [e, if_neg (by decide)] at k
      exact br_t rfl (nm_r (nI_1 v) k)
    | true =>
      have k := ih (v + 1) (upd t v (nI (sr_rs m w v % 6))) (by omega) (fun i h4 h10 => by rw [pk_un (by omega)]; exact ht i h4 h10) (fun i hiv hb => by
        by_cases z : i = v
        · subst z; rw [pk_us]
        · rw [pk_un z]; exact hi i (by omega) hb)
      simp only [sr_rs] at k
      rw [e, if_pos rfl] at k
      refine br_f (by decide) ⟨by decide, vp_in_nI (by omega) (by decide), nm_r (e' := upd t v (nI (sr_rs m w v % 6))) ?_ ⟨by decide, nm_r (sr_d6 (by omega)) (nm_r (nI_1 v) k)⟩⟩
      rw [nI_clamp (by omega), sr_r6 (by omega)]
theorem sr_x_ag {post : SX → Prop} {r m w : Nat} (hr : r < 14) (hm : m < 16) (hvr : Avr r = nI m) (hw : w < 2 ^ 31) (ht : sr_tt Att) (h : ∀ t, sr_tt t → sr_tw t m w → post (Fdl, Frc, Agf, Ahf, Afw, Ada, Adn, Aba, Abn, Abl, Ahd, Avr, t)) : wpX_assign post (Fdl, Frc, Agf, Ahf, Afw, Ada, Adn, Aba, Abn, Abl, Ahd, Avr, Att) (nI r) (nI w) :=
  ⟨5, sr_x_agl hr hm hvr hw h 4 0 Att rfl ht (fun i hi => absurd hi (Nat.not_lt_zero i))⟩
theorem sr_x_fct {post : Int32 → Prop} {a m w : Nat} (ha : a < 800) (hh : sr_hs m a) (ht : sr_tw Att m w) (h : post (nI (sr_ft m w a))) : wpX_factOf post (Fdl, Frc, Agf, Ahf, Afw, Ada, Adn, Aba, Abn, Abl, Ahd, Avr, Att) (nI a) := by
  refine ⟨by decide, by decide, nm_r (sr_t1 ha) ⟨by decide, nm_r (sr_t2 ha) ⟨vp_in_nI (Nat.mod_lt _ (by decide)) (by decide), vp_in_nI (Nat.mod_lt _ (by decide)) (by decide), ?_⟩⟩⟩
  rw [nI_clamp (by omega), nI_clamp (by omega), ht _ (Nat.mod_lt _ (by decide)) hh.1, ht _ (Nat.mod_lt _ (by decide)) hh.2, sr_m6, nI_add]
  exact h
theorem sr_x_cnl {post : Int32 → Prop} {w : Int64} (h : post (nI (sr_cn (fun f => sr_lb w f) 36))) : ∀ d v, v + d = 36 → wX_countOf_4 post w (d + 1) (nI (sr_cn (fun f => sr_lb w f) v)) (nI v) := by
  intro d
  induction d with
  | zero =>
    intro v hv
    have e : v = 36 := by omega
    subst e
    exact br_t (by decide) h
  | succ d ih =>
    intro v hv
    have k := ih (v + 1) (by omega)
    refine br_f (nI_ge (b := 36) (by omega) (by decide)) (sr_x_mem (by omega) (nm_r ?_ (nm_r (nI_1 v) k)))
    rw [sr_bI_n, nI_add]
    rfl
theorem sr_x_cnt {post : Int32 → Prop} {w : Int64} (h : post (nI (sr_cn (fun f => sr_lb w f) 36))) : wpX_countOf post w := ⟨37, sr_x_cnl h 36 0 rfl⟩
end
