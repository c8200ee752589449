section
variable {Fdl Frc : Int32} {Agf Ahf Afw : Nat → Int64} {Ada Adn Aba Abn Abl Ahd Avr Att : Nat → Int32}
variable {Bdl Bct : Int32} {Btd Bnw Bkp Bdr Bdn Bhd Bsz Bat Bnt Bbd : Nat → Int32}
def sr_D (d : Nat) (A : Nat → Nat) (N : Nat → Bool) (da dn : Nat → Int32) : Prop := ∀ i, i < d → A i < 800 ∧ da i = nI (A i) ∧ dn i = sr_bI (N i)
def sr_J (c d : Nat) (G H : Nat → Bool) (R : Nat → sr_R) (A : Nat → Nat) (N : Nat → Bool) (u : SX) (v : SY) : Prop := match u, v with
  | (Fdl, Frc, Agf, Ahf, Afw, Ada, Adn, Aba, Abn, Abl, Ahd, Avr, Att), (Bdl, Bct, Btd, Bnw, Bkp, Bdr, Bdn, Bhd, Bsz, Bat, Bnt, Bbd) => Fdl = nI d ∧ Frc = nI c ∧ Bdl = nI d ∧ Bct = nI c ∧ c ≤ 14 ∧ d ≤ 3 ∧ sr_bx Agf G ∧ sr_by Btd G ∧ sr_bx Ahf H ∧ sr_dn R c 14 G 4 H ∧ (∀ r, r < c → sr_r1 r (R r) Ahd Abl Aba Abn Avr) ∧ (∀ r, r < c → sr_r2 r (R r) Bhd Bsz Bat Bnt) ∧ sr_tt Att ∧ sr_D d A N Ada Adn ∧ sr_D d A N Bdr Bdn
def i_Rel (_ : Nat) (u : SX) (v : SY) : Prop := ∃ c d G H R A N, sr_J c d G H R A N u v
theorem i_up {k : Nat} {u : SX} {v : SY} (h : i_Rel k u v) : i_Rel (k + 5) u v := h
theorem sr_x_irg {post : Int32 → Prop} {j : Nat} (hj : j < 8) (h : post 1) : wpX_isRelation post (nI j) := br_f (nI_pos (by omega)) (br_f (nI_ge (b := 8) hj (by decide)) h)
theorem sr_x_irb {post : Int32 → Prop} {x : Int32} (hx : ¬ sr_gd 8 x) (h : post 0) : wpX_isRelation post x := br_c (fun _ => h) (fun z => br_t (Int32.not_lt.mp (sr_gd_n (by decide) hx z)) h)
theorem sr_x_itg {post : Int32 → Prop} {j : Nat} (hj : j < 6) (h : post 1) : wpX_isThing post (nI j) := br_f (nI_pos (by omega)) (br_f (nI_ge (b := 6) hj (by decide)) h)
theorem sr_x_itb {post : Int32 → Prop} {x : Int32} (hx : ¬ sr_gd 6 x) (h : post 0) : wpX_isThing post x := br_c (fun _ => h) (fun z => br_t (Int32.not_lt.mp (sr_gd_n (by decide) hx z)) h)
theorem sr_x_iag {post : Int32 → Prop} {j : Nat} (hj : j < 800) (h : post 1) : wpX_isAtom post (nI j) := br_f (nI_pos (by omega)) (br_f (nI_ge (b := 800) hj (by decide)) h)
theorem sr_x_iab {post : Int32 → Prop} {x : Int32} (hx : ¬ sr_gd 800 x) (h : post 0) : wpX_isAtom post x := br_c (fun _ => h) (fun z => br_t (Int32.not_lt.mp (sr_gd_n (by decide) hx z)) h)
theorem sr_x_iug {post : Int32 → Prop} {c j : Nat} (hc : c ≤ 14) (hj : j < c) (h : post 1) : wpX_isRule post (Fdl, nI c, Agf, Ahf, Afw, Ada, Adn, Aba, Abn, Abl, Ahd, Avr, Att) (nI j) := br_f (nI_pos (by omega)) (br_f (nI_ge hj (by omega)) h)
theorem sr_x_iub {post : Int32 → Prop} {c : Nat} {x : Int32} (hc : c ≤ 14) (hx : ¬ sr_gd c x) (h : post 0) : wpX_isRule post (Fdl, nI c, Agf, Ahf, Afw, Ada, Adn, Aba, Abn, Abl, Ahd, Avr, Att) x := br_c (fun _ => h) (fun z => br_t (Int32.not_lt.mp (sr_gd_n (by omega) hx z)) h)
theorem sr_le_of {x b b' : Int32} (h : ¬ x < b') (e : b < b') : ¬ x ≤ b := fun z => h (Int32.lt_of_le_of_lt z e)
theorem sr_y_bdg {post : Int32 → Prop} {j : Nat} (hj : j < 8) (h : post 0) : wpY_bad post (Bdl, Bct, Btd, Bnw, Bkp, Bdr, Bdn, Bhd, Bsz, Bat, Bnt, Bbd) (nI j) := br_f (nI_pos (by omega)) (br_t (nI_le (b := 7) (by omega) (by decide)) h)
theorem sr_y_bdb {post : Int32 → Prop} {x : Int32} (hx : ¬ sr_gd 8 x) (h : post 1) : wpY_bad post (Bdl, Bct, Btd, Bnw, Bkp, Bdr, Bdn, Bhd, Bsz, Bat, Bnt, Bbd) x := br_c (fun _ => h) (fun z => br_f (sr_le_of (sr_gd_n (by decide) hx z) (by decide)) h)
theorem sr_y_btg {post : Int32 → Prop} {j : Nat} (hj : j < 6) (h : post 0) : wpY_badThing post (Bdl, Bct, Btd, Bnw, Bkp, Bdr, Bdn, Bhd, Bsz, Bat, Bnt, Bbd) (nI j) := br_f (nI_pos (by omega)) (br_t (nI_le (b := 5) (by omega) (by decide)) h)
theorem sr_y_btb {post : Int32 → Prop} {x : Int32} (hx : ¬ sr_gd 6 x) (h : post 1) : wpY_badThing post (Bdl, Bct, Btd, Bnw, Bkp, Bdr, Bdn, Bhd, Bsz, Bat, Bnt, Bbd) x := br_c (fun _ => h) (fun z => br_f (sr_le_of (sr_gd_n (by decide) hx z) (by decide)) h)
theorem sr_y_bug {post : Int32 → Prop} {c j : Nat} (hc : c ≤ 14) (hj : j < c) (h : post 0) : wpY_badRule post (Bdl, nI c, Btd, Bnw, Bkp, Bdr, Bdn, Bhd, Bsz, Bat, Bnt, Bbd) (nI j) := br_f (nI_pos (by omega)) (br_f (nI_ge hj (by omega)) (br_t (nI_le (b := 13) (by omega) (by decide)) h))
theorem sr_y_bub {post : Int32 → Prop} {c : Nat} {x : Int32} (hc : c ≤ 14) (hx : ¬ sr_gd c x) (h : post 1) : wpY_badRule post (Bdl, nI c, Btd, Bnw, Bkp, Bdr, Bdn, Bhd, Bsz, Bat, Bnt, Bbd) x := br_c (fun _ => h) (fun z => br_t (Int32.not_lt.mp (sr_gd_n (by omega) hx z)) h)
theorem sr_cn_bx {a : Nat → Int64} {S : Nat → Bool} {r : Nat} (h : sr_bx a S) (hr : r < 8) : sr_cn (fun f => sr_lb (a r) f) 36 = sr_cn (fun f => S (36 * r + f)) 36 := sr_cn_eq fun f hf => sr_bx_l h hr hf
theorem sr_p3 (r x y : Nat) : 36 * nI r + 6 * nI x + nI y = nI (36 * r + (6 * x + y)) := by
  rw [sr_m36, sr_m6, nI_add, nI_add, Nat.add_assoc]
theorem sr_p2 (x y : Nat) : 6 * nI x + nI y = nI (6 * x + y) := by
  rw [sr_m6, nI_add]
theorem sr_p1 (r f : Nat) : 36 * nI r + nI f = nI (36 * r + f) := by
  rw [sr_m36, nI_add]
theorem sr_y_szl {post : Int32 → SY → Prop} {r : Nat} {S : Nat → Bool} (hr : r < 8) (hb : sr_by Bnw S) (h : post (nI (sr_cn (fun f => S (36 * r + f)) 36)) (Bdl, Bct, Btd, Bnw, Bkp, Bdr, Bdn, Bhd, Bsz, Bat, Bnt, Bbd)) : ∀ d v, v + d = 36 → wY_size_19 post (nI r) Bdl Bct Btd Bnw Bkp Bdr Bdn Bhd Bsz Bat Bnt Bbd (d + 1) (nI (sr_cn (fun f => S (36 * r + f)) v)) (nI v) := by
  intro d
  induction d with
  | zero =>
    intro v hv
    have e : v = 36 := by omega
    subst e
    exact br_t (by decide) h
  | succ d ih =>
    intro v hv
    have k := ih (v + 1) (by omega)
    simp only [sr_cn] at k
    refine br_f (nI_ge (b := 36) (by omega) (by decide)) ?_
    rw [sr_p1, nI_clamp (by omega), hb _ (by omega)]
    refine ⟨vp_in_nI (by omega) (by decide), sr_if sr_bI_0 (fun z => ?_) (fun z => ?_)⟩
    · rw [if_neg (by rw [z]; decide), Nat.add_zero] at k
      exact nm_r (nI_1 v) k
    · rw [if_pos (by simpa using z)] at k
      exact nm_r (nI_1 _) (nm_r (nI_1 v) k)
theorem sr_y_chl {post : Int32 → SY → Prop} {r : Nat} {S : Nat → Bool} (hr : r < 8) (hb : sr_by Btd S) (h : post (nI (sr_cn (fun f => S (36 * r + f)) 36)) (Bdl, Bct, Btd, Bnw, Bkp, Bdr, Bdn, Bhd, Bsz, Bat, Bnt, Bbd)) : ∀ d v, v + d = 36 → wY_chain_122 post (nI r) Bdl Bct Btd Bnw Bkp Bdr Bdn Bhd Bsz Bat Bnt Bbd (d + 1) (nI (sr_cn (fun f => S (36 * r + f)) v)) (nI v) := by
  intro d
  induction d with
  | zero =>
    intro v hv
    have e : v = 36 := by omega
    subst e
    exact br_t (by decide) h
  | succ d ih =>
    intro v hv
    have k := ih (v + 1) (by omega)
    simp only [sr_cn] at k
    refine br_f (nI_ge (b := 36) (by omega) (by decide)) ?_
    rw [sr_p1, nI_clamp (by omega), hb _ (by omega)]
    refine ⟨vp_in_nI (by omega) (by decide), sr_if sr_bI_0 (fun z => ?_) (fun z => ?_)⟩
    · rw [if_neg (by rw [z]; decide), Nat.add_zero] at k
      exact nm_r (nI_1 v) k
    · rw [if_pos (by simpa using z)] at k
      exact nm_r (nI_1 _) (nm_r (nI_1 v) k)
end
