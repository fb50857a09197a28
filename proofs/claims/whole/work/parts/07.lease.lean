/-- how many of the last d keys have the lease -/
def lc_cw (kl : Nat → Int32) (l : Int32) : Nat → Nat
  | 0 => 0
  | d + 1 => lc_cw kl l d + (if kl (15 - d) = l then 1 else 0)
theorem lc_cw_u {kl : Nat → Int32} {l x : Int32} {j : Nat} : ∀ d, j + d < 16 → lc_cw (upd kl j x) l d = lc_cw kl l d := by
  intro d
  induction d with
  | zero => intro _; rfl
  | succ d ih =>
    intro h
    simp only [lc_cw, ih (by omega), pk_un (f := kl) (k := j) (x := x) (j := 15 - d) (by omega)]
theorem lc_cw_0 {kl : Nat → Int32} {l : Int32} : ∀ d, d ≤ 16 → lc_cw kl l d = 0 → ∀ i, 16 - d ≤ i → i < 16 → ¬ kl i = l := by
  intro d
  induction d with
  | zero => intro _ _ i h1 h2; omega
  | succ d ih =>
    intro hd h i h1 h2
    simp only [lc_cw] at h
    by_cases z : kl (15 - d) = l
    · rw [if_pos z] at h; omega
    · rw [if_neg z] at h
      by_cases e : i = 15 - d
      · rw [e]; exact z
      · exact ih (by omega) (by omega) i (by omega) h2
section
variable {n c N : Nat} {od tm : Int32} {pr va cr mo ve kl op ov er ek ep ev ck cy cm cn ak ap av ac gr tt ex ba el se co : Nat → Int32}
theorem lc_xCount {l : Int32} : ∀ (d j x : Nat), j + d = 16 → ∀ post : Int32 → Prop, post (nI (x + lc_cw kl l d)) → wX_countKeysWith_4 post l (nI n) (nI c) (nI N) od tm pr va cr mo ve kl op ov er ek ep ev ck cy cm cn ak ap av ac gr tt ex (d + 1) (nI x) (nI j) := by
  intro d
  induction d with
  | zero =>
    intro j x hd post hp
    have e : j = 16 := by omega
    subst e
    exact br_t (nI_le (a := 16) (b := 16) (by decide) (by decide)) hp
  | succ d ih =>
    intro j x hd post hp
    have hv : vp_in (nI j) 16 := vp_in_nI (by omega) (by decide)
    have hc : (nI j).toNatClampNeg = j := nI_clamp (by omega)
    have hg : ¬ (16 : Int32) ≤ nI j := nI_ge (b := 16) (by omega) (by decide)
    have e : 15 - d = j := by omega
    simp only [lc_cw, e] at hp
    by_cases z : kl j = l
    · rw [if_pos z] at hp
      exact br_f hg ⟨hv, br_t (by rw [hc]; exact z) (nm_r (nI_1 x) (nm_r (nI_1 j) (ih (j + 1) (x + 1) (by omega) post (by rw [show x + 1 + lc_cw kl l d = x + (lc_cw kl l d + 1) by omega]; exact hp))))⟩
    · rw [if_neg z] at hp
      exact br_f hg ⟨hv, br_f (by rw [hc]; exact z) (nm_r (nI_1 j) (ih (j + 1) x (by omega) post hp))⟩
theorem lc_m1l {l : Nat} (hl : l < 4) : ¬ (-1 : Int32) = nI l := fun z => absurd (show nI l < 0 by rw [← z]; decide) (nI_pos (by omega))
/-- no key has the lease: the reference only looks -/
theorem lc_idle {l K : Nat} {x2 : Int32} (hK : K < 2 ^ 30) (hn : n ≤ 76) (R : lc_R n N K pr va cr mo ve kl op ov er ek ep ev ba el) : ∀ (d j : Nat) (se : Nat → Int32), j + d = 16 → (∀ i, j ≤ i → i < 16 → ¬ kl i = nI l) → ∃ se', ∀ post : Int32 → SY → Prop, post 0 (od, (nI N), (nI n), (nI c), tm, ba, er, ek, ep, ev, el, se', co, ak, ap, av, ac, gr, tt, ex) → wY_revoke_30 post (nI l) x2 (d + 1) 0 (nI j) od (nI N) (nI n) (nI c) tm ba er ek ep ev el se co ak ap av ac gr tt ex := by
  intro d
  induction d with
  | zero =>
    intro j se hd _
    have e : j = 16 := by omega
    subst e
    exact ⟨se, fun post hp => br_t (nI_le (a := 16) (b := 16) (by decide) (by decide)) (br_t (by decide) hp)⟩
  | succ d ih =>
    intro j se hd h
    have hg : ¬ (16 : Int32) ≤ nI j := nI_ge (b := 16) (by omega) (by decide)
    obtain ⟨s1, e1, hp1⟩ := lc_yPres (n := n) (c := c) (N := N) (od := od) (tm := tm) (ba := ba) (er := er) (ek := ek) (ep := ep) (ev := ev) (el := el) (se := se) (co := co) (ak := ak) (ap := ap) (av := av) (ac := ac) (gr := gr) (tt := tt) (ex := ex) R hK (by omega) (show j < 16 by omega)
    obtain ⟨s2, hY⟩ := ih (j + 1) s1 (by omega) (fun i h1 h2 => h i (by omega) h2)
    refine ⟨s2, fun post hp => br_f hg (hp1 _ ?_)⟩
    by_cases z : pr j = 0
    · exact br_t z (nm_r (nI_1 j) (hY post hp))
    · have e4 : s1 4 = kl j := congrArg (fun t => t.2.2.2.2) e1
      exact br_f z (br_f (by rw [e4]; exact h j (by omega) (by omega)) (nm_r (nI_1 j) (hY post hp)))
/-- the keys of the lease are deleted, both sides in step; the reference's newest revision follows at the end -/
theorem lc_endLoop {l : Nat} (hl : l < 4) (hN : N + 1 < 2 ^ 31) : ∀ (d j n x K : Nat) (pr va cr mo ve kl er ek ep ev el se : Nat → Int32), j + d = 16 → lc_R n (N + 1) K pr va cr mo ve kl op ov er ek ep ev ba el → K + d < 2 ^ 30 → x + d < 2 ^ 30 → n + lc_pc pr 16 ≤ 76 →
    (∀ i, j ≤ i → i < 16 → lc_lk er ek ep ev el (nI i) (nI N) (lc_bs ba i) n = lc_lk er ek ep ev el (nI i) (nI (N + 1)) (lc_bs ba i) n) →
    ∃ (n' : Nat) (pr' va' cr' mo' ve' kl' er' ek' ep' ev' el' se' : Nat → Int32), lc_R n' (N + 1) (K + d) pr' va' cr' mo' ve' kl' op ov er' ek' ep' ev' ba el' ∧ n' + lc_pc pr' 16 ≤ 76 ∧
      (∀ (post : Int32 → SX → Prop) (r : Int32), post r ((nI n'), (nI c), (nI (N + 1)), od, tm, pr', va', cr', mo', ve', kl', op, ov, er', ek', ep', ev', ck, cy, cm, cn, ak, ap, av, ac, gr, tt, ex) → wX_endLease_31 post (nI l) r (d + 1) (nI j) (nI n) (nI c) (nI (N + 1)) od tm pr va cr mo ve kl op ov er ek ep ev ck cy cm cn ak ap av ac gr tt ex) ∧
      (∀ post : Int32 → SY → Prop, 0 < x + lc_cw kl (nI l) d → post (nI (x + lc_cw kl (nI l) d)) (od, (nI (N + 1)), (nI n'), (nI c), tm, ba, er', ek', ep', ev', el', se', co, ak, ap, av, ac, gr, tt, ex) → wY_revoke_30 post (nI l) (nI (N + 1)) (d + 1) (nI x) (nI j) od (nI N) (nI n) (nI c) tm ba er ek ep ev el se co ak ap av ac gr tt ex) := by
  intro d
  induction d with
  | zero =>
    intro j n x K pr va cr mo ve kl er ek ep ev el se hd R hK hx hp _
    have e : j = 16 := by omega
    subst e
    have h16 : (16 : Int32) ≤ nI 16 := nI_le (a := 16) (b := 16) (by decide) (by decide)
    exact ⟨n, pr, va, cr, mo, ve, kl, er, ek, ep, ev, el, se, R, hp, fun post r h => br_t h16 h, fun post h0 h => br_t h16 (br_f (nI_nle h0 (by have : lc_cw kl (nI l) 0 = 0 := rfl; omega)) h)⟩
  | succ d ih =>
    intro j n x K pr va cr mo ve kl er ek ep ev el se hd R hK hx hp hu
    have hj : j < 16 := by omega
    have hg : ¬ (16 : Int32) ≤ nI j := nI_ge (b := 16) (by omega) (by decide)
    have hv : vp_in (nI j) 16 := vp_in_nI hj (by decide)
    have hc : (nI j).toNatClampNeg = j := nI_clamp (by omega)
    have ed : 15 - d = j := by omega
    obtain ⟨w, hw, ew⟩ := lc_R_v R hj
    have hlk := (hu j (Nat.le_refl _) hj).trans (R.2.2.2.2.2.1 j hj)
    rw [ew] at hlk
    obtain ⟨s1, e1, hp1⟩ := lc_yPresent (n := n) (c := c) (N := N) (od := od) (tm := tm) (ba := ba) (er := er) (ek := ek) (ep := ep) (ev := ev) (el := el) (se := se) (co := co) (ak := ak) (ap := ap) (av := av) (ac := ac) (gr := gr) (tt := tt) (ex := ex) (j := j) (w := w) hj (by omega) (by omega) hlk
    have e4 : s1 4 = kl j := congrArg (fun t => t.2.2.2.2) e1
    have h7 := R.2.2.2.2.2.2 j hj
    by_cases z : kl j = nI l
    · have hve : ¬ ve j = 0 := fun y => lc_m1l hl ((h7.2 y).symm.trans z)
      have hw0 : ¬ w = 0 := fun y => hve (by rw [ew, y]; rfl)
      have hpr : ¬ pr j = 0 := by rw [h7.1, if_neg hve]; exact lc_10
      have hpc := lc_pc_d pr j hpr 16 hj
      obtain ⟨n', pr', va', cr', mo', ve', kl', er', ek', ep', ev', el', se', R', hp', hX, hY⟩ := ih (j + 1) (n + 1) (x + 1) (K + 1) _ _ _ _ _ _ _ _ _ _ _ s1 (by omega) (lc_R_d hj R) (by omega) (by omega) (by omega) (fun i h1 h2 => by
        rw [lc_lk_uf (fun y => absurd ((nI_eq (by omega) (by omega)).mp y.1) (by omega)), lc_lk_uf (fun y => absurd ((nI_eq (by omega) (by omega)).mp y.1) (by omega))]
        exact hu i (by omega) h2)
      have ecw : x + 1 + lc_cw (upd kl j (-1)) (nI l) d = x + lc_cw kl (nI l) (d + 1) := by
        rw [lc_cw_u d (by omega)]
        simp only [lc_cw, ed, if_pos z]
        omega
      rw [ecw] at hY
      refine ⟨n', pr', va', cr', mo', ve', kl', er', ek', ep', ev', el', se', lc_R_K (by omega) R', hp', fun post r h => br_f hg ⟨hv, br_t (by rw [hc]; exact z) (lc_xDelKey hj (by omega) (nm_r (nI_1 j) (hX post r h)))⟩, fun post h0 h => br_f hg (hp1 _ ?_)⟩
      rw [if_neg hw0]
      exact br_f lc_10 (br_t (e4.trans z) (lc_yAdd (by omega) (nm_r (nI_1 x) (nm_r (nI_1 j) (hY post h0 h)))))
    · obtain ⟨n', pr', va', cr', mo', ve', kl', er', ek', ep', ev', el', se', R', hp', hX, hY⟩ := ih (j + 1) n x K pr va cr mo ve kl er ek ep ev el s1 (by omega) R (by omega) (by omega) hp (fun i h1 h2 => hu i (by omega) h2)
      have ecw : lc_cw kl (nI l) (d + 1) = lc_cw kl (nI l) d := by simp only [lc_cw, ed, if_neg z]; omega
      rw [← ecw] at hY
      refine ⟨n', pr', va', cr', mo', ve', kl', er', ek', ep', ev', el', se', lc_R_K (by omega) R', hp', fun post r h => br_f hg ⟨hv, br_f (by rw [hc]; exact z) (nm_r (nI_1 j) (hX post r h))⟩, fun post h0 h => br_f hg (hp1 _ ?_)⟩
      by_cases y : w = 0
      · rw [if_pos y]
        exact br_t rfl (nm_r (nI_1 j) (hY post h0 h))
      · rw [if_neg y]
        exact br_f lc_10 (br_f (by rw [e4]; exact z) (nm_r (nI_1 j) (hY post h0 h)))
theorem lc_cw_le {kl : Nat → Int32} {l : Int32} : ∀ d, lc_cw kl l d ≤ d := by
  intro d
  induction d with
  | zero => exact Nat.le_refl _
  | succ d ih => simp only [lc_cw]; split <;> omega
/-- the end of a lease -/
theorem lc_end {l B K : Nat} (hl : l < 4) (hg : ¬ gr l = 0) (hB : B < 2 ^ 30) (hK : K + 16 < 2 ^ 30) (h1 : N ≤ B) (h2 : n + lc_pc pr 16 ≤ 76) (h3 : lc_R n N K pr va cr mo ve kl op ov er ek ep ev ba el) (h4 : lc_C c ck cy cm cn co) (h5 : lc_A ak ap av ac) :
    ∃ (r : Int32) (u' : SX) (v' : SY), lc_Rel (B + 1) (K + 16) u' v' ∧ (∀ post : Int32 → SX → Prop, post r u' → wpX_endLease post ((nI n), (nI c), (nI N), od, tm, pr, va, cr, mo, ve, kl, op, ov, er, ek, ep, ev, ck, cy, cm, cn, ak, ap, av, ac, gr, tt, ex) (nI l)) ∧ (∀ post : Int32 → SY → Prop, post r v' → wpY_revoke post (od, (nI N), (nI n), (nI c), tm, ba, er, ek, ep, ev, el, se, co, ak, ap, av, ac, gr, tt, ex) (nI l)) := by
  have hv : vp_in (nI l) 4 := vp_in_nI hl (by decide)
  have hb : l < 2 ^ 31 := by omega
  have hle := lc_cw_le (kl := kl) (l := nI l) 16
  by_cases z : lc_cw kl (nI l) 16 = 0
  · obtain ⟨s1, hY⟩ := lc_idle (n := n) (c := c) (N := N) (od := od) (tm := tm) (ba := ba) (er := er) (ek := ek) (ep := ep) (ev := ev) (el := el) (co := co) (ak := ak) (ap := ap) (av := av) (ac := ac) (tt := tt) (ex := ex) (gr := upd gr l 0) (x2 := nI (N + 1)) (by omega) (by omega) h3 16 0 se (by omega) (fun i h h' => lc_cw_0 16 (by omega) z i (by omega) h')
    refine ⟨0, _, _, lc_mk (B := B + 1) (K := K + 16) (od := od) (tm := tm) (gr := upd gr l 0) (tt := tt) (ex := ex) (se := s1) (by omega) h2 (lc_R_K (by omega) h3) h4 h5, fun post hp => ?_, fun post hp => ?_⟩
    · refine ⟨hv, nm_r (lc_u hb) ⟨17, lc_xCount 16 0 0 (by omega) _ ?_⟩⟩
      rw [z]
      exact br_t rfl hp
    · unfold wpY_revoke
      exact lc_yGr hl hg (br_f lc_10 ⟨hv, nm_r (lc_u hb) (nm_r (nI_1 N) ⟨17, hY post hp⟩)⟩)
  · obtain ⟨n', pr', va', cr', mo', ve', kl', er', ek', ep', ev', el', se', R', hp', hX, hY⟩ := lc_endLoop (c := c) (od := od) (tm := tm) (op := op) (ov := ov) (ck := ck) (cy := cy) (cm := cm) (cn := cn) (ak := ak) (ap := ap) (av := av) (ac := ac) (gr := upd gr l 0) (tt := tt) (ex := ex) (ba := ba) (co := co) hl (show N + 1 < 2 ^ 31 by omega) 16 0 n 0 K pr va cr mo ve kl er ek ep ev el se (by omega) (lc_R_b (by omega) h3) (by omega) (by omega) h2 (fun i _ _ => lc_lk_r n fun i hi _ => ⟨fun _ => Int32.le_trans (h3.1 i hi) (nI_le (by omega) (by omega)), fun _ => h3.1 i hi⟩)
    rw [Nat.zero_add] at hY
    refine ⟨nI (lc_cw kl (nI l) 16), _, _, lc_mk (B := B + 1) (K := K + 16) (od := od) (tm := tm) (gr := upd gr l 0) (tt := tt) (ex := ex) (se := se') (by omega) hp' R' h4 h5, fun post hp => ?_, fun post hp => ?_⟩
    · refine ⟨hv, nm_r (lc_u hb) ⟨17, lc_xCount 16 0 0 (by omega) _ ?_⟩⟩
      rw [Nat.zero_add]
      exact br_f (nI_ne0 (by omega) (by omega)) (nm_r (nI_1 N) ⟨17, hX post _ hp⟩)
    · unfold wpY_revoke
      exact lc_yGr hl hg (br_f lc_10 ⟨hv, nm_r (lc_u hb) (nm_r (nI_1 N) ⟨17, hY post (by omega) hp⟩)⟩)
end
theorem i_vc_revoke {k : Nat} {u : SX} {v : SY} (I : i_Rel k u v) (hk : k + 5 ≤ 2560) (v1 : Int32) : wpX_revoke (fun r u' => wpY_revoke (fun r' v' => r' = r ∧ i_Rel (k + 5) u' v') v v1) u v1 := by
  obtain ⟨n, c, N, od, tm, pr, va, cr, mo, ve, kl, op, ov, er, ek, ep, ev, ck, cy, cm, cn, ak, ap, av, ac, gr, tt, ex, ba, el, se, co, rfl, rfl, h1, h2, h3, h4, h5⟩ := I
  unfold wpX_revoke
  rcases lc_grant (n := n) (c := c) (N := N) (od := od) (tm := tm) (pr := pr) (va := va) (cr := cr) (mo := mo) (ve := ve) (kl := kl) (op := op) (ov := ov) (er := er) (ek := ek) (ep := ep) (ev := ev) (ck := ck) (cy := cy) (cm := cm) (cn := cn) (ak := ak) (ap := ap) (av := av) (ac := ac) (gr := gr) (tt := tt) (ex := ex) (ba := ba) (el := el) (se := se) (co := co) v1 with ⟨gx, gy⟩ | ⟨l, hl, rfl, hg, gx, gy⟩
  · refine gx _ (br_t rfl ?_)
    unfold wpY_revoke
    exact gy _ (br_t rfl ⟨rfl, i_up (lc_mk h1 h2 h3 h4 h5)⟩)
  · obtain ⟨r, u', v', R', hX, hY⟩ := lc_end (n := n) (c := c) (N := N) (od := od) (tm := tm) (pr := pr) (va := va) (cr := cr) (mo := mo) (ve := ve) (kl := kl) (op := op) (ov := ov) (er := er) (ek := ek) (ep := ep) (ev := ev) (ck := ck) (cy := cy) (cm := cm) (cn := cn) (ak := ak) (ap := ap) (av := av) (ac := ac) (gr := gr) (tt := tt) (ex := ex) (ba := ba) (el := el) (se := se) (co := co) hl hg (by omega) (by omega) h1 h2 h3 h4 h5
    exact gx _ (br_f lc_10 (hX _ (hY _ ⟨rfl, lc_i (by omega) (by omega) R'⟩)))
