section
variable {n c N : Nat} {od tm : Int32} {pr va cr mo ve kl op ov er ek ep ev ck cy cm cn ak ap av ac gr tt ex ba el se co : Nat → Int32}
/-- the events and both pictures of the keys -/
def lc_R (n N K : Nat) (pr va cr mo ve kl op ov er ek ep ev ba el : Nat → Int32) : Prop :=
  (∀ i, i < n → er i ≤ nI N) ∧
  (∀ i j, i ≤ j → j < n → er i ≤ er j) ∧
  (∀ i, i < n → ∃ q, q < 16 ∧ ek i = nI q) ∧
  (∀ i, i < n → (ep i = 0 ∧ ev i = 0) ∨ ep i = 1) ∧
  (∀ j, j < 16 → (∃ w, ba (j * 5 + 1) = nI w ∧ w + n ≤ K) ∧ ov j = ba (j * 5) ∧ op j = (if ba (j * 5 + 1) = 0 then 0 else 1)) ∧
  (∀ j, j < 16 → lc_lk er ek ep ev el (nI j) (nI N) (lc_bs ba j) n = (va j, ve j, mo j, cr j, kl j)) ∧
  (∀ j, j < 16 → pr j = (if ve j = 0 then 0 else 1) ∧ (ve j = 0 → kl j = -1))
/-- the conditions put together -/
def lc_C (c : Nat) (ck cy cm cn co : Nat → Int32) : Prop := c ≤ 4 ∧ ∀ i, i < c → (∃ a, a < 4 ∧ ck i = nI a) ∧ (∃ q, q < 16 ∧ cy i = nI q) ∧ (∃ m, m < 4 ∧ cm i = nI m) ∧ co (i * 4) = ck i ∧ co (i * 4 + 1) = cy i ∧ co (i * 4 + 2) = cm i ∧ co (i * 4 + 3) = cn i
/-- one list of actions -/
def lc_L (l m : Nat) (ak ap av : Nat → Int32) : Prop := ∀ i, i < m → (∃ q, q < 16 ∧ ak (l * 4 + i) = nI q) ∧ ((ap (l * 4 + i) = 0 ∧ av (l * 4 + i) = 0) ∨ ap (l * 4 + i) = 1) ∧ ∀ i', i' < m → ak (l * 4 + i) = ak (l * 4 + i') → i = i'
/-- both lists of actions -/
def lc_A (ak ap av ac : Nat → Int32) : Prop := ∀ l, l < 2 → ∃ m, m ≤ 4 ∧ ac l = nI m ∧ lc_L l m ak ap av
def lc_Rel (B K : Nat) (u : SX) (v : SY) : Prop := ∃ (n c N : Nat) (od tm : Int32) (pr va cr mo ve kl op ov er ek ep ev ck cy cm cn ak ap av ac gr tt ex ba el se co : Nat → Int32), u = ((nI n), (nI c), (nI N), od, tm, pr, va, cr, mo, ve, kl, op, ov, er, ek, ep, ev, ck, cy, cm, cn, ak, ap, av, ac, gr, tt, ex) ∧ v = (od, (nI N), (nI n), (nI c), tm, ba, er, ek, ep, ev, el, se, co, ak, ap, av, ac, gr, tt, ex) ∧ N ≤ B ∧ n + lc_pc pr 16 ≤ 76 ∧ lc_R n N K pr va cr mo ve kl op ov er ek ep ev ba el ∧ lc_C c ck cy cm cn co ∧ lc_A ak ap av ac
theorem lc_mk {B K : Nat} (h1 : N ≤ B) (h2 : n + lc_pc pr 16 ≤ 76) (h3 : lc_R n N K pr va cr mo ve kl op ov er ek ep ev ba el) (h4 : lc_C c ck cy cm cn co) (h5 : lc_A ak ap av ac) : lc_Rel B K ((nI n), (nI c), (nI N), od, tm, pr, va, cr, mo, ve, kl, op, ov, er, ek, ep, ev, ck, cy, cm, cn, ak, ap, av, ac, gr, tt, ex) (od, (nI N), (nI n), (nI c), tm, ba, er, ek, ep, ev, el, se, co, ak, ap, av, ac, gr, tt, ex) :=
  ⟨n, c, N, od, tm, pr, va, cr, mo, ve, kl, op, ov, er, ek, ep, ev, ck, cy, cm, cn, ak, ap, av, ac, gr, tt, ex, ba, el, se, co, rfl, rfl, h1, h2, h3, h4, h5⟩
theorem lc_R_K {K K' : Nat} (h : K ≤ K') (R : lc_R n N K pr va cr mo ve kl op ov er ek ep ev ba el) : lc_R n N K' pr va cr mo ve kl op ov er ek ep ev ba el := by
  obtain ⟨a1, a2, a3, a4, a5, a6, a7⟩ := R
  refine ⟨a1, a2, a3, a4, fun j hj => ?_, a6, a7⟩
  obtain ⟨⟨w, h1, h2⟩, h3⟩ := a5 j hj
  exact ⟨⟨w, h1, by omega⟩, h3⟩
theorem lc_Rel_m {B B' K K' : Nat} {u : SX} {v : SY} (hB : B ≤ B') (hK : K ≤ K') (h : lc_Rel B K u v) : lc_Rel B' K' u v := by
  obtain ⟨n, c, N, od, tm, pr, va, cr, mo, ve, kl, op, ov, er, ek, ep, ev, ck, cy, cm, cn, ak, ap, av, ac, gr, tt, ex, ba, el, se, co, rfl, rfl, h1, h2, h3, h4, h5⟩ := h
  exact lc_mk (by omega) h2 (lc_R_K hK h3) h4 h5
/-- the version of a key is a count -/
theorem lc_R_v {K : Nat} (R : lc_R n N K pr va cr mo ve kl op ov er ek ep ev ba el) {j : Nat} (hj : j < 16) : ∃ w, w ≤ K ∧ ve j = nI w := by
  obtain ⟨a1, a2, a3, a4, a5, a6, a7⟩ := R
  obtain ⟨⟨w, h1, h2⟩, h3⟩ := a5 j hj
  obtain ⟨w', h4, h5⟩ := lc_lk_v (er := er) (ek := ek) (ep := ep) (ev := ev) (el := el) (key := nI j) (p := nI N) (s := lc_bs ba j) (w := w) h1 n
  rw [a6 j hj] at h5
  exact ⟨w', by omega, h5⟩
/-- a new revision, no event yet -/
theorem lc_R_b {K : Nat} (hN : N + 1 < 2 ^ 31) (R : lc_R n N K pr va cr mo ve kl op ov er ek ep ev ba el) : lc_R n (N + 1) K pr va cr mo ve kl op ov er ek ep ev ba el := by
  obtain ⟨a1, a2, a3, a4, a5, a6, a7⟩ := R
  have b1 : ∀ i, i < n → er i ≤ nI (N + 1) := fun i hi => Int32.le_trans (a1 i hi) (nI_le (by omega) hN)
  refine ⟨b1, a2, a3, a4, a5, fun j hj => ?_, a7⟩
  rw [← a6 j hj]
  exact lc_lk_r n fun i hi _ => ⟨fun _ => a1 i hi, fun _ => b1 i hi⟩
/-- what an event behind the others does to the first four clauses -/
theorem lc_R_e {j : Nat} {d e : Int32} (hj : j < 16) (hd : (d = 0 ∧ e = 0) ∨ d = 1) (a1 : ∀ i, i < n → er i ≤ nI N) (a2 : ∀ i j, i ≤ j → j < n → er i ≤ er j) (a3 : ∀ i, i < n → ∃ q, q < 16 ∧ ek i = nI q) (a4 : ∀ i, i < n → (ep i = 0 ∧ ev i = 0) ∨ ep i = 1) :
    (∀ i, i < n + 1 → upd er n (nI N) i ≤ nI N) ∧
    (∀ i j, i ≤ j → j < n + 1 → upd er n (nI N) i ≤ upd er n (nI N) j) ∧
    (∀ i, i < n + 1 → ∃ q, q < 16 ∧ upd ek n (nI j) i = nI q) ∧
    (∀ i, i < n + 1 → (upd ep n d i = 0 ∧ upd ev n e i = 0) ∨ upd ep n d i = 1) := by
  have b1 : ∀ i, i < n + 1 → upd er n (nI N) i ≤ nI N := by
    intro i hi
    by_cases q : i = n
    · rw [q, pk_us]; exact Int32.le_refl _
    · rw [pk_un q]; exact a1 i (by omega)
  refine ⟨b1, ?_, ?_, ?_⟩
  · intro i j hij hj
    by_cases q : j = n
    · rw [q, pk_us]; exact b1 i (by omega)
    · rw [pk_un q, pk_un (show i ≠ n by omega)]; exact a2 i j hij (by omega)
  · intro i hi
    by_cases q : i = n
    · rw [q, pk_us]; exact ⟨j, hj, rfl⟩
    · rw [pk_un q]; exact a3 i (by omega)
  · intro i hi
    by_cases q : i = n
    · rw [q, pk_us, pk_us]; exact hd
    · rw [pk_un q, pk_un q]; exact a4 i (by omega)
/-- a put -/
theorem lc_R_p {K j : Nat} {x l : Int32} (hj : j < 16) (hK : K < 2 ^ 30) (R : lc_R n N K pr va cr mo ve kl op ov er ek ep ev ba el) :
    lc_R (n + 1) N (K + 1) (if pr j = 0 then upd pr j 1 else pr) (upd va j x) (if pr j = 0 then upd cr j (nI N) else cr) (upd mo j (nI N)) (upd ve j (ve j + 1)) (upd kl j l) op ov (upd er n (nI N)) (upd ek n (nI j)) (upd ep n 1) (upd ev n x) ba (upd el n l) := by
  obtain ⟨w, hw, ew⟩ := lc_R_v R hj
  obtain ⟨a1, a2, a3, a4, a5, a6, a7⟩ := R
  obtain ⟨b1, b2, b3, b4⟩ := lc_R_e hj (Or.inr rfl : ((1 : Int32) = 0 ∧ x = 0) ∨ (1 : Int32) = 1) a1 a2 a3 a4
  have hv : ¬ ve j + 1 = 0 := by rw [ew, nI_1]; exact nI_ne0 (by omega) (by omega)
  have hz : pr j = 0 ↔ ve j = 0 := by
    rw [(a7 j hj).1]
    by_cases z : ve j = 0
    · simp only [z, if_pos]
    · simp only [z, if_neg, not_false_eq_true, lc_10]
  refine ⟨b1, b2, b3, b4, fun i hi => ?_, fun i hi => ?_, fun i hi => ?_⟩
  · obtain ⟨⟨w, h1, h2⟩, h3⟩ := a5 i hi
    exact ⟨⟨w, h1, by omega⟩, h3⟩
  · by_cases q : i = j
    · subst q
      rw [lc_lk_ut (Int32.le_refl _), a6 i hi, lc_ap1 lc_10]
      simp only [pk_us]
      by_cases z : pr i = 0
      · simp only [z, hz.mp z, if_pos, pk_us]
      · simp only [z, mt hz.mpr z, if_neg, not_false_eq_true]
    · rw [lc_lk_uf (fun z => q ((nI_eq (by omega) (by omega)).mp z.1).symm), a6 i hi]
      simp only [pk_un q]
      by_cases z : pr j = 0
      · simp only [z, if_pos, pk_un q]
      · simp only [z, if_neg, not_false_eq_true]
  · by_cases q : i = j
    · subst q
      simp only [pk_us]
      refine ⟨?_, fun z => absurd z hv⟩
      rw [if_neg hv]
      by_cases z : pr i = 0
      · rw [if_pos z, pk_us]
      · rw [if_neg z, (a7 i hi).1, if_neg (mt hz.mpr z)]
    · simp only [pk_un q]
      have e : (if pr j = 0 then upd pr j 1 else pr) i = pr i := by
        by_cases z : pr j = 0
        · rw [if_pos z, pk_un q]
        · rw [if_neg z]
      rw [e]
      exact a7 i hi
/-- a delete -/
theorem lc_R_d {K j : Nat} (hj : j < 16) (R : lc_R n N K pr va cr mo ve kl op ov er ek ep ev ba el) :
    lc_R (n + 1) N (K + 1) (upd pr j 0) (upd va j 0) (upd cr j 0) (upd mo j 0) (upd ve j 0) (upd kl j (-1)) op ov (upd er n (nI N)) (upd ek n (nI j)) (upd ep n 0) (upd ev n 0) ba (upd el n (-1)) := by
  obtain ⟨a1, a2, a3, a4, a5, a6, a7⟩ := R
  obtain ⟨b1, b2, b3, b4⟩ := lc_R_e hj (Or.inl ⟨rfl, rfl⟩ : ((0 : Int32) = 0 ∧ (0 : Int32) = 0) ∨ (0 : Int32) = 1) a1 a2 a3 a4
  refine ⟨b1, b2, b3, b4, fun i hi => ?_, fun i hi => ?_, fun i hi => ?_⟩
  · obtain ⟨⟨w, h1, h2⟩, h3⟩ := a5 i hi
    exact ⟨⟨w, h1, by omega⟩, h3⟩
  · by_cases q : i = j
    · subst q
      rw [lc_lk_ut (Int32.le_refl _), lc_ap0 rfl]
      simp only [pk_us]
    · rw [lc_lk_uf (fun z => q ((nI_eq (by omega) (by omega)).mp z.1).symm), a6 i hi]
      simp only [pk_un q]
  · by_cases q : i = j
    · subst q
      simp only [pk_us]
      exact ⟨rfl, fun _ => trivial⟩
    · simp only [pk_un q]
      exact a7 i hi
/-- the state put together anew may carry other seen cells -/
theorem lc_pr01 {K : Nat} (R : lc_R n N K pr va cr mo ve kl op ov er ek ep ev ba el) {j : Nat} (hj : j < 16) : pr j = 0 ∨ pr j = 1 := by
  obtain ⟨a1, a2, a3, a4, a5, a6, a7⟩ := R
  rw [(a7 j hj).1]
  by_cases z : ve j = 0
  · rw [if_pos z]; exact Or.inl rfl
  · rw [if_neg z]; exact Or.inr rfl
end
