section
theorem pk_us {f : Nat → Int32} {k : Nat} {x : Int32} : upd f k x k = x := if_pos rfl
theorem pk_un {f : Nat → Int32} {k j : Nat} {x : Int32} (h : j ≠ k) : upd f k x j = f j := if_neg h
theorem pk_sub {a b : Nat} (h : b ≤ a) : nI a - nI b = nI (a - b) := by
  obtain ⟨c, rfl⟩ : ∃ c, a = c + b := ⟨a - b, by omega⟩
  rw [← nI_add, Int32.add_sub_cancel, Nat.add_sub_cancel]
theorem pk_m1 (n : Nat) : nI (n + 1) + (-1) = nI n := by
  rw [← nI_1, Int32.add_assoc, show (1 : Int32) + (-1) = 0 from rfl, Int32.add_zero]
theorem pk_mul (a b : Nat) : nI a * nI b = nI (a * b) := (Int32.ofNat_mul a b).symm
theorem pk_ix (x : Int32) {n : Nat} (hn : n < 2 ^ 31) : x < 0 ∨ nI n ≤ x ∨ ∃ j : Nat, j < n ∧ x = nI j := by
  by_cases h : x < 0
  · exact Or.inl h
  · obtain ⟨j, hj, rfl⟩ := nI_of h
    by_cases h2 : j < n
    · exact Or.inr (Or.inr ⟨j, h2, rfl⟩)
    · exact Or.inr (Or.inl (nI_le (by omega) hj))
theorem pk_le {x y : Int32} {A B : Prop} (a b : Nat) (f : a ≤ b → A) (g : b < a → B) (hx : x = nI a := by rfl) (hy : y = nI b := by rfl) (ha : a < 2 ^ 31 := by omega) (hb : b < 2 ^ 31 := by omega) : (x ≤ y → A) ∧ (¬ x ≤ y → B) := by
  subst hx hy
  rw [nI_leI ha hb]
  exact ⟨f, fun z => g (by omega)⟩
theorem pk_lt {x y : Int32} {A B : Prop} (a b : Nat) (f : a < b → A) (g : b ≤ a → B) (hx : x = nI a := by rfl) (hy : y = nI b := by rfl) (ha : a < 2 ^ 31 := by omega) (hb : b < 2 ^ 31 := by omega) : (x < y → A) ∧ (¬ x < y → B) := by
  subst hx hy
  rw [nI_ltI ha hb]
  exact ⟨f, fun z => g (by omega)⟩
theorem pk_eq {x y : Int32} {A B : Prop} (a b : Nat) (f : a = b → A) (g : a ≠ b → B) (hx : x = nI a := by rfl) (hy : y = nI b := by rfl) (ha : a < 2 ^ 31 := by omega) (hb : b < 2 ^ 31 := by omega) : (x = y → A) ∧ (¬ x = y → B) := by
  subst hx hy
  rw [nI_eq ha hb]
  exact ⟨f, g⟩
theorem pk_in {x : Int32} (n N : Nat) (h : n < N) (hx : x = nI n := by rfl) (hN : N < 2 ^ 31 := by omega) : vp_in x N := by
  subst hx
  exact vp_in_nI h hN
theorem pk_cl {x : Int32} (n : Nat) (hx : x = nI n := by rfl) (h : n < 2 ^ 31 := by omega) : x.toNatClampNeg = n := by
  subst hx
  exact nI_clamp h

/-! my own rows -/
theorem lc_n0 : vp_nar .boolean 0 = 0 := rfl
theorem lc_n1 : vp_nar .boolean 1 = 1 := rfl
theorem lc_nb {x : Int32} (h : x = 0 ∨ x = 1) : vp_nar .boolean x = x := by
  rcases h with rfl | rfl <;> rfl
theorem lc_fb {x : Int32} (h : x = 0 ∨ x = 1) : narrow .boolean (.int x) = .int x := by
  rcases h with rfl | rfl <;> rfl
theorem lc_10 : ¬ (1 : Int32) = 0 := by decide
theorem lc_m1 : (-1 : Int32) < 0 := by decide
theorem lc_ut (f : Nat → Int32) (k : Nat) (x : Int32) (j : Nat) : upd f k x j = if j = k then x else f j := rfl

/-- one event carried into what is seen of a key: value, version, mod, create, lease -/
def lc_ap (r p v l : Int32) (s : Int32 × Int32 × Int32 × Int32 × Int32) : Int32 × Int32 × Int32 × Int32 × Int32 :=
  if p = 0 then (0, 0, 0, 0, -1) else (v, s.2.1 + 1, r, if s.2.1 = 0 then r else s.2.2.2.1, l)
/-- what is seen of a key at a revision, over the first n events -/
def lc_lk (er ek ep ev el : Nat → Int32) (key p : Int32) (s : Int32 × Int32 × Int32 × Int32 × Int32) : Nat → Int32 × Int32 × Int32 × Int32 × Int32
  | 0 => s
  | n + 1 => if ek n = key ∧ er n ≤ p then lc_ap (er n) (ep n) (ev n) (el n) (lc_lk er ek ep ev el key p s n) else lc_lk er ek ep ev el key p s n
def lc_bs (ba : Nat → Int32) (j : Nat) : Int32 × Int32 × Int32 × Int32 × Int32 := (ba (j * 5), ba (j * 5 + 1), ba (j * 5 + 2), ba (j * 5 + 3), ba (j * 5 + 4))
def lc_sv (se : Nat → Int32) : Int32 × Int32 × Int32 × Int32 × Int32 := (se 0, se 1, se 2, se 3, se 4)
theorem lc_ap0 {r p v l : Int32} {s : Int32 × Int32 × Int32 × Int32 × Int32} (h : p = 0) : lc_ap r p v l s = (0, 0, 0, 0, -1) := if_pos h
theorem lc_ap1 {r p v l : Int32} {s : Int32 × Int32 × Int32 × Int32 × Int32} (h : ¬ p = 0) : lc_ap r p v l s = (v, s.2.1 + 1, r, if s.2.1 = 0 then r else s.2.2.2.1, l) := if_neg h
theorem lc_lk_t {er ek ep ev el : Nat → Int32} {key p : Int32} {s : Int32 × Int32 × Int32 × Int32 × Int32} {n : Nat} (h1 : ek n = key) (h2 : er n ≤ p) : lc_lk er ek ep ev el key p s (n + 1) = lc_ap (er n) (ep n) (ev n) (el n) (lc_lk er ek ep ev el key p s n) := if_pos ⟨h1, h2⟩
theorem lc_lk_f {er ek ep ev el : Nat → Int32} {key p : Int32} {s : Int32 × Int32 × Int32 × Int32 × Int32} {n : Nat} (h : ¬ (ek n = key ∧ er n ≤ p)) : lc_lk er ek ep ev el key p s (n + 1) = lc_lk er ek ep ev el key p s n := if_neg h
theorem lc_lk_c {er ek ep ev el er' ek' ep' ev' el' : Nat → Int32} {key p : Int32} {s : Int32 × Int32 × Int32 × Int32 × Int32} : ∀ n : Nat, (∀ i, i < n → er' i = er i ∧ ek' i = ek i ∧ ep' i = ep i ∧ ev' i = ev i ∧ el' i = el i) → lc_lk er' ek' ep' ev' el' key p s n = lc_lk er ek ep ev el key p s n := by
  intro n
  induction n with
  | zero => intro _; rfl
  | succ n ih =>
    intro h
    obtain ⟨h1, h2, h3, h4, h5⟩ := h n (by omega)
    simp only [lc_lk, h1, h2, h3, h4, h5, ih (fun i hi => h i (by omega))]
/-- an event is set down behind the first n: what is seen of those is the same -/
theorem lc_lk_u {er ek ep ev el : Nat → Int32} {key p a b d e g : Int32} {s : Int32 × Int32 × Int32 × Int32 × Int32} {n : Nat} : lc_lk (upd er n a) (upd ek n b) (upd ep n d) (upd ev n e) (upd el n g) key p s n = lc_lk er ek ep ev el key p s n :=
  lc_lk_c n fun i hi => ⟨pk_un (by omega), pk_un (by omega), pk_un (by omega), pk_un (by omega), pk_un (by omega)⟩
/-- the new event is of this key, and seen -/
theorem lc_lk_ut {er ek ep ev el : Nat → Int32} {key p a d e g : Int32} {s : Int32 × Int32 × Int32 × Int32 × Int32} {n : Nat} (h : a ≤ p) : lc_lk (upd er n a) (upd ek n key) (upd ep n d) (upd ev n e) (upd el n g) key p s (n + 1) = lc_ap a d e g (lc_lk er ek ep ev el key p s n) := by
  rw [lc_lk_t pk_us (by rw [pk_us]; exact h), lc_lk_u, pk_us, pk_us, pk_us, pk_us]
/-- the new event is not of this key, or not seen -/
theorem lc_lk_uf {er ek ep ev el : Nat → Int32} {key p a b d e g : Int32} {s : Int32 × Int32 × Int32 × Int32 × Int32} {n : Nat} (h : ¬ (b = key ∧ a ≤ p)) : lc_lk (upd er n a) (upd ek n b) (upd ep n d) (upd ev n e) (upd el n g) key p s (n + 1) = lc_lk er ek ep ev el key p s n := by
  rw [lc_lk_f (by rw [pk_us, pk_us]; exact h), lc_lk_u]
/-- events moved down by d -/
theorem lc_lk_s {er ek ep ev el er' ek' ep' ev' el' : Nat → Int32} {key p : Int32} {s : Int32 × Int32 × Int32 × Int32 × Int32} {d : Nat} : ∀ m : Nat, (∀ i, i < m → er' i = er (i + d) ∧ ek' i = ek (i + d) ∧ ep' i = ep (i + d) ∧ ev' i = ev (i + d) ∧ el' i = el (i + d)) → lc_lk er' ek' ep' ev' el' key p (lc_lk er ek ep ev el key p s d) m = lc_lk er ek ep ev el key p s (m + d) := by
  intro m
  induction m with
  | zero => intro _; rw [Nat.zero_add]; rfl
  | succ m ih =>
    intro h
    obtain ⟨h1, h2, h3, h4, h5⟩ := h m (by omega)
    rw [show m + 1 + d = (m + d) + 1 from by omega]
    simp only [lc_lk, h1, h2, h3, h4, h5, ih (fun i hi => h i (by omega))]
/-- two revisions between which no event of the key lies see the same -/
theorem lc_lk_r {er ek ep ev el : Nat → Int32} {key p q : Int32} {s : Int32 × Int32 × Int32 × Int32 × Int32} : ∀ n : Nat, (∀ i, i < n → ek i = key → (er i ≤ p ↔ er i ≤ q)) → lc_lk er ek ep ev el key p s n = lc_lk er ek ep ev el key q s n := by
  intro n
  induction n with
  | zero => intro _; rfl
  | succ n ih =>
    intro h
    have h0 := ih (fun i hi => h i (by omega))
    by_cases hk : ek n = key
    · have h1 := h n (by omega) hk
      by_cases hp : er n ≤ p
      · rw [lc_lk_t hk hp, lc_lk_t hk (h1.mp hp), h0]
      · rw [lc_lk_f (fun z => hp z.2), lc_lk_f (fun z => hp (h1.mpr z.2)), h0]
    · rw [lc_lk_f (fun z => hk z.1), lc_lk_f (fun z => hk z.1), h0]
/-- events that are not seen change nothing -/
theorem lc_lk_n {er ek ep ev el : Nat → Int32} {key p : Int32} {s : Int32 × Int32 × Int32 × Int32 × Int32} {d : Nat} : ∀ m : Nat, (∀ i, d ≤ i → i < d + m → ¬ er i ≤ p) → lc_lk er ek ep ev el key p s (d + m) = lc_lk er ek ep ev el key p s d := by
  intro m
  induction m with
  | zero => intro _; rfl
  | succ m ih =>
    intro h
    rw [show d + (m + 1) = (d + m) + 1 from by omega, lc_lk_f (fun z => h (d + m) (by omega) (by omega) z.2)]
    exact ih (fun i h1 h2 => h i h1 (by omega))
/-- the version stays a count -/
theorem lc_lk_v {er ek ep ev el : Nat → Int32} {key p : Int32} {s : Int32 × Int32 × Int32 × Int32 × Int32} {w : Nat} (hs : s.2.1 = nI w) : ∀ n : Nat, ∃ w', w' ≤ w + n ∧ (lc_lk er ek ep ev el key p s n).2.1 = nI w' := by
  intro n
  induction n with
  | zero => exact ⟨w, by omega, hs⟩
  | succ n ih =>
    obtain ⟨w', h1, h2⟩ := ih
    by_cases h : ek n = key ∧ er n ≤ p
    · rw [lc_lk_t h.1 h.2]
      by_cases hp : ep n = 0
      · rw [lc_ap0 hp]; exact ⟨0, by omega, rfl⟩
      · rw [lc_ap1 hp]
        exact ⟨w' + 1, by omega, by show (lc_lk er ek ep ev el key p s n).2.1 + 1 = _; rw [h2, nI_1]⟩
    · rw [lc_lk_f h]; exact ⟨w', by omega, h2⟩
/-- the events that a revision sees stand in front -/
theorem lc_cut {er : Nat → Int32} (p : Int32) : ∀ n : Nat, (∀ i j, i ≤ j → j < n → er i ≤ er j) → ∃ d, d ≤ n ∧ (∀ i, i < d → er i ≤ p) ∧ (∀ i, d ≤ i → i < n → ¬ er i ≤ p) := by
  intro n
  induction n with
  | zero => intro _; exact ⟨0, Nat.le_refl _, fun i hi => absurd hi (by omega), fun i _ hi => absurd hi (by omega)⟩
  | succ n ih =>
    intro h
    by_cases hp : er n ≤ p
    · exact ⟨n + 1, Nat.le_refl _, fun i hi => Int32.le_trans (h i n (by omega) (by omega)) hp, fun i h1 h2 => absurd h1 (by omega)⟩
    · obtain ⟨d, h1, h2, h3⟩ := ih (fun i j hi hj => h i j hi (by omega))
      refine ⟨d, by omega, h2, fun i h4 h5 => ?_⟩
      by_cases e : i = n
      · rw [e]; exact hp
      · exact h3 i h4 (by omega)
/-- how many keys are present -/
def lc_pc (pr : Nat → Int32) : Nat → Nat
  | 0 => 0
  | m + 1 => lc_pc pr m + (if pr m = 0 then 0 else 1)
theorem lc_pc_le (pr : Nat → Int32) : ∀ m, lc_pc pr m ≤ m := by
  intro m
  induction m with
  | zero => exact Nat.le_refl _
  | succ m ih => simp only [lc_pc]; split <;> omega
theorem lc_pc_o (pr : Nat → Int32) (j : Nat) (x : Int32) : ∀ m, m ≤ j → lc_pc (upd pr j x) m = lc_pc pr m := by
  intro m
  induction m with
  | zero => intro _; rfl
  | succ m ih => intro h; simp only [lc_pc, ih (by omega), pk_un (f := pr) (k := j) (x := x) (j := m) (by omega)]
theorem lc_pc_d (pr : Nat → Int32) (j : Nat) (hj : ¬ pr j = 0) : ∀ m, j < m → lc_pc (upd pr j 0) m + 1 = lc_pc pr m := by
  intro m
  induction m with
  | zero => intro h; omega
  | succ m ih =>
    intro h
    by_cases e : m = j
    · subst e
      simp only [lc_pc, lc_pc_o pr m 0 m (Nat.le_refl _), pk_us, if_pos, if_neg hj]
    · have := ih (by omega)
      simp only [lc_pc, pk_un (f := pr) (k := j) (x := 0) (j := m) e]
      omega
end
section
section
variable {n c N : Nat} {od tm : Int32} {pr va cr mo ve kl op ov er ek ep ev ck cy cm cn ak ap av ac gr tt ex ba el se co : Nat → Int32}
/-- the events and both pictures of the keys -/
def lc_R (n N K : Nat) (pr va cr mo ve kl op ov er ek ep ev ba el : Nat → Int32) : Prop :=
  (∀ i, i < n → er i ≤ nI N) ∧
  (∀ i j, i ≤ j → j < n → er i ≤ er j) ∧
  (∀ i, i < n → ∃ q, q < 16 ∧ ek i = nI q) ∧
  (∀ i, i < n → (ep i = 0 ∧ ev i = 0) ∨ ep i = 1) ∧
  (∀ j, j < 16 → (∃ w, ba (j * 5 + 1) = nI w ∧ w + n ≤ K) ∧ ov j = ba (j * 5) ∧ op j = (if ba (j * 5 + 1) = 0 then 0 else 1)) ∧
  (∀ j, j < 16 → lc_lk er ek ep ev el (nI j) (nI N) (lc_bs ba j) n = (va j, ve j, mo j, cr j, kl j)) ∧
  (∀ j, j < 16 → pr j = (if ve j = 0 then 0 else 1) ∧ (ve j = 0 → kl j = -1))
/-- the conditions put together -/
def lc_C (c : Nat) (ck cy cm cn co : Nat → Int32) : Prop := c ≤ 4 ∧ ∀ i, i < c → (∃ a, a < 4 ∧ ck i = nI a) ∧ (∃ q, q < 16 ∧ cy i = nI q) ∧ (∃ m, m < 4 ∧ cm i = nI m) ∧ co (i * 4) = ck i ∧ co (i * 4 + 1) = cy i ∧ co (i * 4 + 2) = cm i ∧ co (i * 4 + 3) = cn i
/-- one list of actions -/
def lc_L (l m : Nat) (ak ap av : Nat → Int32) : Prop := ∀ i, i < m → (∃ q, q < 16 ∧ ak (l * 4 + i) = nI q) ∧ ((ap (l * 4 + i) = 0 ∧ av (l * 4 + i) = 0) ∨ ap (l * 4 + i) = 1) ∧ ∀ i', i' < m → ak (l * 4 + i) = ak (l * 4 + i') → i = i'
/-- both lists of actions -/
def lc_A (ak ap av ac : Nat → Int32) : Prop := ∀ l, l < 2 → ∃ m, m ≤ 4 ∧ ac l = nI m ∧ lc_L l m ak ap av
def lc_Rel (B K : Nat) (u : SX) (v : SY) : Prop := ∃ (n c N : Nat) (od tm : Int32) (pr va cr mo ve kl op ov er ek ep ev ck cy cm cn ak ap av ac gr tt ex ba el se co : Nat → Int32), u = ((nI n), (nI c), (nI N), od, tm, pr, va, cr, mo, ve, kl, op, ov, er, ek, ep, ev, ck, cy, cm, cn, ak, ap, av, ac, gr, tt, ex) ∧ v = (od, (nI N), (nI n), (nI c), tm, ba, er, ek, ep, ev, el, se, co, ak, ap, av, ac, gr, tt, ex) ∧ N ≤ B ∧ n + lc_pc pr 16 ≤ 76 ∧ lc_R n N K pr va cr mo ve kl op ov er ek ep ev ba el ∧ lc_C c ck cy cm cn co ∧ lc_A ak ap av ac
theorem lc_mk {B K : Nat} (h1 : N ≤ B) (h2 : n + lc_pc pr 16 ≤ 76) (h3 : lc_R n N K pr va cr mo ve kl op ov er ek ep ev ba el) (h4 : lc_C c ck cy cm cn co) (h5 : lc_A ak ap av ac) : lc_Rel B K ((nI n), (nI c), (nI N), od, tm, pr, va, cr, mo, ve, kl, op, ov, er, ek, ep, ev, ck, cy, cm, cn, ak, ap, av, ac, gr, tt, ex) (od, (nI N), (nI n), (nI c), tm, ba, er, ek, ep, ev, el, se, co, ak, ap, av, ac, gr, tt, ex) :=
  ⟨n, c, N, od, tm, pr, va, cr, mo, ve, kl, op, ov, er, ek, ep, ev, ck, cy, cm, cn, ak, ap, av, ac, gr, tt, ex, ba, el, se, co, rfl, rfl, h1, h2, h3, h4, h5⟩
theorem lc_R_K {K K' : Nat} (h : K ≤ K') (R : lc_R n N K pr va cr mo ve kl op ov er ek ep ev ba el) : lc_R n N K' pr va cr mo ve kl op ov er ek ep ev ba el := by
  obtain ⟨a1, a2, a3, a4, a5, a6, a7⟩ := R
  refine ⟨a1, a2, a3, a4, fun j hj => ?_, a6, a7⟩
  obtain ⟨⟨w, h1, h2⟩, h3⟩ := a5 j hj
  exact ⟨⟨w, h1, by omega⟩, h3⟩
theorem lc_Rel_m {B B' K K' : Nat} {u : SX} {v : SY} (hB : B ≤ B') (hK : K ≤ K') (h : lc_Rel B K u v) : lc_Rel B' K' u v := by
  obtain ⟨n, c, N, od, tm, pr, va, cr, mo, ve, kl, op, ov, er, ek, ep, ev, ck, cy, cm, cn, ak, ap, av, ac, gr, tt, ex, ba, el, se, co, rfl, rfl, h1, h2, h3, h4, h5⟩ := h
  exact lc_mk (by omega) h2 (lc_R_K hK h3) h4 h5
/-- the version of a key is a count -/
theorem lc_R_v {K : Nat} (R : lc_R n N K pr va cr mo ve kl op ov er ek ep ev ba el) {j : Nat} (hj : j < 16) : ∃ w, w ≤ K ∧ ve j = nI w := by
  obtain ⟨a1, a2, a3, a4, a5, a6, a7⟩ := R
  obtain ⟨⟨w, h1, h2⟩, h3⟩ := a5 j hj
  obtain ⟨w', h4, h5⟩ := lc_lk_v (er := er) (ek := ek) (ep := ep) (ev := ev) (el := el) (key := nI j) (p := nI N) (s := lc_bs ba j) (w := w) h1 n
  rw [a6 j hj] at h5
  exact ⟨w', by omega, h5⟩
/-- a new revision, no event yet -/
theorem lc_R_b {K : Nat} (hN : N + 1 < 2 ^ 31) (R : lc_R n N K pr va cr mo ve kl op ov er ek ep ev ba el) : lc_R n (N + 1) K pr va cr mo ve kl op ov er ek ep ev ba el := by
  obtain ⟨a1, a2, a3, a4, a5, a6, a7⟩ := R
  have b1 : ∀ i, i < n → er i ≤ nI (N + 1) := fun i hi => Int32.le_trans (a1 i hi) (nI_le (by omega) hN)
  refine ⟨b1, a2, a3, a4, a5, fun j hj => ?_, a7⟩
  rw [← a6 j hj]
  exact lc_lk_r n fun i hi _ => ⟨fun _ => a1 i hi, fun _ => b1 i hi⟩
/-- what an event behind the others does to the first four clauses -/
theorem lc_R_e {j : Nat} {d e : Int32} (hj : j < 16) (hd : (d = 0 ∧ e = 0) ∨ d = 1) (a1 : ∀ i, i < n → er i ≤ nI N) (a2 : ∀ i j, i ≤ j → j < n → er i ≤ er j) (a3 : ∀ i, i < n → ∃ q, q < 16 ∧ ek i = nI q) (a4 : ∀ i, i < n → (ep i = 0 ∧ ev i = 0) ∨ ep i = 1) :
    (∀ i, i < n + 1 → upd er n (nI N) i ≤ nI N) ∧
    (∀ i j, i ≤ j → j < n + 1 → upd er n (nI N) i ≤ upd er n (nI N) j) ∧
    (∀ i, i < n + 1 → ∃ q, q < 16 ∧ upd ek n (nI j) i = nI q) ∧
    (∀ i, i < n + 1 → (upd ep n d i = 0 ∧ upd ev n e i = 0) ∨ upd ep n d i = 1) := by
  have b1 : ∀ i, i < n + 1 → upd er n (nI N) i ≤ nI N := by
    intro i hi
    by_cases q : i = n
    · rw [q, pk_us]; exact Int32.le_refl _
    · rw [pk_un q]; exact a1 i (by omega)
  refine ⟨b1, ?_, ?_, ?_⟩
  · intro i j hij hj
    by_cases q : j = n
    · rw [q, pk_us]; exact b1 i (by omega)
    · rw [pk_un q, pk_un (show i ≠ n by omega)]; exact a2 i j hij (by omega)
  · intro i hi
    by_cases q : i = n
    · rw [q, pk_us]; exact ⟨j, hj, rfl⟩
    · rw [pk_un q]; exact a3 i (by omega)
  · intro i hi
    by_cases q : i = n
    · rw [q, pk_us, pk_us]; exact hd
    · rw [pk_un q, pk_un q]; exact a4 i (by omega)
/-- a put -/
theorem lc_R_p {K j : Nat} {x l : Int32} (hj : j < 16) (hK : K < 2 ^ 30) (R : lc_R n N K pr va cr mo ve kl op ov er ek ep ev ba el) :
    lc_R (n + 1) N (K + 1) (if pr j = 0 then upd pr j 1 else pr) (upd va j x) (if pr j = 0 then upd cr j (nI N) else cr) (upd mo j (nI N)) (upd ve j (ve j + 1)) (upd kl j l) op ov (upd er n (nI N)) (upd ek n (nI j)) (upd ep n 1) (upd ev n x) ba (upd el n l) := by
  obtain ⟨w, hw, ew⟩ := lc_R_v R hj
  obtain ⟨a1, a2, a3, a4, a5, a6, a7⟩ := R
  obtain ⟨b1, b2, b3, b4⟩ := lc_R_e hj (Or.inr rfl : ((1 : Int32) = 0 ∧ x = 0) ∨ (1 : Int32) = 1) a1 a2 a3 a4
  have hv : ¬ ve j + 1 = 0 := by rw [ew, nI_1]; exact nI_ne0 (by omega) (by omega)
  have hz : pr j = 0 ↔ ve j = 0 := by
    rw [(a7 j hj).1]
    by_cases z : ve j = 0
    · simp only [z, if_pos]
    · simp only [z, if_neg, not_false_eq_true, lc_10]
  refine ⟨b1, b2, b3, b4, fun i hi => ?_, fun i hi => ?_, fun i hi => ?_⟩
  · obtain ⟨⟨w, h1, h2⟩, h3⟩ := a5 i hi
    exact ⟨⟨w, h1, by omega⟩, h3⟩
  · by_cases q : i = j
    · subst q
      rw [lc_lk_ut (Int32.le_refl _), a6 i hi, lc_ap1 lc_10]
      simp only [pk_us]
      by_cases z : pr i = 0
      · simp only [z, hz.mp z, if_pos, pk_us]
      · simp only [z, mt hz.mpr z, if_neg, not_false_eq_true]
    · rw [lc_lk_uf (fun z => q ((nI_eq (by omega) (by omega)).mp z.1).symm), a6 i hi]
      simp only [pk_un q]
      by_cases z : pr j = 0
      · simp only [z, if_pos, pk_un q]
      · simp only [z, if_neg, not_false_eq_true]
  · by_cases q : i = j
    · subst q
      simp only [pk_us]
      refine ⟨?_, fun z => absurd z hv⟩
      rw [if_neg hv]
      by_cases z : pr i = 0
      · rw [if_pos z, pk_us]
      · rw [if_neg z, (a7 i hi).1, if_neg (mt hz.mpr z)]
    · simp only [pk_un q]
      have e : (if pr j = 0 then upd pr j 1 else pr) i = pr i := by
        by_cases z : pr j = 0
        · rw [if_pos z, pk_un q]
        · rw [if_neg z]
      rw [e]
      exact a7 i hi
/-- a delete -/
theorem lc_R_d {K j : Nat} (hj : j < 16) (R : lc_R n N K pr va cr mo ve kl op ov er ek ep ev ba el) :
    lc_R (n + 1) N (K + 1) (upd pr j 0) (upd va j 0) (upd cr j 0) (upd mo j 0) (upd ve j 0) (upd kl j (-1)) op ov (upd er n (nI N)) (upd ek n (nI j)) (upd ep n 0) (upd ev n 0) ba (upd el n (-1)) := by
  obtain ⟨a1, a2, a3, a4, a5, a6, a7⟩ := R
  obtain ⟨b1, b2, b3, b4⟩ := lc_R_e hj (Or.inl ⟨rfl, rfl⟩ : ((0 : Int32) = 0 ∧ (0 : Int32) = 0) ∨ (0 : Int32) = 1) a1 a2 a3 a4
  refine ⟨b1, b2, b3, b4, fun i hi => ?_, fun i hi => ?_, fun i hi => ?_⟩
  · obtain ⟨⟨w, h1, h2⟩, h3⟩ := a5 i hi
    exact ⟨⟨w, h1, by omega⟩, h3⟩
  · by_cases q : i = j
    · subst q
      rw [lc_lk_ut (Int32.le_refl _), lc_ap0 rfl]
      simp only [pk_us]
    · rw [lc_lk_uf (fun z => q ((nI_eq (by omega) (by omega)).mp z.1).symm), a6 i hi]
      simp only [pk_un q]
  · by_cases q : i = j
    · subst q
      simp only [pk_us]
      exact ⟨rfl, fun _ => trivial⟩
    · simp only [pk_un q]
      exact a7 i hi
/-- the state put together anew may carry other seen cells -/
theorem lc_pr01 {K : Nat} (R : lc_R n N K pr va cr mo ve kl op ov er ek ep ev ba el) {j : Nat} (hj : j < 16) : pr j = 0 ∨ pr j = 1 := by
  obtain ⟨a1, a2, a3, a4, a5, a6, a7⟩ := R
  rw [(a7 j hj).1]
  by_cases z : ve j = 0
  · rw [if_pos z]; exact Or.inl rfl
  · rw [if_neg z]; exact Or.inr rfl
end
end
section
section
variable {n c N : Nat} {od tm : Int32} {pr va cr mo ve kl op ov er ek ep ev ck cy cm cn ak ap av ac gr tt ex ba el se co : Nat → Int32}
theorem lc_u {a : Nat → Int32} {j : Nat} {x : Int32} (h : j < 2 ^ 31) : upd a (nI j).toNatClampNeg x = upd a j x := by rw [nI_clamp h]
theorem lc_xAdd {post : SX → Prop} {p0 p1 p2 : Int32} (hn : n < 76) (h : post ((nI (n + 1)), (nI c), (nI N), od, tm, pr, va, cr, mo, ve, kl, op, ov, (upd er n (nI N)), (upd ek n p0), (upd ep n (vp_nar .boolean p1)), (upd ev n p2), ck, cy, cm, cn, ak, ap, av, ac, gr, tt, ex)) : wpX_addEvent post ((nI n), (nI c), (nI N), od, tm, pr, va, cr, mo, ve, kl, op, ov, er, ek, ep, ev, ck, cy, cm, cn, ak, ap, av, ac, gr, tt, ex) p0 p1 p2 := by
  have hi : vp_in (nI n) 76 := vp_in_nI hn (by decide)
  have hb : n < 2 ^ 31 := by omega
  exact br_t (nI_lt (b := 76) hn (by decide)) ⟨hi, nm_r (lc_u hb) ⟨hi, nm_r (lc_u hb) ⟨hi, nm_r (lc_u hb) ⟨hi, nm_r (lc_u hb) (nm_r (nI_1 n) h)⟩⟩⟩⟩
theorem lc_xPut26 {post : SX → Prop} {j : Nat} {x l : Int32} (hj : j < 16) (hn : n < 76) (h : post ((nI (n + 1)), (nI c), (nI N), od, tm, pr, (upd va j x), cr, (upd mo j (nI N)), (upd ve j (ve j + 1)), (upd kl j l), op, ov, (upd er n (nI N)), (upd ek n (nI j)), (upd ep n 1), (upd ev n x), ck, cy, cm, cn, ak, ap, av, ac, gr, tt, ex)) : wX_putKey_26 post (nI j) x l (nI n) (nI c) (nI N) od tm pr va cr mo ve kl op ov er ek ep ev ck cy cm cn ak ap av ac gr tt ex := by
  have hi : vp_in (nI j) 16 := vp_in_nI hj (by decide)
  have hb : j < 2 ^ 31 := by omega
  exact ⟨hi, hi, nm_r (by rw [nI_clamp hb]) ⟨hi, nm_r (lc_u hb) ⟨hi, nm_r (lc_u hb) ⟨hi, nm_r (lc_u hb) (lc_xAdd hn h)⟩⟩⟩⟩
theorem lc_xPutKey {post : SX → Prop} {j : Nat} {x l : Int32} (hj : j < 16) (hn : n < 76) (h : post ((nI (n + 1)), (nI c), (nI N), od, tm, (if pr j = 0 then upd pr j 1 else pr), (upd va j x), (if pr j = 0 then upd cr j (nI N) else cr), (upd mo j (nI N)), (upd ve j (ve j + 1)), (upd kl j l), op, ov, (upd er n (nI N)), (upd ek n (nI j)), (upd ep n 1), (upd ev n x), ck, cy, cm, cn, ak, ap, av, ac, gr, tt, ex)) : wpX_putKey post ((nI n), (nI c), (nI N), od, tm, pr, va, cr, mo, ve, kl, op, ov, er, ek, ep, ev, ck, cy, cm, cn, ak, ap, av, ac, gr, tt, ex) (nI j) x l := by
  have hi : vp_in (nI j) 16 := vp_in_nI hj (by decide)
  have hb : j < 2 ^ 31 := by omega
  by_cases z : pr j = 0
  · rw [if_pos z, if_pos z] at h
    exact ⟨hi, br_t (by rw [nI_clamp hb]; exact z) ⟨hi, nm_r (lc_u hb) ⟨hi, nm_r (lc_u hb) (lc_xPut26 hj hn h)⟩⟩⟩
  · rw [if_neg z, if_neg z] at h
    exact ⟨hi, br_f (by rw [nI_clamp hb]; exact z) (lc_xPut26 hj hn h)⟩
theorem lc_xDelKey {post : SX → Prop} {j : Nat} (hj : j < 16) (hn : n < 76) (h : post ((nI (n + 1)), (nI c), (nI N), od, tm, (upd pr j 0), (upd va j 0), (upd cr j 0), (upd mo j 0), (upd ve j 0), (upd kl j (-1)), op, ov, (upd er n (nI N)), (upd ek n (nI j)), (upd ep n 0), (upd ev n 0), ck, cy, cm, cn, ak, ap, av, ac, gr, tt, ex)) : wpX_deleteKey post ((nI n), (nI c), (nI N), od, tm, pr, va, cr, mo, ve, kl, op, ov, er, ek, ep, ev, ck, cy, cm, cn, ak, ap, av, ac, gr, tt, ex) (nI j) := by
  have hi : vp_in (nI j) 16 := vp_in_nI hj (by decide)
  have hb : j < 2 ^ 31 := by omega
  exact ⟨hi, nm_r (lc_u hb) ⟨hi, nm_r (lc_u hb) ⟨hi, nm_r (lc_u hb) ⟨hi, nm_r (lc_u hb) ⟨hi, nm_r (lc_u hb) ⟨hi, nm_r (lc_u hb) (lc_xAdd hn h)⟩⟩⟩⟩⟩⟩
theorem lc_yAdd {post : SY → Prop} {p0 p1 p2 p3 p4 : Int32} (hn : n < 96) (h : post (od, (nI N), (nI (n + 1)), (nI c), tm, ba, (upd er n p0), (upd ek n p1), (upd ep n (vp_nar .boolean p2)), (upd ev n p3), (upd el n p4), se, co, ak, ap, av, ac, gr, tt, ex)) : wpY_add post (od, (nI N), (nI n), (nI c), tm, ba, er, ek, ep, ev, el, se, co, ak, ap, av, ac, gr, tt, ex) p0 p1 p2 p3 p4 := by
  have hi : vp_in (nI n) 96 := vp_in_nI hn (by decide)
  have hb : n < 2 ^ 31 := by omega
  exact ⟨hi, nm_r (lc_u hb) ⟨hi, nm_r (lc_u hb) ⟨hi, nm_r (lc_u hb) ⟨hi, nm_r (lc_u hb) ⟨hi, nm_r (lc_u hb) (nm_r (nI_1 n) h)⟩⟩⟩⟩⟩
theorem lc_yAp30 {post : SY → Prop} {i : Nat} (hi : i < 96) (h : post (od, (nI N), (nI n), (nI c), tm, ba, er, ek, ep, ev, el, (upd (upd (upd (upd se 0 (ev i)) 1 (se 1 + 1)) 2 (er i)) 4 (el i)), co, ak, ap, av, ac, gr, tt, ex)) : wY_apply_30 post (nI i) od (nI N) (nI n) (nI c) tm ba er ek ep ev el se co ak ap av ac gr tt ex := by
  have hv : vp_in (nI i) 96 := vp_in_nI hi (by decide)
  have hc : (nI i).toNatClampNeg = i := nI_clamp (by omega)
  exact ⟨hv, nm_r (by rw [hc]) (nm_r (by rw [pk_un (show (1 : Nat) ≠ 0 by decide)]) ⟨hv, nm_r (by rw [hc]) ⟨hv, nm_r (by rw [hc]) h⟩⟩)⟩
theorem lc_yApply {i : Nat} (hi : i < 96) : ∃ se', lc_sv se' = lc_ap (er i) (ep i) (ev i) (el i) (lc_sv se) ∧ ∀ post : SY → Prop, post (od, (nI N), (nI n), (nI c), tm, ba, er, ek, ep, ev, el, se', co, ak, ap, av, ac, gr, tt, ex) → wpY_apply post (od, (nI N), (nI n), (nI c), tm, ba, er, ek, ep, ev, el, se, co, ak, ap, av, ac, gr, tt, ex) (nI i) := by
  have hv : vp_in (nI i) 96 := vp_in_nI hi (by decide)
  have hc : (nI i).toNatClampNeg = i := nI_clamp (by omega)
  by_cases z : ep i = 0
  · refine ⟨upd (upd (upd (upd (upd se 0 0) 1 0) 2 0) 3 0) 4 (-1), ?_, fun post h => ⟨hv, br_t (by rw [hc]; exact z) ⟨5, ?_⟩⟩⟩
    · rw [lc_ap0 z]; rfl
    · exact br_f (by decide) ⟨vp_in_nI (n := 0) (by decide) (by decide), nm_e (nm_r (e' := 1) rfl (br_f (by decide) ⟨vp_in_nI (n := 1) (by decide) (by decide), nm_e (nm_r (e' := 2) rfl (br_f (by decide) ⟨vp_in_nI (n := 2) (by decide) (by decide), nm_e (nm_r (e' := 3) rfl (br_f (by decide) ⟨vp_in_nI (n := 3) (by decide) (by decide), nm_e (nm_r (e' := 4) rfl (br_t (by decide) (nm_e h)))⟩))⟩))⟩))⟩
  · by_cases y : se 1 = 0
    · refine ⟨_, ?_, fun post h => ⟨hv, br_f (by rw [hc]; exact z) (br_t y ⟨hv, nm_r (by rw [hc]) (lc_yAp30 hi h)⟩)⟩⟩
      rw [lc_ap1 z]
      show _ = (ev i, se 1 + 1, er i, if se 1 = 0 then er i else se 3, el i)
      rw [if_pos y]; rfl
    · refine ⟨_, ?_, fun post h => ⟨hv, br_f (by rw [hc]; exact z) (br_f y (lc_yAp30 hi h))⟩⟩
      rw [lc_ap1 z]
      show _ = (ev i, se 1 + 1, er i, if se 1 = 0 then er i else se 3, el i)
      rw [if_neg y]; rfl
theorem lc_yLook31 {j : Nat} {p : Int32} {s : Int32 × Int32 × Int32 × Int32 × Int32} (hn : n ≤ 96) : ∀ (d i : Nat) (se : Nat → Int32), i + d = n → lc_sv se = lc_lk er ek ep ev el (nI j) p s i → ∃ se', lc_sv se' = lc_lk er ek ep ev el (nI j) p s n ∧ ∀ post : SY → Prop, post (od, (nI N), (nI n), (nI c), tm, ba, er, ek, ep, ev, el, se', co, ak, ap, av, ac, gr, tt, ex) → wY_look_31 post (nI j) p (d + 1) (nI i) od (nI N) (nI n) (nI c) tm ba er ek ep ev el se co ak ap av ac gr tt ex := by
  intro d
  induction d with
  | zero =>
    intro i se hd hs
    have e : i = n := by omega
    subst e
    exact ⟨se, hs, fun post h => br_t (Int32.le_refl _) h⟩
  | succ d ih =>
    intro i se hd hs
    have hg : ¬ nI n ≤ nI i := nI_ge (by omega) (by omega)
    have hv : vp_in (nI i) 96 := vp_in_nI (by omega) (by decide)
    have hc : (nI i).toNatClampNeg = i := nI_clamp (by omega)
    by_cases hk : ek i = nI j
    · by_cases hr : er i ≤ p
      · obtain ⟨s1, e1, h1⟩ := lc_yApply (n := n) (c := c) (N := N) (od := od) (tm := tm) (er := er) (ek := ek) (ep := ep) (ev := ev) (ak := ak) (ap := ap) (av := av) (ac := ac) (gr := gr) (tt := tt) (ex := ex) (ba := ba) (el := el) (se := se) (co := co) (i := i) (by omega)
        obtain ⟨s2, e2, h2⟩ := ih (i + 1) s1 (by omega) (by rw [lc_lk_t hk hr, ← hs, e1])
        exact ⟨s2, e2, fun post h => br_f hg ⟨hv, br_t (by rw [hc]; exact hk) ⟨hv, br_f (by rw [hc]; exact Int32.not_lt.mpr hr) (h1 _ (nm_r (nI_1 i) (h2 post h)))⟩⟩⟩
      · obtain ⟨s2, e2, h2⟩ := ih (i + 1) se (by omega) (by rw [lc_lk_f (fun z => hr z.2), hs])
        exact ⟨s2, e2, fun post h => br_f hg ⟨hv, br_t (by rw [hc]; exact hk) ⟨hv, br_t (by rw [hc]; exact Int32.not_le.mp hr) (nm_r (nI_1 i) (h2 post h))⟩⟩⟩
    · obtain ⟨s2, e2, h2⟩ := ih (i + 1) se (by omega) (by rw [lc_lk_f (fun z => hk z.1), hs])
      exact ⟨s2, e2, fun post h => br_f hg ⟨hv, br_f (by rw [hc]; exact hk) (nm_r (nI_1 i) (h2 post h))⟩⟩
theorem lc_ix5 (j f : Nat) : nI j * 5 + nI f = nI (j * 5 + f) := by
  rw [show (5 : Int32) = nI 5 from rfl, pk_mul, nI_add]
theorem lc_b5 {j f : Nat} (hj : j < 16) (hf : f < 5) : vp_in (nI j * 5 + nI f) 80 := by
  rw [lc_ix5]; exact vp_in_nI (by omega) (by decide)
theorem lc_r5 {a : Nat → Int32} {j f : Nat} (hj : j < 16) (hf : f < 5) : a (nI j * 5 + nI f).toNatClampNeg = a (j * 5 + f) := by
  rw [lc_ix5, nI_clamp (by omega)]
theorem lc_yLook {j : Nat} {p : Int32} (hj : j < 16) (hn : n ≤ 96) : ∃ se', lc_sv se' = lc_lk er ek ep ev el (nI j) p (lc_bs ba j) n ∧ ∀ post : SY → Prop, post (od, (nI N), (nI n), (nI c), tm, ba, er, ek, ep, ev, el, se', co, ak, ap, av, ac, gr, tt, ex) → wpY_look post (od, (nI N), (nI n), (nI c), tm, ba, er, ek, ep, ev, el, se, co, ak, ap, av, ac, gr, tt, ex) (nI j) p := by
  obtain ⟨s2, e2, h2⟩ := lc_yLook31 (c := c) (N := N) (od := od) (tm := tm) (er := er) (ek := ek) (ep := ep) (ev := ev) (ak := ak) (ap := ap) (av := av) (ac := ac) (gr := gr) (tt := tt) (ex := ex) (ba := ba) (el := el) (co := co) (j := j) (p := p) (s := lc_bs ba j) hn n 0 (upd (upd (upd (upd (upd se 0 (ba (j * 5 + 0))) 1 (ba (j * 5 + 1))) 2 (ba (j * 5 + 2))) 3 (ba (j * 5 + 3))) 4 (ba (j * 5 + 4))) (by omega) rfl
  refine ⟨s2, e2, fun post h => ⟨6, ?_⟩⟩
  exact br_f (by decide) ⟨lc_b5 (f := 0) hj (by decide), vp_in_nI (n := 0) (by decide) (by decide), nm_r (congrArg (upd _ _) (lc_r5 (f := 0) hj (by decide))) (nm_r (e' := 1) rfl
    (br_f (by decide) ⟨lc_b5 (f := 1) hj (by decide), vp_in_nI (n := 1) (by decide) (by decide), nm_r (congrArg (upd _ _) (lc_r5 (f := 1) hj (by decide))) (nm_r (e' := 2) rfl
    (br_f (by decide) ⟨lc_b5 (f := 2) hj (by decide), vp_in_nI (n := 2) (by decide) (by decide), nm_r (congrArg (upd _ _) (lc_r5 (f := 2) hj (by decide))) (nm_r (e' := 3) rfl
    (br_f (by decide) ⟨lc_b5 (f := 3) hj (by decide), vp_in_nI (n := 3) (by decide) (by decide), nm_r (congrArg (upd _ _) (lc_r5 (f := 3) hj (by decide))) (nm_r (e' := 4) rfl
    (br_f (by decide) ⟨lc_b5 (f := 4) hj (by decide), vp_in_nI (n := 4) (by decide) (by decide), nm_r (congrArg (upd _ _) (lc_r5 (f := 4) hj (by decide))) (nm_r (e' := 5) rfl
    (br_t (by decide) ⟨n + 1, h2 post h⟩))⟩))⟩))⟩))⟩))⟩
/-- present, where what is seen at the newest revision is known -/
theorem lc_yPresent {j w : Nat} {a x d e : Int32} (hj : j < 16) (hn : n ≤ 96) (hw : w < 2 ^ 31) (hl : lc_lk er ek ep ev el (nI j) (nI N) (lc_bs ba j) n = (a, nI w, x, d, e)) : ∃ se', lc_sv se' = (a, nI w, x, d, e) ∧ ∀ post : Int32 → SY → Prop, post (if w = 0 then 0 else 1) (od, (nI N), (nI n), (nI c), tm, ba, er, ek, ep, ev, el, se', co, ak, ap, av, ac, gr, tt, ex) → wpY_present post (od, (nI N), (nI n), (nI c), tm, ba, er, ek, ep, ev, el, se, co, ak, ap, av, ac, gr, tt, ex) (nI j) := by
  obtain ⟨s1, e1, h1⟩ := lc_yLook (n := n) (c := c) (N := N) (od := od) (tm := tm) (er := er) (ek := ek) (ep := ep) (ev := ev) (ak := ak) (ap := ap) (av := av) (ac := ac) (gr := gr) (tt := tt) (ex := ex) (ba := ba) (el := el) (se := se) (co := co) (j := j) (p := nI N) hj hn
  rw [hl] at e1
  refine ⟨s1, e1, fun post h => h1 _ ?_⟩
  have e : s1 1 = nI w := congrArg (fun t => t.2.1) e1
  by_cases z : w = 0
  · rw [if_pos z] at h
    exact br_t (by rw [e, z]; decide) h
  · rw [if_neg z] at h
    exact br_f (by rw [e]; exact nI_nle (by omega) hw) h
end
end
section
def i_Rel (k : Nat) (u : SX) (v : SY) : Prop := lc_Rel k (16 * k) u v
theorem i_up {k : Nat} {u : SX} {v : SY} (h : i_Rel k u v) : i_Rel (k + 5) u v := lc_Rel_m (by omega) (by omega) h
theorem lc_i {k B K : Nat} {u : SX} {v : SY} (hB : B ≤ k) (hK : K ≤ 16 * k) (h : lc_Rel B K u v) : i_Rel k u v := lc_Rel_m hB hK h
section
variable {n c N : Nat} {od tm : Int32} {pr va cr mo ve kl op ov er ek ep ev ck cy cm cn ak ap av ac gr tt ex ba el se co : Nat → Int32}
theorem lc_xInit : ∀ (d j : Nat) (kl : Nat → Int32), j + d = 16 → (∀ i, i < j → kl i = -1) → ∃ kl' : Nat → Int32, (∀ i, i < 16 → kl' i = -1) ∧ ∀ post : SX → Prop, post ((nI n), (nI c), (nI N), od, tm, pr, va, cr, mo, ve, kl', op, ov, er, ek, ep, ev, ck, cy, cm, cn, ak, ap, av, ac, gr, tt, ex) → wX_init_207 post (nI n) (nI c) (nI N) od tm (d + 1) (nI j) pr va cr mo ve kl op ov er ek ep ev ck cy cm cn ak ap av ac gr tt ex := by
  intro d
  induction d with
  | zero =>
    intro j kl hd h
    have e : j = 16 := by omega
    subst e
    exact ⟨kl, h, fun post hp => br_t (nI_le (a := 16) (b := 16) (by decide) (by decide)) hp⟩
  | succ d ih =>
    intro j kl hd h
    obtain ⟨k2, e2, h2⟩ := ih (j + 1) (upd kl j (-1)) (by omega) (fun i hi => by
      by_cases q : i = j
      · rw [q, pk_us]
      · rw [pk_un q]; exact h i (by omega))
    exact ⟨k2, e2, fun post hp => br_f (nI_ge (b := 16) (by omega) (by decide)) ⟨vp_in_nI (by omega) (by decide), nm_r (lc_u (by omega)) (nm_r (nI_1 j) (h2 post hp))⟩⟩
theorem lc_yInit : ∀ (d j : Nat) (ba : Nat → Int32), j + d = 16 → (∀ i, i < j → ba (i * 5 + 4) = -1) → (∀ i, i % 5 ≠ 4 → ba i = 0) → ∃ ba' : Nat → Int32, (∀ i, i < 16 → ba' (i * 5 + 4) = -1) ∧ (∀ i, i % 5 ≠ 4 → ba' i = 0) ∧ ∀ post : SY → Prop, post (od, (nI N), (nI n), (nI c), tm, ba', er, ek, ep, ev, el, se, co, ak, ap, av, ac, gr, tt, ex) → wY_init_121 post od (nI N) (nI n) (nI c) tm (d + 1) (nI j) ba er ek ep ev el se co ak ap av ac gr tt ex := by
  intro d
  induction d with
  | zero =>
    intro j ba hd h g
    have e : j = 16 := by omega
    subst e
    exact ⟨ba, h, g, fun post hp => br_t (nI_le (a := 16) (b := 16) (by decide) (by decide)) hp⟩
  | succ d ih =>
    intro j ba hd h g
    obtain ⟨k2, e2, g2, h2⟩ := ih (j + 1) (upd ba (j * 5 + 4) (-1)) (by omega) (fun i hi => by
      by_cases q : i = j
      · rw [q, pk_us]
      · rw [pk_un (by omega)]; exact h i (by omega)) (fun i hi => by rw [pk_un (by omega)]; exact g i hi)
    exact ⟨k2, e2, g2, fun post hp => br_f (nI_ge (b := 16) (by omega) (by decide)) ⟨lc_b5 (f := 4) (by omega) (by decide), nm_r (show upd ba (nI j * 5 + nI 4).toNatClampNeg (-1) = _ by rw [lc_ix5, nI_clamp (by omega)]) (nm_r (nI_1 j) (h2 post hp))⟩⟩
end
theorem lc_pc0 : ∀ m, lc_pc (fun _ => 0) m = 0 := by
  intro m
  induction m with
  | zero => rfl
  | succ m ih => simp only [lc_pc, ih, if_pos]
theorem i_vc0 : wpX_init (fun u => wpY_init (fun v => i_Rel 0 u v)) := by
  obtain ⟨kl, hk, hX⟩ := lc_xInit (n := 0) (c := 0) (N := 0) (od := 0) (tm := 0) (pr := fun _ => 0) (va := fun _ => 0) (cr := fun _ => 0) (mo := fun _ => 0) (ve := fun _ => 0) (op := fun _ => 0) (ov := fun _ => 0) (er := fun _ => 0) (ek := fun _ => 0) (ep := fun _ => 0) (ev := fun _ => 0) (ck := fun _ => 0) (cy := fun _ => 0) (cm := fun _ => 0) (cn := fun _ => 0) (ak := fun _ => 0) (ap := fun _ => 0) (av := fun _ => 0) (ac := fun _ => 0) (gr := fun _ => 0) (tt := fun _ => 0) (ex := fun _ => 0) 16 0 (fun _ => 0) rfl (fun i hi => absurd hi (by omega))
  obtain ⟨ba, hb, gb, hY⟩ := lc_yInit (n := 0) (c := 0) (N := 0) (od := 0) (tm := 0) (el := fun _ => 0) (se := fun _ => 0) (co := fun _ => 0) (er := fun _ => 0) (ek := fun _ => 0) (ep := fun _ => 0) (ev := fun _ => 0) (ak := fun _ => 0) (ap := fun _ => 0) (av := fun _ => 0) (ac := fun _ => 0) (gr := fun _ => 0) (tt := fun _ => 0) (ex := fun _ => 0) 16 0 (fun _ => 0) rfl (fun i hi => absurd hi (by omega)) (fun _ _ => rfl)
  refine ⟨17, hX _ ⟨17, hY _ ?_⟩⟩
  refine lc_mk (n := 0) (c := 0) (N := 0) (Nat.le_refl _) (by rw [lc_pc0]; decide) ⟨fun i hi => absurd hi (by omega), fun i j _ hj => absurd hj (by omega), fun i hi => absurd hi (by omega), fun i hi => absurd hi (by omega), fun j hj => ⟨⟨0, gb _ (by omega), by omega⟩, (gb _ (by omega)).symm, ?_⟩, fun j hj => ?_, fun j hj => ⟨rfl, fun _ => hk j hj⟩⟩ ⟨by omega, fun i hi => absurd hi (by omega)⟩ (fun l hl => ⟨0, by omega, rfl, fun i hi => absurd hi (by omega)⟩)
  · rw [gb _ (by omega), if_pos rfl]
  · show (ba (j * 5), ba (j * 5 + 1), ba (j * 5 + 2), ba (j * 5 + 3), ba (j * 5 + 4)) = (0, 0, 0, 0, kl j)
    rw [gb _ (by omega), gb _ (by omega), gb _ (by omega), gb _ (by omega), hb j hj, hk j hj]
section
variable {n c N : Nat} {od tm : Int32} {pr va cr mo ve kl op ov er ek ep ev ck cy cm cn ak ap av ac gr tt ex ba el se co : Nat → Int32}
theorem lc_key (x : Int32) : ((∀ post : Int32 → Prop, post 0 → wpX_isKey post x) ∧ (∀ post : Int32 → Prop, post 0 → wpY_isKey post (od, (nI N), (nI n), (nI c), tm, ba, er, ek, ep, ev, el, se, co, ak, ap, av, ac, gr, tt, ex) x)) ∨ ∃ j, j < 16 ∧ x = nI j ∧ (∀ post : Int32 → Prop, post 1 → wpX_isKey post (nI j)) ∧ (∀ post : Int32 → Prop, post 1 → wpY_isKey post (od, (nI N), (nI n), (nI c), tm, ba, er, ek, ep, ev, el, se, co, ak, ap, av, ac, gr, tt, ex) (nI j)) := by
  rcases pk_ix x (n := 16) (by decide) with h | h | ⟨j, hj, rfl⟩
  · exact Or.inl ⟨fun post hp => br_t h hp, fun post hp => br_t h hp⟩
  · have h0 : ¬ x < 0 := Int32.not_lt.mpr (Int32.le_trans (nI_pos' (n := 16) (by decide)) h)
    exact Or.inl ⟨fun post hp => br_f h0 (br_t h hp), fun post hp => br_f h0 (br_t h hp)⟩
  · have h0 : ¬ nI j < 0 := nI_pos (by omega)
    have h1 : ¬ (16 : Int32) ≤ nI j := nI_ge (b := 16) hj (by decide)
    exact Or.inr ⟨j, hj, rfl, fun post hp => br_f h0 (br_f h1 hp), fun post hp => br_f h0 (br_f h1 hp)⟩
theorem lc_lease (x : Int32) : (∀ post : Int32 → Prop, post 0 → wpX_isLease post x) ∧ (x < 0 ∨ (¬ x < 0 ∧ nI 4 ≤ x ∧ ¬ x ≤ nI 3)) ∨ ∃ l, l < 4 ∧ x = nI l ∧ (∀ post : Int32 → Prop, post 1 → wpX_isLease post (nI l)) := by
  rcases pk_ix x (n := 4) (by decide) with h | h | ⟨j, hj, rfl⟩
  · exact Or.inl ⟨fun post hp => br_t h hp, Or.inl h⟩
  · have h0 : ¬ x < 0 := Int32.not_lt.mpr (Int32.le_trans (nI_pos' (n := 4) (by decide)) h)
    refine Or.inl ⟨fun post hp => br_f h0 (br_t h hp), Or.inr ⟨h0, h, fun z => ?_⟩⟩
    have := Int32.le_trans h z
    exact absurd this (by decide)
  · have h0 : ¬ nI j < 0 := nI_pos (by omega)
    have h1 : ¬ (4 : Int32) ≤ nI j := nI_ge (b := 4) hj (by decide)
    exact Or.inr ⟨j, hj, rfl, fun post hp => br_f h0 (br_f h1 hp)⟩
theorem lc_grant (x : Int32) : ((∀ post : Int32 → Prop, post 0 → wpX_isGranted post ((nI n), (nI c), (nI N), od, tm, pr, va, cr, mo, ve, kl, op, ov, er, ek, ep, ev, ck, cy, cm, cn, ak, ap, av, ac, gr, tt, ex) x) ∧ (∀ post : Int32 → Prop, post 0 → wpY_isGranted post (od, (nI N), (nI n), (nI c), tm, ba, er, ek, ep, ev, el, se, co, ak, ap, av, ac, gr, tt, ex) x)) ∨ ∃ l, l < 4 ∧ x = nI l ∧ ¬ gr l = 0 ∧ (∀ post : Int32 → Prop, post 1 → wpX_isGranted post ((nI n), (nI c), (nI N), od, tm, pr, va, cr, mo, ve, kl, op, ov, er, ek, ep, ev, ck, cy, cm, cn, ak, ap, av, ac, gr, tt, ex) (nI l)) ∧ (∀ post : Int32 → Prop, post 1 → wpY_isGranted post (od, (nI N), (nI n), (nI c), tm, ba, er, ek, ep, ev, el, se, co, ak, ap, av, ac, gr, tt, ex) (nI l)) := by
  rcases lc_lease x with ⟨hx, h | ⟨h0, h4, h3⟩⟩ | ⟨l, hl, rfl, hx⟩
  · exact Or.inl ⟨fun post hp => by unfold wpX_isGranted; exact hx _ (br_t rfl hp), fun post hp => br_t h hp⟩
  · exact Or.inl ⟨fun post hp => by unfold wpX_isGranted; exact hx _ (br_t rfl hp), fun post hp => br_f h0 (br_t h4 hp)⟩
  · have h0 : ¬ nI l < 0 := nI_pos (by omega)
    have h1 : ¬ (4 : Int32) ≤ nI l := nI_ge (b := 4) hl (by decide)
    have hv : vp_in (nI l) 4 := vp_in_nI hl (by decide)
    have hc : (nI l).toNatClampNeg = l := nI_clamp (by omega)
    by_cases z : gr l = 0
    · exact Or.inl ⟨fun post hp => by unfold wpX_isGranted; exact hx _ (br_f lc_10 ⟨hv, br_t (by rw [hc]; exact z) hp⟩), fun post hp => br_f h0 (br_f h1 ⟨hv, br_t (by rw [hc]; exact z) hp⟩)⟩
    · exact Or.inr ⟨l, hl, rfl, z, fun post hp => by unfold wpX_isGranted; exact hx _ (br_f lc_10 ⟨hv, br_f (by rw [hc]; exact z) hp⟩), fun post hp => br_f h0 (br_f h1 ⟨hv, br_f (by rw [hc]; exact z) hp⟩)⟩
theorem lc_yGr {l : Nat} (hl : l < 4) (g : ¬ gr l = 0) {post : Int32 → Prop} (h : post 1) : wpY_isGranted post (od, (nI N), (nI n), (nI c), tm, ba, er, ek, ep, ev, el, se, co, ak, ap, av, ac, gr, tt, ex) (nI l) :=
  br_f (nI_pos (by omega)) (br_f (nI_ge (b := 4) hl (by decide)) ⟨vp_in_nI hl (by decide), br_f (by rw [nI_clamp (by omega)]; exact g) h⟩)
theorem lc_yKeep {l : Nat} (hl : l < 4) (g : ¬ gr l = 0) {post : Int32 → SY → Prop} (h : post (tm + tt l) (od, (nI N), (nI n), (nI c), tm, ba, er, ek, ep, ev, el, se, co, ak, ap, av, ac, gr, tt, (upd ex l (tm + tt l)))) : wpY_keep post (od, (nI N), (nI n), (nI c), tm, ba, er, ek, ep, ev, el, se, co, ak, ap, av, ac, gr, tt, ex) (nI l) := by
  have hv : vp_in (nI l) 4 := vp_in_nI hl (by decide)
  have hc : (nI l).toNatClampNeg = l := nI_clamp (by omega)
  unfold wpY_keep
  exact lc_yGr hl g (br_f lc_10 ⟨hv, hv, nm_r (by rw [hc]) ⟨hv, by rw [hc, pk_us]; exact h⟩⟩)
theorem lc_yPres {K j : Nat} (R : lc_R n N K pr va cr mo ve kl op ov er ek ep ev ba el) (hK : K < 2 ^ 30) (hn : n ≤ 96) (hj : j < 16) : ∃ se', lc_sv se' = (va j, ve j, mo j, cr j, kl j) ∧ ∀ post : Int32 → SY → Prop, post (pr j) (od, (nI N), (nI n), (nI c), tm, ba, er, ek, ep, ev, el, se', co, ak, ap, av, ac, gr, tt, ex) → wpY_present post (od, (nI N), (nI n), (nI c), tm, ba, er, ek, ep, ev, el, se, co, ak, ap, av, ac, gr, tt, ex) (nI j) := by
  obtain ⟨w, hw, ew⟩ := lc_R_v R hj
  obtain ⟨a1, a2, a3, a4, a5, a6, a7⟩ := R
  have hl := a6 j hj
  rw [ew] at hl
  obtain ⟨s1, e1, h1⟩ := lc_yPresent (n := n) (c := c) (N := N) (od := od) (tm := tm) (er := er) (ek := ek) (ep := ep) (ev := ev) (ak := ak) (ap := ap) (av := av) (ac := ac) (gr := gr) (tt := tt) (ex := ex) (ba := ba) (el := el) (se := se) (co := co) hj hn (by omega) hl
  refine ⟨s1, by rw [e1, ew], fun post hp => h1 post ?_⟩
  have e : pr j = if w = 0 then 0 else 1 := by
    rw [(a7 j hj).1, ew]
    by_cases z : w = 0
    · rw [if_pos z, z, if_pos nI_0]
    · rw [if_neg z, if_neg (nI_ne0 (by omega) (by omega))]
  rw [← e]
  exact hp
theorem lc_put25 {k j : Nat} {x l : Int32} (hk : k + 5 ≤ 2560) (hj : j < 16) (h1 : N ≤ k) (h2 : n + lc_pc pr 16 ≤ 76) (h3 : lc_R n N (16 * k) pr va cr mo ve kl op ov er ek ep ev ba el) (h4 : lc_C c ck cy cm cn co) (h5 : lc_A ak ap av ac)
    (HY : ∀ post : Int32 → SY → Prop, wY_put_26 post (nI j) x l od (nI N) (nI n) (nI c) tm ba er ek ep ev el se co ak ap av ac gr tt ex → wpY_put post (od, (nI N), (nI n), (nI c), tm, ba, er, ek, ep, ev, el, se, co, ak, ap, av, ac, gr, tt, ex) (nI j) x l) :
    wX_put_25 (fun r u' => wpY_put (fun r' v' => r' = r ∧ i_Rel (k + 5) u' v') (od, (nI N), (nI n), (nI c), tm, ba, er, ek, ep, ev, el, se, co, ak, ap, av, ac, gr, tt, ex) (nI j) x l) (nI j) x l (nI n) (nI c) (nI N) od tm pr va cr mo ve kl op ov er ek ep ev ck cy cm cn ak ap av ac gr tt ex := by
  by_cases h : n < 60
  · have hl : nI n < 60 := nI_lt (b := 60) h (by decide)
    refine br_t hl (nm_r (nI_1 N) (lc_xPutKey hj (by omega) (HY _ (br_t hl (nm_r (nI_1 N) (lc_yAdd (by omega) ⟨rfl, lc_i (B := k + 5) (K := 16 * k + 1) (Nat.le_refl _) (by omega) (lc_mk (by omega) ?_ (lc_R_p hj (by omega) (lc_R_b (by omega) h3)) h4 h5)⟩))))))
    have := lc_pc_le (if pr j = 0 then upd pr j 1 else pr) 16
    omega
  · have hl : ¬ nI n < 60 := nI_nlt (b := 60) (by omega) (by omega)
    exact br_f hl (HY _ (br_f hl ⟨rfl, i_up (lc_mk h1 h2 h3 h4 h5)⟩))
end
theorem i_vc_put {k : Nat} {u : SX} {v : SY} (I : i_Rel k u v) (hk : k + 5 ≤ 2560) (v1 : Int32) (v2 : Int32) (v3 : Int32) : wpX_put (fun r u' => wpY_put (fun r' v' => r' = r ∧ i_Rel (k + 5) u' v') v v1 v2 v3) u v1 v2 v3 := by
  obtain ⟨n, c, N, od, tm, pr, va, cr, mo, ve, kl, op, ov, er, ek, ep, ev, ck, cy, cm, cn, ak, ap, av, ac, gr, tt, ex, ba, el, se, co, rfl, rfl, h1, h2, h3, h4, h5⟩ := I
  unfold wpX_put wpY_put
  rcases lc_key (n := n) (c := c) (N := N) (od := od) (tm := tm) (ba := ba) (er := er) (ek := ek) (ep := ep) (ev := ev) (el := el) (se := se) (co := co) (ak := ak) (ap := ap) (av := av) (ac := ac) (gr := gr) (tt := tt) (ex := ex) v1 with ⟨hx, hy⟩ | ⟨j, hj, rfl, hx, hy⟩
  · exact hx _ (br_t rfl (hy _ (br_t rfl ⟨rfl, i_up (lc_mk h1 h2 h3 h4 h5)⟩)))
  · by_cases z : v3 = -1
    · exact hx _ (br_f lc_10 (br_t z (lc_put25 hk hj h1 h2 h3 h4 h5 (fun post hp => by unfold wpY_put; exact hy _ (br_f lc_10 (br_t z hp))))))
    · rcases lc_grant (n := n) (c := c) (N := N) (od := od) (tm := tm) (pr := pr) (va := va) (cr := cr) (mo := mo) (ve := ve) (kl := kl) (op := op) (ov := ov) (er := er) (ek := ek) (ep := ep) (ev := ev) (ck := ck) (cy := cy) (cm := cm) (cn := cn) (ak := ak) (ap := ap) (av := av) (ac := ac) (gr := gr) (tt := tt) (ex := ex) (ba := ba) (el := el) (se := se) (co := co) v3 with ⟨gx, gy⟩ | ⟨l, hl, rfl, hg, gx, gy⟩
      · exact hx _ (br_f lc_10 (br_f z (gx _ (br_t rfl (hy _ (br_f lc_10 (br_f z (gy _ (br_t rfl ⟨rfl, i_up (lc_mk h1 h2 h3 h4 h5)⟩)))))))))
      · exact hx _ (br_f lc_10 (br_f z (gx _ (br_f lc_10 (lc_put25 hk hj h1 h2 h3 h4 h5 (fun post hp => by unfold wpY_put; exact hy _ (br_f lc_10 (br_f z (gy _ (br_f lc_10 hp))))))))))
theorem i_vc_delete {k : Nat} {u : SX} {v : SY} (I : i_Rel k u v) (hk : k + 5 ≤ 2560) (v1 : Int32) : wpX_delete (fun r u' => wpY_delete (fun r' v' => r' = r ∧ i_Rel (k + 5) u' v') v v1) u v1 := by
  obtain ⟨n, c, N, od, tm, pr, va, cr, mo, ve, kl, op, ov, er, ek, ep, ev, ck, cy, cm, cn, ak, ap, av, ac, gr, tt, ex, ba, el, se, co, rfl, rfl, h1, h2, h3, h4, h5⟩ := I
  unfold wpX_delete wpY_delete
  rcases lc_key (n := n) (c := c) (N := N) (od := od) (tm := tm) (ba := ba) (er := er) (ek := ek) (ep := ep) (ev := ev) (el := el) (se := se) (co := co) (ak := ak) (ap := ap) (av := av) (ac := ac) (gr := gr) (tt := tt) (ex := ex) v1 with ⟨hx, hy⟩ | ⟨j, hj, rfl, hx, hy⟩
  · exact hx _ (br_t rfl (hy _ (br_t rfl ⟨rfl, i_up (lc_mk h1 h2 h3 h4 h5)⟩)))
  · have hv : vp_in (nI j) 16 := vp_in_nI hj (by decide)
    have hc : (nI j).toNatClampNeg = j := nI_clamp (by omega)
    obtain ⟨s1, e1, hp⟩ := lc_yPres (n := n) (c := c) (N := N) (od := od) (tm := tm) (ba := ba) (er := er) (ek := ek) (ep := ep) (ev := ev) (el := el) (se := se) (co := co) (ak := ak) (ap := ap) (av := av) (ac := ac) (gr := gr) (tt := tt) (ex := ex) h3 (by omega) (by omega) hj
    by_cases z : pr j = 0
    · exact hx _ (br_f lc_10 ⟨hv, br_t (by rw [hc]; exact z) (hy _ (br_f lc_10 (hp _ (br_t z ⟨rfl, i_up (lc_mk h1 h2 h3 h4 h5)⟩))))⟩)
    · by_cases h : n < 60
      · have hl : nI n < 60 := nI_lt (b := 60) h (by decide)
        refine hx _ (br_f lc_10 ⟨hv, br_f (by rw [hc]; exact z) (br_t hl (nm_r (nI_1 N) (lc_xDelKey hj (by omega) (hy _ (br_f lc_10 (hp _ (br_f z (br_t hl (nm_r (nI_1 N) (lc_yAdd (by omega) ⟨rfl, lc_i (B := k + 5) (K := 16 * k + 1) (Nat.le_refl _) (by omega) (lc_mk (by omega) ?_ (lc_R_d hj (lc_R_b (by omega) h3)) h4 h5)⟩))))))))))⟩)
        have := lc_pc_le (upd pr j 0) 16
        omega
      · have hl : ¬ nI n < 60 := nI_nlt (b := 60) (by omega) (by omega)
        exact hx _ (br_f lc_10 ⟨hv, br_f (by rw [hc]; exact z) (br_f hl (hy _ (br_f lc_10 (hp _ (br_f z (br_f hl ⟨rfl, i_up (lc_mk h1 h2 h3 h4 h5)⟩))))))⟩)
theorem i_vc_revision {k : Nat} {u : SX} {v : SY} (I : i_Rel k u v) (hk : k + 5 ≤ 2560) : wpX_revision (fun r => wpY_revision (fun r' => r' = r ∧ i_Rel (k + 5) u v) v) u := by
  have J := i_up I
  obtain ⟨n, c, N, od, tm, pr, va, cr, mo, ve, kl, op, ov, er, ek, ep, ev, ck, cy, cm, cn, ak, ap, av, ac, gr, tt, ex, ba, el, se, co, rfl, rfl, h1, h2, h3, h4, h5⟩ := I
  exact ⟨rfl, J⟩
theorem i_vc_keep {k : Nat} {u : SX} {v : SY} (I : i_Rel k u v) (hk : k + 5 ≤ 2560) (v1 : Int32) : wpX_keep (fun r u' => wpY_keep (fun r' v' => r' = r ∧ i_Rel (k + 5) u' v') v v1) u v1 := by
  obtain ⟨n, c, N, od, tm, pr, va, cr, mo, ve, kl, op, ov, er, ek, ep, ev, ck, cy, cm, cn, ak, ap, av, ac, gr, tt, ex, ba, el, se, co, rfl, rfl, h1, h2, h3, h4, h5⟩ := I
  unfold wpX_keep wpY_keep
  rcases lc_grant (n := n) (c := c) (N := N) (od := od) (tm := tm) (pr := pr) (va := va) (cr := cr) (mo := mo) (ve := ve) (kl := kl) (op := op) (ov := ov) (er := er) (ek := ek) (ep := ep) (ev := ev) (ck := ck) (cy := cy) (cm := cm) (cn := cn) (ak := ak) (ap := ap) (av := av) (ac := ac) (gr := gr) (tt := tt) (ex := ex) (ba := ba) (el := el) (se := se) (co := co) v1 with ⟨gx, gy⟩ | ⟨l, hl, rfl, hg, gx, gy⟩
  · exact gx _ (br_t rfl (gy _ (br_t rfl ⟨rfl, i_up (lc_mk h1 h2 h3 h4 h5)⟩)))
  · have hv : vp_in (nI l) 4 := vp_in_nI hl (by decide)
    exact gx _ (br_f lc_10 ⟨hv, hv, nm_e ⟨hv, gy _ (br_f lc_10 ⟨hv, hv, nm_e ⟨hv, rfl, i_up (lc_mk h1 h2 h3 h4 h5)⟩⟩)⟩⟩)
theorem i_vc_grant {k : Nat} {u : SX} {v : SY} (I : i_Rel k u v) (hk : k + 5 ≤ 2560) (v1 : Int32) (v2 : Int32) : wpX_grant (fun r u' => wpY_grant (fun r' v' => r' = r ∧ i_Rel (k + 5) u' v') v v1 v2) u v1 v2 := by
  obtain ⟨n, c, N, od, tm, pr, va, cr, mo, ve, kl, op, ov, er, ek, ep, ev, ck, cy, cm, cn, ak, ap, av, ac, gr, tt, ex, ba, el, se, co, rfl, rfl, h1, h2, h3, h4, h5⟩ := I
  unfold wpX_grant wpY_grant
  rcases lc_lease v1 with ⟨hx, h | ⟨h0, h4', h3'⟩⟩ | ⟨l, hl, rfl, hx⟩
  · exact hx _ (br_t rfl (br_t h ⟨rfl, i_up (lc_mk h1 h2 h3 h4 h5)⟩))
  · exact hx _ (br_t rfl (br_f h0 (br_f h3' ⟨rfl, i_up (lc_mk h1 h2 h3 h4 h5)⟩)))
  · have hv : vp_in (nI l) 4 := vp_in_nI hl (by decide)
    have h0 : ¬ nI l < 0 := nI_pos (by omega)
    have h3' : nI l ≤ 3 := nI_le (b := 3) (by omega) (by decide)
    have hb : l < 2 ^ 31 := by omega
    have hc : (nI l).toNatClampNeg = l := nI_clamp hb
    by_cases g : gr l = 0
    · have g' : gr (nI l).toNatClampNeg = 0 := by rw [hc]; exact g
      by_cases a : v2 < 1
      · exact hx _ (br_f lc_10 ⟨hv, br_t g' (br_t a (br_f h0 (br_t h3' ⟨hv, br_t g' (br_t a ⟨rfl, i_up (lc_mk h1 h2 h3 h4 h5)⟩)⟩)))⟩)
      · by_cases b : v2 ≤ 50
        · refine hx _ (br_f lc_10 ⟨hv, br_t g' (br_f a (br_t b ⟨hv, nm_r (lc_u hb) ⟨hv, nm_r (lc_u hb) ⟨hv, nm_r (lc_u hb) ⟨hv, br_f h0 (br_t h3' ⟨hv, br_t g' (br_f a (br_t b ⟨hv, nm_r (lc_u hb) ⟨hv, nm_r (lc_u hb) (lc_yKeep hl (by rw [pk_us]; exact lc_10) ⟨?_, ?_⟩)⟩⟩))⟩)⟩⟩⟩⟩))⟩)
          · rw [hc, pk_us, pk_us]
          · rw [show upd tt l v2 l = v2 from pk_us]; exact i_up (lc_mk h1 h2 h3 h4 h5)
        · exact hx _ (br_f lc_10 ⟨hv, br_t g' (br_f a (br_f b (br_f h0 (br_t h3' ⟨hv, br_t g' (br_f a (br_f b ⟨rfl, i_up (lc_mk h1 h2 h3 h4 h5)⟩))⟩))))⟩)
    · have g' : ¬ gr (nI l).toNatClampNeg = 0 := by rw [hc]; exact g
      exact hx _ (br_f lc_10 ⟨hv, br_f g' (br_f h0 (br_t h3' ⟨hv, br_f g' ⟨rfl, i_up (lc_mk h1 h2 h3 h4 h5)⟩⟩))⟩)
end
section
def lc_at (t : Int32 × Int32 × Int32 × Int32 × Int32) : Nat → Int32
  | 0 => t.1
  | 1 => t.2.1
  | 2 => t.2.2.1
  | 3 => t.2.2.2.1
  | _ => t.2.2.2.2
theorem lc_sv_at {se : Nat → Int32} {t : Int32 × Int32 × Int32 × Int32 × Int32} (h : lc_sv se = t) {a : Nat} (ha : a < 5) : se a = lc_at t a := by
  subst h
  match a, ha with
  | 0, _ => rfl
  | 1, _ => rfl
  | 2, _ => rfl
  | 3, _ => rfl
  | 4, _ => rfl
section
variable {n c N : Nat} {od tm : Int32} {pr va cr mo ve kl op ov er ek ep ev ck cy cm cn ak ap av ac gr tt ex ba el se co : Nat → Int32}
theorem lc_xRead {a j : Nat} (ha : a < 5) (hj : j < 16) {post : Int32 → Prop} (h : post (lc_at (va j, ve j, mo j, cr j, kl j) a)) : wpX_readAttribute post ((nI n), (nI c), (nI N), od, tm, pr, va, cr, mo, ve, kl, op, ov, er, ek, ep, ev, ck, cy, cm, cn, ak, ap, av, ac, gr, tt, ex) (nI a) (nI j) := by
  have hv : vp_in (nI j) 16 := vp_in_nI hj (by decide)
  have hc : (nI j).toNatClampNeg = j := nI_clamp (by omega)
  match a, ha with
  | 0, _ => exact br_f (by decide) (br_f (by decide) (br_t (by decide) ⟨hv, by rw [hc]; exact h⟩))
  | 1, _ => exact br_f (by decide) (br_f (by decide) (br_f (by decide) (br_t (by decide) ⟨hv, by rw [hc]; exact h⟩)))
  | 2, _ => exact br_f (by decide) (br_f (by decide) (br_f (by decide) (br_f (by decide) (br_t (by decide) ⟨hv, by rw [hc]; exact h⟩))))
  | 3, _ => exact br_f (by decide) (br_f (by decide) (br_f (by decide) (br_f (by decide) (br_f (by decide) (br_t (by decide) ⟨hv, by rw [hc]; exact h⟩)))))
  | 4, _ => exact br_f (by decide) (br_t (by decide) ⟨hv, by rw [hc]; exact h⟩)
theorem lc_xLast {j : Nat} {p : Int32} {s : Int32 × Int32 × Int32 × Int32 × Int32} (hn : n ≤ 76) : ∀ m : Nat, m ≤ n → ∃ r : Int32, ((r = -1 ∧ lc_lk er ek ep ev el (nI j) p s m = s) ∨ ∃ i, i < m ∧ r = nI i ∧ lc_lk er ek ep ev el (nI j) p s m = lc_ap (er i) (ep i) (ev i) (el i) (lc_lk er ek ep ev el (nI j) p s i)) ∧ ∀ post : Int32 → Prop, post r → wX_lastEvent_7 post (nI j) p (nI n) (nI c) (nI N) od tm pr va cr mo ve kl op ov er ek ep ev ck cy cm cn ak ap av ac gr tt ex (m + 1) (nI m + (-1)) := by
  intro m
  induction m with
  | zero =>
    intro _
    exact ⟨-1, Or.inl ⟨rfl, rfl⟩, fun post hp => br_t (by decide) hp⟩
  | succ m ih =>
    intro hm
    have hv : vp_in (nI m) 76 := vp_in_nI (by omega) (by decide)
    have hc : (nI m).toNatClampNeg = m := nI_clamp (by omega)
    have h0 : ¬ nI m < 0 := nI_pos (by omega)
    rw [pk_m1]
    have go : ¬ (ek m = nI j ∧ er m ≤ p) → ∃ r : Int32, ((r = -1 ∧ lc_lk er ek ep ev el (nI j) p s (m + 1) = s) ∨ ∃ i, i < m + 1 ∧ r = nI i ∧ lc_lk er ek ep ev el (nI j) p s (m + 1) = lc_ap (er i) (ep i) (ev i) (el i) (lc_lk er ek ep ev el (nI j) p s i)) ∧ ∀ post : Int32 → Prop, post r → wX_lastEvent_7 post (nI j) p (nI n) (nI c) (nI N) od tm pr va cr mo ve kl op ov er ek ep ev ck cy cm cn ak ap av ac gr tt ex (m + 1) (nI m + (-1)) := by
      intro z
      obtain ⟨r, hr, h⟩ := ih (by omega)
      rw [lc_lk_f z]
      refine ⟨r, ?_, h⟩
      rcases hr with hr | ⟨i, hi, e1, e2⟩
      · exact Or.inl hr
      · exact Or.inr ⟨i, by omega, e1, e2⟩
    by_cases hk : ek m = nI j
    · by_cases hr : er m ≤ p
      · exact ⟨nI m, Or.inr ⟨m, by omega, rfl, lc_lk_t hk hr⟩, fun post hp => br_f h0 ⟨hv, br_t (by rw [hc]; exact hk) ⟨hv, br_f (by rw [hc]; exact Int32.not_lt.mpr hr) hp⟩⟩⟩
      · obtain ⟨r, e, h⟩ := go (fun z => hr z.2)
        exact ⟨r, e, fun post hp => br_f h0 ⟨hv, br_t (by rw [hc]; exact hk) ⟨hv, br_t (by rw [hc]; exact Int32.not_le.mp hr) (nm_e (h post hp))⟩⟩⟩
    · obtain ⟨r, e, h⟩ := go (fun z => hk z.1)
      exact ⟨r, e, fun post hp => br_f h0 ⟨hv, br_f (by rw [hc]; exact hk) (nm_e (h post hp))⟩⟩
theorem lc_xLastEvent {j : Nat} {p : Int32} {s : Int32 × Int32 × Int32 × Int32 × Int32} (hn : n ≤ 76) : ∃ r : Int32, ((r = -1 ∧ lc_lk er ek ep ev el (nI j) p s n = s) ∨ ∃ i, i < n ∧ r = nI i ∧ lc_lk er ek ep ev el (nI j) p s n = lc_ap (er i) (ep i) (ev i) (el i) (lc_lk er ek ep ev el (nI j) p s i)) ∧ ∀ post : Int32 → Prop, post r → wpX_lastEvent post ((nI n), (nI c), (nI N), od, tm, pr, va, cr, mo, ve, kl, op, ov, er, ek, ep, ev, ck, cy, cm, cn, ak, ap, av, ac, gr, tt, ex) (nI j) p := by
  obtain ⟨r, e, h⟩ := lc_xLast (n := n) (c := c) (N := N) (od := od) (tm := tm) (pr := pr) (va := va) (cr := cr) (mo := mo) (ve := ve) (kl := kl) (op := op) (ov := ov) (er := er) (ek := ek) (ep := ep) (ev := ev) (ck := ck) (cy := cy) (cm := cm) (cn := cn) (ak := ak) (ap := ap) (av := av) (ac := ac) (gr := gr) (tt := tt) (ex := ex) (el := el) (j := j) (p := p) (s := s) hn n (Nat.le_refl _)
  exact ⟨r, e, fun post hp => nm_r (Int32.sub_eq_add_neg _ _) ⟨n + 1, h post hp⟩⟩
theorem lc_events {lo hi from' : Int32} (hn : n ≤ 76) : ∀ (d i : Nat) (x : Int32), i + d = n → ∃ r : Int32, (∀ post : Int32 → Prop, post r → wX_events_27 post lo hi from' (nI n) (nI c) (nI N) od tm pr va cr mo ve kl op ov er ek ep ev ck cy cm cn ak ap av ac gr tt ex (d + 1) x (nI i)) ∧ (∀ post : Int32 → Prop, post r → wY_events_27 post lo hi from' od (nI N) (nI n) (nI c) tm ba er ek ep ev el se co ak ap av ac gr tt ex (d + 1) x (nI i)) := by
  intro d
  induction d with
  | zero =>
    intro i x hd
    have e : i = n := by omega
    subst e
    exact ⟨x, fun post hp => br_t (Int32.le_refl _) hp, fun post hp => br_t (Int32.le_refl _) hp⟩
  | succ d ih =>
    intro i x hd
    have hg : ¬ nI n ≤ nI i := nI_ge (by omega) (by omega)
    have hv : vp_in (nI i) 76 := vp_in_nI (by omega) (by decide)
    have hw : vp_in (nI i) 96 := vp_in_nI (by omega) (by decide)
    obtain ⟨r, hX, hY⟩ := ih (i + 1) x (by omega)
    by_cases a : er (nI i).toNatClampNeg < from'
    · refine ⟨r, fun post hp => br_f hg ⟨hv, br_t a (nm_r (nI_1 i) (hX post hp))⟩, fun post hp => br_f hg ⟨hw, ?_⟩⟩
      by_cases b : ek (nI i).toNatClampNeg < lo
      · exact br_t b (nm_r (nI_1 i) (hY post hp))
      · by_cases g : hi < ek (nI i).toNatClampNeg
        · exact br_f b ⟨hw, br_t g (nm_r (nI_1 i) (hY post hp))⟩
        · exact br_f b ⟨hw, br_f g ⟨hw, br_t a (nm_r (nI_1 i) (hY post hp))⟩⟩
    · by_cases b : ek (nI i).toNatClampNeg < lo
      · exact ⟨r, fun post hp => br_f hg ⟨hv, br_f a ⟨hv, br_t b (nm_r (nI_1 i) (hX post hp))⟩⟩, fun post hp => br_f hg ⟨hw, br_t b (nm_r (nI_1 i) (hY post hp))⟩⟩
      · by_cases g : hi < ek (nI i).toNatClampNeg
        · exact ⟨r, fun post hp => br_f hg ⟨hv, br_f a ⟨hv, br_f b ⟨hv, br_t g (nm_r (nI_1 i) (hX post hp))⟩⟩⟩, fun post hp => br_f hg ⟨hw, br_f b ⟨hw, br_t g (nm_r (nI_1 i) (hY post hp))⟩⟩⟩
        · obtain ⟨r, hX, hY⟩ := ih (i + 1) (x + 1) (by omega)
          exact ⟨r, fun post hp => br_f hg ⟨hv, br_f a ⟨hv, br_f b ⟨hv, br_f g (nm_e (nm_r (nI_1 i) (hX post hp)))⟩⟩⟩, fun post hp => br_f hg ⟨hw, br_f b ⟨hw, br_f g ⟨hw, br_f a (nm_e (nm_r (nI_1 i) (hY post hp)))⟩⟩⟩⟩
theorem lc_C_w {a q b : Nat} {x : Int32} (hc : c < 4) (ha : a < 4) (hq : q < 16) (hb : b < 4) (h : lc_C c ck cy cm cn co) : lc_C (c + 1) (upd ck c (nI a)) (upd cy c (nI q)) (upd cm c (nI b)) (upd cn c x) (upd (upd (upd (upd co (c * 4) (nI a)) (c * 4 + 1) (nI q)) (c * 4 + 2) (nI b)) (c * 4 + 3) x) := by
  obtain ⟨_, h⟩ := h
  refine ⟨by omega, fun i hi => ?_⟩
  by_cases e : i = c
  · subst e
    simp only [pk_us]
    refine ⟨⟨a, ha, rfl⟩, ⟨q, hq, rfl⟩, ⟨b, hb, rfl⟩, ?_, ?_, ?_, trivial⟩
    · rw [pk_un (by omega), pk_un (by omega), pk_un (by omega), pk_us]
    · rw [pk_un (by omega), pk_un (by omega), pk_us]
    · rw [pk_un (by omega), pk_us]
  · obtain ⟨g1, g2, g3, g4, g5, g6, g7⟩ := h i (by omega)
    simp only [pk_un e]
    refine ⟨g1, g2, g3, ?_, ?_, ?_, ?_⟩
    · rw [pk_un (by omega), pk_un (by omega), pk_un (by omega), pk_un (by omega)]; exact g4
    · rw [pk_un (by omega), pk_un (by omega), pk_un (by omega), pk_un (by omega)]; exact g5
    · rw [pk_un (by omega), pk_un (by omega), pk_un (by omega), pk_un (by omega)]; exact g6
    · rw [pk_un (by omega), pk_un (by omega), pk_un (by omega), pk_un (by omega)]; exact g7
theorem lc_ix4 (j f : Nat) : nI j * 4 + nI f = nI (j * 4 + f) := by
  rw [show (4 : Int32) = nI 4 from rfl, pk_mul, nI_add]
theorem lc_ix40 (j : Nat) : nI j * 4 = nI (j * 4) := by
  rw [show (4 : Int32) = nI 4 from rfl, pk_mul]
theorem lc_u4 {a : Nat → Int32} {j f : Nat} {x : Int32} (h : j * 4 + f < 2 ^ 31) : upd a (nI j * 4 + nI f).toNatClampNeg x = upd a (j * 4 + f) x := by rw [lc_ix4, nI_clamp h]
theorem lc_u40 {a : Nat → Int32} {j : Nat} {x : Int32} (h : j * 4 < 2 ^ 31) : upd a (nI j * 4).toNatClampNeg x = upd a (j * 4) x := by rw [lc_ix40, nI_clamp h]
theorem lc_in4 {j f M : Nat} (h : j * 4 + f < M) (hM : M < 2 ^ 31) : vp_in (nI j * 4 + nI f) M := by rw [lc_ix4]; exact vp_in_nI h hM
theorem lc_in40 {j M : Nat} (h : j * 4 < M) (hM : M < 2 ^ 31) : vp_in (nI j * 4) M := by rw [lc_ix40]; exact vp_in_nI h hM
end
theorem i_vc_attribute {k : Nat} {u : SX} {v : SY} (I : i_Rel k u v) (hk : k + 5 ≤ 2560) (v1 : Int32) (v2 : Int32) : wpX_attribute (fun r => wpY_attribute (fun r' v' => r' = r ∧ i_Rel (k + 5) u v') v v1 v2) u v1 v2 := by
  obtain ⟨n, c, N, od, tm, pr, va, cr, mo, ve, kl, op, ov, er, ek, ep, ev, ck, cy, cm, cn, ak, ap, av, ac, gr, tt, ex, ba, el, se, co, rfl, rfl, h1, h2, h3, h4, h5⟩ := I
  unfold wpX_attribute wpY_attribute
  rcases lc_key (n := n) (c := c) (N := N) (od := od) (tm := tm) (ba := ba) (er := er) (ek := ek) (ep := ep) (ev := ev) (el := el) (se := se) (co := co) (ak := ak) (ap := ap) (av := av) (ac := ac) (gr := gr) (tt := tt) (ex := ex) v2 with ⟨hx, hy⟩ | ⟨j, hj, rfl, hx, hy⟩
  · exact hx _ (br_t rfl (hy _ (br_t rfl ⟨rfl, i_up (lc_mk h1 h2 h3 h4 h5)⟩)))
  · rcases pk_ix v1 (n := 5) (by decide) with h | h | ⟨a, ha, rfl⟩
    · exact hx _ (br_f lc_10 (br_t h (hy _ (br_f lc_10 (br_t h ⟨rfl, i_up (lc_mk h1 h2 h3 h4 h5)⟩)))))
    · have h0 : ¬ v1 < 0 := Int32.not_lt.mpr (Int32.le_trans (nI_pos' (n := 5) (by decide)) h)
      have h4' : ¬ v1 ≤ 4 := fun z => absurd (Int32.le_trans h z) (by decide)
      exact hx _ (br_f lc_10 (br_f h0 (br_f h4' (hy _ (br_f lc_10 (br_f h0 (br_f h4' ⟨rfl, i_up (lc_mk h1 h2 h3 h4 h5)⟩)))))))
    · have h0 : ¬ nI a < 0 := nI_pos (by omega)
      have h4' : nI a ≤ 4 := nI_le (b := 4) (by omega) (by decide)
      obtain ⟨s1, e1, hl⟩ := lc_yLook (n := n) (c := c) (N := N) (od := od) (tm := tm) (ba := ba) (er := er) (ek := ek) (ep := ep) (ev := ev) (el := el) (se := se) (co := co) (ak := ak) (ap := ap) (av := av) (ac := ac) (gr := gr) (tt := tt) (ex := ex) (p := nI N) hj (by omega)
      have e2 := e1
      rw [h3.2.2.2.2.2.1 j hj] at e2
      exact hx _ (br_f lc_10 (br_f h0 (br_t h4' (lc_xRead ha hj (hy _ (br_f lc_10 (br_f h0 (br_t h4' (hl _ ⟨vp_in_nI ha (by decide), by rw [nI_clamp (by omega)]; exact lc_sv_at e2 ha, i_up (lc_mk h1 h2 h3 h4 h5)⟩)))))))))
theorem i_vc_get {k : Nat} {u : SX} {v : SY} (I : i_Rel k u v) (hk : k + 5 ≤ 2560) (v1 : Int32) (v2 : Int32) : wpX_get (fun r => wpY_get (fun r' v' => r' = r ∧ i_Rel (k + 5) u v') v v1 v2) u v1 v2 := by
  obtain ⟨n, c, N, od, tm, pr, va, cr, mo, ve, kl, op, ov, er, ek, ep, ev, ck, cy, cm, cn, ak, ap, av, ac, gr, tt, ex, ba, el, se, co, rfl, rfl, h1, h2, h3, h4, h5⟩ := I
  unfold wpX_get wpY_get
  rcases lc_key (n := n) (c := c) (N := N) (od := od) (tm := tm) (ba := ba) (er := er) (ek := ek) (ep := ep) (ev := ev) (el := el) (se := se) (co := co) (ak := ak) (ap := ap) (av := av) (ac := ac) (gr := gr) (tt := tt) (ex := ex) v1 with ⟨hx, hy⟩ | ⟨j, hj, rfl, hx, hy⟩
  · exact hx _ (br_t rfl (hy _ (br_t rfl ⟨rfl, i_up (lc_mk h1 h2 h3 h4 h5)⟩)))
  · by_cases a : v2 < od
    · exact hx _ (br_f lc_10 (br_t a (br_t rfl (hy _ (br_f lc_10 (br_t a ⟨rfl, i_up (lc_mk h1 h2 h3 h4 h5)⟩))))))
    · by_cases b : v2 ≤ nI N
      · obtain ⟨s1, e1, hl⟩ := lc_yLook (n := n) (c := c) (N := N) (od := od) (tm := tm) (ba := ba) (er := er) (ek := ek) (ep := ep) (ev := ev) (el := el) (se := se) (co := co) (ak := ak) (ap := ap) (av := av) (ac := ac) (gr := gr) (tt := tt) (ex := ex) (p := v2) hj (by omega)
        obtain ⟨r, e, hL⟩ := lc_xLastEvent (n := n) (c := c) (N := N) (od := od) (tm := tm) (pr := pr) (va := va) (cr := cr) (mo := mo) (ve := ve) (kl := kl) (op := op) (ov := ov) (er := er) (ek := ek) (ep := ep) (ev := ev) (ck := ck) (cy := cy) (cm := cm) (cn := cn) (ak := ak) (ap := ap) (av := av) (ac := ac) (gr := gr) (tt := tt) (ex := ex) (el := el) (j := j) (p := v2) (s := lc_bs ba j) (by omega)
        have HY : ∀ post : Int32 → SY → Prop, post (lc_lk er ek ep ev el (nI j) v2 (lc_bs ba j) n).1 (od, (nI N), (nI n), (nI c), tm, ba, er, ek, ep, ev, el, s1, co, ak, ap, av, ac, gr, tt, ex) → wpY_look (fun u => post (u.2.2.2.2.2.2.2.2.2.2.2.1 0) u) (od, (nI N), (nI n), (nI c), tm, ba, er, ek, ep, ev, el, se, co, ak, ap, av, ac, gr, tt, ex) (nI j) v2 := fun post hp => hl _ (by rw [← e1] at hp; exact hp)
        rcases e with ⟨rfl, e⟩ | ⟨i, hi, rfl, e⟩
        · refine hx _ (br_f lc_10 (br_f a (br_f (Int32.not_lt.mpr b) (br_f lc_10 (hL _ (br_t rfl ⟨vp_in_nI hj (by decide), hy _ (br_f lc_10 (br_f a (br_t b (hl _ ⟨?_, i_up (lc_mk h1 h2 h3 h4 h5)⟩))))⟩))))))
          rw [e] at e1
          rw [nI_clamp (by omega), (h3.2.2.2.2.1 j hj).2.1]
          exact congrArg (fun t => t.1) e1
        · refine hx _ (br_f lc_10 (br_f a (br_f (Int32.not_lt.mpr b) (br_f lc_10 (hL _ (br_f ?_ ⟨vp_in_nI (by omega) (by decide), hy _ (br_f lc_10 (br_f a (br_t b (hl _ ⟨?_, i_up (lc_mk h1 h2 h3 h4 h5)⟩))))⟩))))))
          · exact fun z => absurd (show nI i < 0 by rw [z]; decide) (nI_pos (by omega))
          · rw [e] at e1
            rw [nI_clamp (by omega)]
            have e2 : s1 0 = _ := congrArg (fun t => t.1) e1
            rw [e2]
            rcases h3.2.2.2.1 i hi with ⟨z, z'⟩ | z
            · rw [lc_ap0 z, z']
            · rw [lc_ap1 (by rw [z]; exact lc_10)]
      · exact hx _ (br_f lc_10 (br_f a (br_t (Int32.not_le.mp b) (br_t rfl (hy _ (br_f lc_10 (br_f a (br_f b ⟨rfl, i_up (lc_mk h1 h2 h3 h4 h5)⟩))))))))
theorem i_vc_has {k : Nat} {u : SX} {v : SY} (I : i_Rel k u v) (hk : k + 5 ≤ 2560) (v1 : Int32) (v2 : Int32) : wpX_has (fun r => wpY_has (fun r' v' => r' = r ∧ i_Rel (k + 5) u v') v v1 v2) u v1 v2 := by
  obtain ⟨n, c, N, od, tm, pr, va, cr, mo, ve, kl, op, ov, er, ek, ep, ev, ck, cy, cm, cn, ak, ap, av, ac, gr, tt, ex, ba, el, se, co, rfl, rfl, h1, h2, h3, h4, h5⟩ := I
  unfold wpX_has wpY_has
  rcases lc_key (n := n) (c := c) (N := N) (od := od) (tm := tm) (ba := ba) (er := er) (ek := ek) (ep := ep) (ev := ev) (el := el) (se := se) (co := co) (ak := ak) (ap := ap) (av := av) (ac := ac) (gr := gr) (tt := tt) (ex := ex) v1 with ⟨hx, hy⟩ | ⟨j, hj, rfl, hx, hy⟩
  · exact hx _ (br_t rfl (hy _ (br_t rfl ⟨rfl, i_up (lc_mk h1 h2 h3 h4 h5)⟩)))
  · by_cases a : v2 < od
    · exact hx _ (br_f lc_10 (br_t a (br_t rfl (hy _ (br_f lc_10 (br_t a ⟨rfl, i_up (lc_mk h1 h2 h3 h4 h5)⟩))))))
    · by_cases b : v2 ≤ nI N
      · obtain ⟨s1, e1, hl⟩ := lc_yLook (n := n) (c := c) (N := N) (od := od) (tm := tm) (ba := ba) (er := er) (ek := ek) (ep := ep) (ev := ev) (el := el) (se := se) (co := co) (ak := ak) (ap := ap) (av := av) (ac := ac) (gr := gr) (tt := tt) (ex := ex) (p := v2) hj (by omega)
        obtain ⟨r, e, hL⟩ := lc_xLastEvent (n := n) (c := c) (N := N) (od := od) (tm := tm) (pr := pr) (va := va) (cr := cr) (mo := mo) (ve := ve) (kl := kl) (op := op) (ov := ov) (er := er) (ek := ek) (ep := ep) (ev := ev) (ck := ck) (cy := cy) (cm := cm) (cn := cn) (ak := ak) (ap := ap) (av := av) (ac := ac) (gr := gr) (tt := tt) (ex := ex) (el := el) (j := j) (p := v2) (s := lc_bs ba j) (by omega)
        obtain ⟨⟨w, ew, hw⟩, e3, e4⟩ := h3.2.2.2.2.1 j hj
        have hs : s1 1 = (lc_lk er ek ep ev el (nI j) v2 (lc_bs ba j) n).2.1 := congrArg (fun t => t.2.1) e1
        have fin : ∀ x : Int32, ((x = 0 ∧ s1 1 ≤ 0) ∨ (x = 1 ∧ ¬ s1 1 ≤ 0)) → (narrow .boolean (.int x) = .int x ∧ wpY_has (fun r' v' => r' = x ∧ i_Rel (k + 5) ((nI n), (nI c), (nI N), od, tm, pr, va, cr, mo, ve, kl, op, ov, er, ek, ep, ev, ck, cy, cm, cn, ak, ap, av, ac, gr, tt, ex) v') (od, (nI N), (nI n), (nI c), tm, ba, er, ek, ep, ev, el, se, co, ak, ap, av, ac, gr, tt, ex) (nI j) v2) := by
          intro x hxx
          unfold wpY_has
          rcases hxx with ⟨rfl, z⟩ | ⟨rfl, z⟩
          · exact ⟨lc_fb (Or.inl rfl), hy _ (br_f lc_10 (br_f a (br_t b (hl _ (br_t z ⟨rfl, i_up (lc_mk h1 h2 h3 h4 h5)⟩)))))⟩
          · exact ⟨lc_fb (Or.inr rfl), hy _ (br_f lc_10 (br_f a (br_t b (hl _ (br_f z ⟨rfl, i_up (lc_mk h1 h2 h3 h4 h5)⟩)))))⟩
        rcases e with ⟨rfl, e⟩ | ⟨i, hi, rfl, e⟩
        · refine hx _ (br_f lc_10 (br_f a (br_f (Int32.not_lt.mpr b) (br_f lc_10 (hL _ (br_t rfl ⟨vp_in_nI hj (by decide), fin _ ?_⟩))))))
          rw [nI_clamp (by omega), hs, e, e4]
          show _ ∧ ba (j * 5 + 1) ≤ 0 ∨ _ ∧ ¬ ba (j * 5 + 1) ≤ 0
          rw [ew]
          by_cases z : w = 0
          · rw [z]; exact Or.inl ⟨rfl, by decide⟩
          · rw [if_neg (nI_ne0 (by omega) (by omega))]; exact Or.inr ⟨rfl, nI_nle (by omega) (by omega)⟩
        · refine hx _ (br_f lc_10 (br_f a (br_f (Int32.not_lt.mpr b) (br_f lc_10 (hL _ (br_f ?_ ⟨vp_in_nI (by omega) (by decide), fin _ ?_⟩))))))
          · exact fun z => absurd (show nI i < 0 by rw [z]; decide) (nI_pos (by omega))
          · rw [nI_clamp (by omega), hs, e]
            rcases h3.2.2.2.1 i hi with ⟨z, z'⟩ | z
            · rw [lc_ap0 z, z]; exact Or.inl ⟨rfl, by decide⟩
            · rw [lc_ap1 (by rw [z]; exact lc_10), z]
              obtain ⟨w', hw', ew'⟩ := lc_lk_v (er := er) (ek := ek) (ep := ep) (ev := ev) (el := el) (key := nI j) (p := v2) (s := lc_bs ba j) (w := w) ew i
              refine Or.inr ⟨rfl, ?_⟩
              show ¬ (lc_lk er ek ep ev el (nI j) v2 (lc_bs ba j) i).2.1 + 1 ≤ 0
              rw [ew', nI_1]
              exact nI_nle (by omega) (by omega)
      · exact hx _ (br_f lc_10 (br_f a (br_t (Int32.not_le.mp b) (br_t rfl (hy _ (br_f lc_10 (br_f a (br_f b ⟨rfl, i_up (lc_mk h1 h2 h3 h4 h5)⟩))))))))
theorem i_vc_events {k : Nat} {u : SX} {v : SY} (I : i_Rel k u v) (hk : k + 5 ≤ 2560) (v1 : Int32) (v2 : Int32) (v3 : Int32) : wpX_events (fun r => wpY_events (fun r' => r' = r ∧ i_Rel (k + 5) u v) v v1 v2 v3) u v1 v2 v3 := by
  have J := i_up I
  obtain ⟨n, c, N, od, tm, pr, va, cr, mo, ve, kl, op, ov, er, ek, ep, ev, ck, cy, cm, cn, ak, ap, av, ac, gr, tt, ex, ba, el, se, co, rfl, rfl, h1, h2, h3, h4, h5⟩ := I
  by_cases a : v3 ≤ od
  · exact br_t a (br_t a ⟨rfl, J⟩)
  · by_cases b : v3 ≤ nI N + 1
    · obtain ⟨r, hX, hY⟩ := lc_events (n := n) (c := c) (N := N) (od := od) (tm := tm) (pr := pr) (va := va) (cr := cr) (mo := mo) (ve := ve) (kl := kl) (op := op) (ov := ov) (er := er) (ek := ek) (ep := ep) (ev := ev) (ck := ck) (cy := cy) (cm := cm) (cn := cn) (ak := ak) (ap := ap) (av := av) (ac := ac) (gr := gr) (tt := tt) (ex := ex) (ba := ba) (el := el) (se := se) (co := co) (lo := v1) (hi := v2) (from' := v3) (by omega) n 0 0 (by omega)
      exact br_f a (br_t b ⟨n + 1, hX _ (br_f a (br_t b ⟨n + 1, hY _ ⟨rfl, J⟩⟩))⟩)
    · exact br_f a (br_f b (br_f a (br_f b ⟨rfl, J⟩)))
theorem i_vc_when {k : Nat} {u : SX} {v : SY} (I : i_Rel k u v) (hk : k + 5 ≤ 2560) (v1 : Int32) (v2 : Int32) (v3 : Int32) (v4 : Int32) : wpX_when (fun r u' => wpY_when (fun r' v' => r' = r ∧ i_Rel (k + 5) u' v') v v1 v2 v3 v4) u v1 v2 v3 v4 := by
  obtain ⟨n, c, N, od, tm, pr, va, cr, mo, ve, kl, op, ov, er, ek, ep, ev, ck, cy, cm, cn, ak, ap, av, ac, gr, tt, ex, ba, el, se, co, rfl, rfl, h1, h2, h3, h4, h5⟩ := I
  unfold wpX_when wpY_when
  rcases lc_key (n := n) (c := c) (N := N) (od := od) (tm := tm) (ba := ba) (er := er) (ek := ek) (ep := ep) (ev := ev) (el := el) (se := se) (co := co) (ak := ak) (ap := ap) (av := av) (ac := ac) (gr := gr) (tt := tt) (ex := ex) v2 with ⟨hx, hy⟩ | ⟨j, hj, rfl, hx, hy⟩
  · exact hx _ (br_t rfl (hy _ (br_t rfl ⟨rfl, i_up (lc_mk h1 h2 h3 h4 h5)⟩)))
  · by_cases a1 : v1 < 0
    · exact hx _ (br_f lc_10 (br_t a1 (hy _ (br_f lc_10 (br_t a1 ⟨rfl, i_up (lc_mk h1 h2 h3 h4 h5)⟩)))))
    · by_cases a2 : 3 < v1
      · exact hx _ (br_f lc_10 (br_f a1 (br_t a2 (hy _ (br_f lc_10 (br_f a1 (br_t a2 ⟨rfl, i_up (lc_mk h1 h2 h3 h4 h5)⟩)))))))
      · by_cases a3 : v3 < 0
        · exact hx _ (br_f lc_10 (br_f a1 (br_f a2 (br_t a3 (hy _ (br_f lc_10 (br_f a1 (br_f a2 (br_t a3 ⟨rfl, i_up (lc_mk h1 h2 h3 h4 h5)⟩)))))))))
        · by_cases a4 : v3 ≤ 3
          · by_cases a5 : c < 4
            · obtain ⟨a, ha, rfl⟩ := nI_of2 (x := v1) (M := 3) (n := 3) (by decide) a1 (Int32.not_lt.mp a2)
              obtain ⟨b, hb, rfl⟩ := nI_of2 (x := v3) (M := 3) (n := 3) (by decide) a3 a4
              have q1 : nI c < 4 := nI_lt (b := 4) a5 (by decide)
              have q2 : ¬ nI c = 4 := fun z => by
                have := (nI_eq (a := c) (b := 4) (by omega) (by decide)).mp z
                omega
              have hv : vp_in (nI c) 4 := vp_in_nI a5 (by decide)
              have hb' : c < 2 ^ 31 := by omega
              exact hx _ (br_f lc_10 (br_f a1 (br_f a2 (br_f a3 (br_t a4 (br_t q1 ⟨hv, nm_r (lc_u hb') ⟨hv, nm_r (lc_u hb') ⟨hv, nm_r (lc_u hb') ⟨hv, nm_r (lc_u hb') (nm_r (nI_1 c) (hy _ (br_f lc_10 (br_f a1 (br_f a2 (br_f a3 (br_t a4 (br_f q2
                ⟨lc_in40 (by omega) (by decide), nm_r (lc_u40 (by omega)) ⟨lc_in4 (f := 1) (by omega) (by decide), nm_r (lc_u4 (f := 1) (by omega)) ⟨lc_in4 (f := 2) (by omega) (by decide), nm_r (lc_u4 (f := 2) (by omega)) ⟨lc_in4 (f := 3) (by omega) (by decide), nm_r (lc_u4 (f := 3) (by omega)) (nm_r (nI_1 c) ⟨rfl, i_up (lc_mk h1 h2 h3 (lc_C_w a5 (by omega) hj (by omega) h4) h5)⟩)⟩⟩⟩⟩))))))))⟩⟩⟩⟩))))))
            · have e : c = 4 := by have := h4.1; omega
              subst e
              exact hx _ (br_f lc_10 (br_f a1 (br_f a2 (br_f a3 (br_t a4 (br_f (by decide) (hy _ (br_f lc_10 (br_f a1 (br_f a2 (br_f a3 (br_t a4 (br_t (by decide) ⟨rfl, i_up (lc_mk h1 h2 h3 h4 h5)⟩)))))))))))))
          · exact hx _ (br_f lc_10 (br_f a1 (br_f a2 (br_f a3 (br_f a4 (hy _ (br_f lc_10 (br_f a1 (br_f a2 (br_f a3 (br_f a4 ⟨rfl, i_up (lc_mk h1 h2 h3 h4 h5)⟩)))))))))))
end
section
section
variable {n c N : Nat} {od tm : Int32} {pr va cr mo ve kl op ov er ek ep ev ck cy cm cn ak ap av ac gr tt ex ba el se co : Nat → Int32}
/-- a list's names, both sides in step -/
theorem lc_names {l m : Nat} {key : Int32} (hl : l < 2) (hm : m ≤ 4) (hac : ac l = nI m) : ∀ d i : Nat, i + d = m →
    ((∀ post : Int32 → Prop, post 1 → wX_listNames_17 post key (nI (l * 4 + m)) (nI n) (nI c) (nI N) od tm pr va cr mo ve kl op ov er ek ep ev ck cy cm cn ak ap av ac gr tt ex (d + 1) (nI (l * 4 + i))) ∧ (∀ (post : Int32 → SY → Prop) (x2 x3 : Int32), post (-2) (od, (nI N), (nI n), (nI c), tm, ba, er, ek, ep, ev, el, se, co, ak, ap, av, ac, gr, tt, ex) → wY_action_25 post key x2 x3 (nI l) od (nI N) (nI n) (nI c) tm ba er ek ep ev el se co ak ap av ac gr tt ex (d + 1) (nI i)))
    ∨ ((∀ i', i ≤ i' → i' < m → ¬ ak (l * 4 + i') = key) ∧ (∀ post : Int32 → Prop, post 0 → wX_listNames_17 post key (nI (l * 4 + m)) (nI n) (nI c) (nI N) od tm pr va cr mo ve kl op ov er ek ep ev ck cy cm cn ak ap av ac gr tt ex (d + 1) (nI (l * 4 + i))) ∧ (∀ (post : Int32 → SY → Prop) (x2 x3 : Int32), wY_action_25 post key x2 x3 (nI l) od (nI N) (nI n) (nI c) tm ba er ek ep ev el se co ak ap av ac gr tt ex 1 (nI m) → wY_action_25 post key x2 x3 (nI l) od (nI N) (nI n) (nI c) tm ba er ek ep ev el se co ak ap av ac gr tt ex (d + 1) (nI i))) := by
  have hv : vp_in (nI l) 2 := vp_in_nI hl (by decide)
  have hc : (nI l).toNatClampNeg = l := nI_clamp (by omega)
  intro d
  induction d with
  | zero =>
    intro i hd
    have e : i = m := by omega
    subst e
    exact Or.inr ⟨fun i' h1 h2 => absurd h1 (by omega), fun post hp => br_t (Int32.le_refl _) hp, fun post x2 x3 hp => hp⟩
  | succ d ih =>
    intro i hd
    have hg : ¬ nI (l * 4 + m) ≤ nI (l * 4 + i) := nI_ge (by omega) (by omega)
    have hi : vp_in (nI (l * 4 + i)) 8 := vp_in_nI (by omega) (by decide)
    have hci : (nI (l * 4 + i)).toNatClampNeg = l * 4 + i := nI_clamp (by omega)
    have hgy : ¬ ac (nI l).toNatClampNeg ≤ nI i := by rw [hc, hac]; exact nI_ge (by omega) (by omega)
    have hiy : vp_in (nI l * 4 + nI i) 8 := lc_in4 (by omega) (by decide)
    have hcy : (nI l * 4 + nI i).toNatClampNeg = l * 4 + i := by rw [lc_ix4, hci]
    by_cases z : ak (l * 4 + i) = key
    · exact Or.inl ⟨fun post hp => br_f hg ⟨hi, br_t (by rw [hci]; exact z) hp⟩, fun post x2 x3 hp => ⟨hv, br_f hgy ⟨hiy, br_t (by rw [hcy]; exact z) hp⟩⟩⟩
    · rcases ih (i + 1) (by omega) with ⟨hX, hY⟩ | ⟨hq, hX, hY⟩
      · exact Or.inl ⟨fun post hp => br_f hg ⟨hi, br_f (by rw [hci]; exact z) (nm_r (nI_1 _) (hX post hp))⟩, fun post x2 x3 hp => ⟨hv, br_f hgy ⟨hiy, br_f (by rw [hcy]; exact z) (nm_r (nI_1 i) (hY post x2 x3 hp))⟩⟩⟩
      · refine Or.inr ⟨fun i' h1 h2 => ?_, fun post hp => br_f hg ⟨hi, br_f (by rw [hci]; exact z) (nm_r (nI_1 _) (hX post hp))⟩, fun post x2 x3 hp => ⟨hv, br_f hgy ⟨hiy, br_f (by rw [hcy]; exact z) (nm_r (nI_1 i) (hY post x2 x3 hp))⟩⟩⟩
        by_cases e : i' = i
        · rw [e]; exact z
        · exact hq i' (by omega) h2
theorem lc_A_w {l m q : Nat} {p x : Int32} (hl : l < 2) (hm : m < 4) (hac : ac l = nI m) (hq : q < 16) (hp : (p = 0 ∧ x = 0) ∨ p = 1) (hn : ∀ i', 0 ≤ i' → i' < m → ¬ ak (l * 4 + i') = nI q) (h : lc_A ak ap av ac) : lc_A (upd ak (l * 4 + m) (nI q)) (upd ap (l * 4 + m) p) (upd av (l * 4 + m) x) (upd ac l (nI (m + 1))) := by
  intro l' hl'
  obtain ⟨m', hm', e', hL⟩ := h l' hl'
  by_cases e : l' = l
  · subst e
    have em : m' = m := (nI_eq (by omega) (by omega)).mp (e'.symm.trans hac)
    subst em
    refine ⟨m' + 1, by omega, pk_us, fun i hi => ?_⟩
    by_cases z : i = m'
    · subst z
      simp only [pk_us]
      refine ⟨⟨q, hq, rfl⟩, hp, fun i' hi' e => ?_⟩
      by_cases y : i' = i
      · exact y.symm
      · rw [pk_un (by omega)] at e
        exact absurd e.symm (hn i' (by omega) (by omega))
    · have n1 : l' * 4 + i ≠ l' * 4 + m' := by omega
      obtain ⟨g1, g2, g3⟩ := hL i (by omega)
      simp only [pk_un n1]
      refine ⟨g1, g2, fun i' hi' e => ?_⟩
      by_cases y : i' = m'
      · rw [y, pk_us] at e
        exact absurd e (hn i (by omega) (by omega))
      · rw [pk_un (by omega)] at e
        exact g3 i' (by omega) e
  · refine ⟨m', hm', by rw [pk_un e]; exact e', fun i hi => ?_⟩
    have nn : ∀ i, i < m' → l' * 4 + i ≠ l * 4 + m := by intro i hi; omega
    obtain ⟨g1, g2, g3⟩ := hL i hi
    simp only [pk_un (nn i hi)]
    refine ⟨g1, g2, fun i' hi' e => ?_⟩
    rw [pk_un (nn i' hi')] at e
    exact g3 i' hi' e
theorem lc_act {k l q : Nat} {p x o : Int32} (hl : l < 2) (hq : q < 16) (hp : (p = 0 ∧ x = 0) ∨ p = 1) (hnp : vp_nar .boolean p = p) (h1 : N ≤ k) (h2 : n + lc_pc pr 16 ≤ 76) (h3 : lc_R n N (16 * k) pr va cr mo ve kl op ov er ek ep ev ba el) (h4 : lc_C c ck cy cm cn co) (h5 : lc_A ak ap av ac)
    (HY : ∀ post : Int32 → SY → Prop, (∃ f, wY_action_25 post (nI q) p x (nI l) od (nI N) (nI n) (nI c) tm ba er ek ep ev el se co ak ap av ac gr tt ex f 0) → wpY_action post (od, (nI N), (nI n), (nI c), tm, ba, er, ek, ep, ev, el, se, co, ak, ap, av, ac, gr, tt, ex) (nI q) p x o) :
    wX_addAction_19 (fun r u' => wpY_action (fun r' v' => r' = r ∧ i_Rel (k + 5) u' v') (od, (nI N), (nI n), (nI c), tm, ba, er, ek, ep, ev, el, se, co, ak, ap, av, ac, gr, tt, ex) (nI q) p x o) (nI q) p x (nI l) (nI n) (nI c) (nI N) od tm pr va cr mo ve kl op ov er ek ep ev ck cy cm cn ak ap av ac gr tt ex := by
  obtain ⟨m, hm, hac, hL⟩ := h5 l hl
  have hv : vp_in (nI l) 2 := vp_in_nI hl (by decide)
  have hc : (nI l).toNatClampNeg = l := nI_clamp (by omega)
  have ec : ac (nI l).toNatClampNeg = nI m := by rw [hc]; exact hac
  unfold wX_addAction_19 wpX_listNames
  refine nm_r (lc_ix40 l) ⟨hv, nm_r (show nI (l * 4) + ac (nI l).toNatClampNeg = nI (l * 4 + m) by rw [ec, nI_add]) ⟨m + 1, ?_⟩⟩
  rcases lc_names (n := n) (c := c) (N := N) (od := od) (tm := tm) (pr := pr) (va := va) (cr := cr) (mo := mo) (ve := ve) (kl := kl) (op := op) (ov := ov) (er := er) (ek := ek) (ep := ep) (ev := ev) (ck := ck) (cy := cy) (cm := cm) (cn := cn) (ak := ak) (ap := ap) (av := av) (ac := ac) (gr := gr) (tt := tt) (ex := ex) (ba := ba) (el := el) (se := se) (co := co) (key := nI q) hl hm hac m 0 (by omega) with ⟨hX, hY⟩ | ⟨hn, hX, hY⟩
  · exact hX _ (br_f lc_10 (HY _ ⟨m + 1, hY _ _ _ ⟨rfl, i_up (lc_mk h1 h2 h3 h4 h5)⟩⟩))
  · by_cases b : m < 4
    · have b1 : ac (nI l).toNatClampNeg < 4 := by rw [ec]; exact nI_lt (b := 4) b (by decide)
      have b2 : ¬ ac (nI l).toNatClampNeg = 4 := by
        rw [ec]
        intro z
        have := (nI_eq (a := m) (b := 4) (by omega) (by decide)).mp z
        omega
      have ei : nI l * 4 + ac (nI l).toNatClampNeg = nI (l * 4 + m) := by rw [ec, lc_ix4]
      have hi : vp_in (nI (l * 4 + m)) 8 := vp_in_nI (by omega) (by decide)
      have hb : l * 4 + m < 2 ^ 31 := by omega
      have eu : upd ac (nI l).toNatClampNeg (ac (nI l).toNatClampNeg + 1) = upd ac l (nI (m + 1)) := by rw [ec, hc, nI_1]
      refine hX _ (br_t rfl ⟨hv, br_t b1 ⟨hv, nm_r ei ⟨hi, nm_r (lc_u hb) ⟨hi, nm_r (show upd ap (nI (l * 4 + m)).toNatClampNeg (vp_nar .boolean p) = upd ap (l * 4 + m) p by rw [nI_clamp hb, hnp]) ⟨hi, nm_r (lc_u hb) ⟨hv, hv, nm_r eu ⟨hv, HY _ ⟨m + 1, hY _ _ _ ?_⟩⟩⟩⟩⟩⟩⟩⟩)
      exact ⟨hv, br_t (by rw [ec]; exact Int32.le_refl _) ⟨hv, br_f b2 ⟨hv, nm_r ei ⟨hi, nm_r (lc_u hb) ⟨hi, nm_r (show upd ap (nI (l * 4 + m)).toNatClampNeg (vp_nar .boolean p) = upd ap (l * 4 + m) p by rw [nI_clamp hb, hnp]) ⟨hi, nm_r (lc_u hb) ⟨hv, hv, nm_r eu ⟨hv, rfl, i_up (lc_mk h1 h2 h3 h4 (lc_A_w hl b hac hq hp hn h5))⟩⟩⟩⟩⟩⟩⟩⟩
    · have em : m = 4 := by omega
      subst em
      have b1 : ¬ ac (nI l).toNatClampNeg < 4 := by rw [ec]; decide
      have b2 : ac (nI l).toNatClampNeg = 4 := by rw [ec]; rfl
      refine hX _ (br_t rfl ⟨hv, br_f b1 (HY _ ⟨4 + 1, hY _ _ _ ?_⟩)⟩)
      exact ⟨hv, br_t (by rw [ec]; exact Int32.le_refl _) ⟨hv, br_t b2 ⟨rfl, i_up (lc_mk h1 h2 h3 h4 h5)⟩⟩⟩
theorem lc_action {k : Nat} {key p x o : Int32} (hp : (p = 0 ∧ x = 0) ∨ p = 1) (hnp : vp_nar .boolean p = p) (h1 : N ≤ k) (h2 : n + lc_pc pr 16 ≤ 76) (h3 : lc_R n N (16 * k) pr va cr mo ve kl op ov er ek ep ev ba el) (h4 : lc_C c ck cy cm cn co) (h5 : lc_A ak ap av ac) :
    wpX_addAction (fun r u' => wpY_action (fun r' v' => r' = r ∧ i_Rel (k + 5) u' v') (od, (nI N), (nI n), (nI c), tm, ba, er, ek, ep, ev, el, se, co, ak, ap, av, ac, gr, tt, ex) key p x o) ((nI n), (nI c), (nI N), od, tm, pr, va, cr, mo, ve, kl, op, ov, er, ek, ep, ev, ck, cy, cm, cn, ak, ap, av, ac, gr, tt, ex) key p x o := by
  unfold wpX_addAction
  rcases lc_key (n := n) (c := c) (N := N) (od := od) (tm := tm) (ba := ba) (er := er) (ek := ek) (ep := ep) (ev := ev) (el := el) (se := se) (co := co) (ak := ak) (ap := ap) (av := av) (ac := ac) (gr := gr) (tt := tt) (ex := ex) key with ⟨hx, hy⟩ | ⟨q, hq, rfl, hx, hy⟩
  · refine hx _ (br_t rfl ?_)
    by_cases z : o = 0
    · refine br_t z ?_
      unfold wY_action_10
      exact hy _ (br_t rfl ⟨rfl, i_up (lc_mk h1 h2 h3 h4 h5)⟩)
    · refine br_f z ?_
      unfold wY_action_10
      exact hy _ (br_t rfl ⟨rfl, i_up (lc_mk h1 h2 h3 h4 h5)⟩)
  · by_cases z : o = 0
    · refine hx _ (br_f lc_10 (br_t z (lc_act (l := 0) (by decide) hq hp hnp h1 h2 h3 h4 h5 (fun post hw => br_t z ?_))))
      unfold wY_action_10
      exact hy _ (br_f lc_10 hw)
    · refine hx _ (br_f lc_10 (br_f z (lc_act (l := 1) (by decide) hq hp hnp h1 h2 h3 h4 h5 (fun post hw => br_f z ?_))))
      unfold wY_action_10
      exact hy _ (br_f lc_10 hw)
end
theorem i_vc_thenPut {k : Nat} {u : SX} {v : SY} (I : i_Rel k u v) (hk : k + 5 ≤ 2560) (v1 : Int32) (v2 : Int32) (v3 : Int32) : wpX_thenPut (fun r u' => wpY_thenPut (fun r' v' => r' = r ∧ i_Rel (k + 5) u' v') v v1 v2 (lw_bz v3)) u v1 v2 (lw_bz v3) := by
  obtain ⟨n, c, N, od, tm, pr, va, cr, mo, ve, kl, op, ov, er, ek, ep, ev, ck, cy, cm, cn, ak, ap, av, ac, gr, tt, ex, ba, el, se, co, rfl, rfl, h1, h2, h3, h4, h5⟩ := I
  unfold wpX_thenPut wpY_thenPut
  exact lc_action (p := 1) (x := v2) (Or.inr rfl) lc_n1 h1 h2 h3 h4 h5
theorem i_vc_thenDelete {k : Nat} {u : SX} {v : SY} (I : i_Rel k u v) (hk : k + 5 ≤ 2560) (v1 : Int32) (v2 : Int32) : wpX_thenDelete (fun r u' => wpY_thenDelete (fun r' v' => r' = r ∧ i_Rel (k + 5) u' v') v v1 (lw_bz v2)) u v1 (lw_bz v2) := by
  obtain ⟨n, c, N, od, tm, pr, va, cr, mo, ve, kl, op, ov, er, ek, ep, ev, ck, cy, cm, cn, ak, ap, av, ac, gr, tt, ex, ba, el, se, co, rfl, rfl, h1, h2, h3, h4, h5⟩ := I
  unfold wpX_thenDelete wpY_thenDelete
  exact lc_action (p := 0) (x := 0) (Or.inl ⟨rfl, rfl⟩) lc_n0 h1 h2 h3 h4 h5
end
section
/-- how many of the last d keys have the lease -/
def lc_cw (kl : Nat → Int32) (l : Int32) : Nat → Nat
  | 0 => 0
  | d + 1 => lc_cw kl l d + (if kl (15 - d) = l then 1 else 0)
theorem lc_cw_u {kl : Nat → Int32} {l x : Int32} {j : Nat} : ∀ d, j + d < 16 → lc_cw (upd kl j x) l d = lc_cw kl l d := by
  intro d
  induction d with
  | zero => intro _; rfl
  | succ d ih =>
    intro h
    simp only [lc_cw, ih (by omega), pk_un (f := kl) (k := j) (x := x) (j := 15 - d) (by omega)]
theorem lc_cw_0 {kl : Nat → Int32} {l : Int32} : ∀ d, d ≤ 16 → lc_cw kl l d = 0 → ∀ i, 16 - d ≤ i → i < 16 → ¬ kl i = l := by
  intro d
  induction d with
  | zero => intro _ _ i h1 h2; omega
  | succ d ih =>
    intro hd h i h1 h2
    simp only [lc_cw] at h
    by_cases z : kl (15 - d) = l
    · rw [if_pos z] at h; omega
    · rw [if_neg z] at h
      by_cases e : i = 15 - d
      · rw [e]; exact z
      · exact ih (by omega) (by omega) i (by omega) h2
section
variable {n c N : Nat} {od tm : Int32} {pr va cr mo ve kl op ov er ek ep ev ck cy cm cn ak ap av ac gr tt ex ba el se co : Nat → Int32}
theorem lc_xCount {l : Int32} : ∀ (d j x : Nat), j + d = 16 → ∀ post : Int32 → Prop, post (nI (x + lc_cw kl l d)) → wX_countKeysWith_4 post l (nI n) (nI c) (nI N) od tm pr va cr mo ve kl op ov er ek ep ev ck cy cm cn ak ap av ac gr tt ex (d + 1) (nI x) (nI j) := by
  intro d
  induction d with
  | zero =>
    intro j x hd post hp
    have e : j = 16 := by omega
    subst e
    exact br_t (nI_le (a := 16) (b := 16) (by decide) (by decide)) hp
  | succ d ih =>
    intro j x hd post hp
    have hv : vp_in (nI j) 16 := vp_in_nI (by omega) (by decide)
    have hc : (nI j).toNatClampNeg = j := nI_clamp (by omega)
    have hg : ¬ (16 : Int32) ≤ nI j := nI_ge (b := 16) (by omega) (by decide)
    have e : 15 - d = j := by omega
    simp only [lc_cw, e] at hp
    by_cases z : kl j = l
    · rw [if_pos z] at hp
      exact br_f hg ⟨hv, br_t (by rw [hc]; exact z) (nm_r (nI_1 x) (nm_r (nI_1 j) (ih (j + 1) (x + 1) (by omega) post (by rw [show x + 1 + lc_cw kl l d = x + (lc_cw kl l d + 1) by omega]; exact hp))))⟩
    · rw [if_neg z] at hp
      exact br_f hg ⟨hv, br_f (by rw [hc]; exact z) (nm_r (nI_1 j) (ih (j + 1) x (by omega) post hp))⟩
theorem lc_m1l {l : Nat} (hl : l < 4) : ¬ (-1 : Int32) = nI l := fun z => absurd (show nI l < 0 by rw [← z]; decide) (nI_pos (by omega))
/-- no key has the lease: the reference only looks -/
theorem lc_idle {l K : Nat} {x2 : Int32} (hK : K < 2 ^ 30) (hn : n ≤ 76) (R : lc_R n N K pr va cr mo ve kl op ov er ek ep ev ba el) : ∀ (d j : Nat) (se : Nat → Int32), j + d = 16 → (∀ i, j ≤ i → i < 16 → ¬ kl i = nI l) → ∃ se', ∀ post : Int32 → SY → Prop, post 0 (od, (nI N), (nI n), (nI c), tm, ba, er, ek, ep, ev, el, se', co, ak, ap, av, ac, gr, tt, ex) → wY_revoke_30 post (nI l) x2 (d + 1) 0 (nI j) od (nI N) (nI n) (nI c) tm ba er ek ep ev el se co ak ap av ac gr tt ex := by
  intro d
  induction d with
  | zero =>
    intro j se hd _
    have e : j = 16 := by omega
    subst e
    exact ⟨se, fun post hp => br_t (nI_le (a := 16) (b := 16) (by decide) (by decide)) (br_t (by decide) hp)⟩
  | succ d ih =>
    intro j se hd h
    have hg : ¬ (16 : Int32) ≤ nI j := nI_ge (b := 16) (by omega) (by decide)
    obtain ⟨s1, e1, hp1⟩ := lc_yPres (n := n) (c := c) (N := N) (od := od) (tm := tm) (ba := ba) (er := er) (ek := ek) (ep := ep) (ev := ev) (el := el) (se := se) (co := co) (ak := ak) (ap := ap) (av := av) (ac := ac) (gr := gr) (tt := tt) (ex := ex) R hK (by omega) (show j < 16 by omega)
    obtain ⟨s2, hY⟩ := ih (j + 1) s1 (by omega) (fun i h1 h2 => h i (by omega) h2)
    refine ⟨s2, fun post hp => br_f hg (hp1 _ ?_)⟩
    by_cases z : pr j = 0
    · exact br_t z (nm_r (nI_1 j) (hY post hp))
    · have e4 : s1 4 = kl j := congrArg (fun t => t.2.2.2.2) e1
      exact br_f z (br_f (by rw [e4]; exact h j (by omega) (by omega)) (nm_r (nI_1 j) (hY post hp)))
/-- the keys of the lease are deleted, both sides in step; the reference's newest revision follows at the end -/
theorem lc_endLoop {l : Nat} (hl : l < 4) (hN : N + 1 < 2 ^ 31) : ∀ (d j n x K : Nat) (pr va cr mo ve kl er ek ep ev el se : Nat → Int32), j + d = 16 → lc_R n (N + 1) K pr va cr mo ve kl op ov er ek ep ev ba el → K + d < 2 ^ 30 → x + d < 2 ^ 30 → n + lc_pc pr 16 ≤ 76 →
    (∀ i, j ≤ i → i < 16 → lc_lk er ek ep ev el (nI i) (nI N) (lc_bs ba i) n = lc_lk er ek ep ev el (nI i) (nI (N + 1)) (lc_bs ba i) n) →
    ∃ (n' : Nat) (pr' va' cr' mo' ve' kl' er' ek' ep' ev' el' se' : Nat → Int32), lc_R n' (N + 1) (K + d) pr' va' cr' mo' ve' kl' op ov er' ek' ep' ev' ba el' ∧ n' + lc_pc pr' 16 ≤ 76 ∧
      (∀ (post : Int32 → SX → Prop) (r : Int32), post r ((nI n'), (nI c), (nI (N + 1)), od, tm, pr', va', cr', mo', ve', kl', op, ov, er', ek', ep', ev', ck, cy, cm, cn, ak, ap, av, ac, gr, tt, ex) → wX_endLease_31 post (nI l) r (d + 1) (nI j) (nI n) (nI c) (nI (N + 1)) od tm pr va cr mo ve kl op ov er ek ep ev ck cy cm cn ak ap av ac gr tt ex) ∧
      (∀ post : Int32 → SY → Prop, 0 < x + lc_cw kl (nI l) d → post (nI (x + lc_cw kl (nI l) d)) (od, (nI (N + 1)), (nI n'), (nI c), tm, ba, er', ek', ep', ev', el', se', co, ak, ap, av, ac, gr, tt, ex) → wY_revoke_30 post (nI l) (nI (N + 1)) (d + 1) (nI x) (nI j) od (nI N) (nI n) (nI c) tm ba er ek ep ev el se co ak ap av ac gr tt ex) := by
  intro d
  induction d with
  | zero =>
    intro j n x K pr va cr mo ve kl er ek ep ev el se hd R hK hx hp _
    have e : j = 16 := by omega
    subst e
    have h16 : (16 : Int32) ≤ nI 16 := nI_le (a := 16) (b := 16) (by decide) (by decide)
    exact ⟨n, pr, va, cr, mo, ve, kl, er, ek, ep, ev, el, se, R, hp, fun post r h => br_t h16 h, fun post h0 h => br_t h16 (br_f (nI_nle h0 (by have : lc_cw kl (nI l) 0 = 0 := rfl; omega)) h)⟩
  | succ d ih =>
    intro j n x K pr va cr mo ve kl er ek ep ev el se hd R hK hx hp hu
    have hj : j < 16 := by omega
    have hg : ¬ (16 : Int32) ≤ nI j := nI_ge (b := 16) (by omega) (by decide)
    have hv : vp_in (nI j) 16 := vp_in_nI hj (by decide)
    have hc : (nI j).toNatClampNeg = j := nI_clamp (by omega)
    have ed : 15 - d = j := by omega
    obtain ⟨w, hw, ew⟩ := lc_R_v R hj
    have hlk := (hu j (Nat.le_refl _) hj).trans (R.2.2.2.2.2.1 j hj)
    rw [ew] at hlk
    obtain ⟨s1, e1, hp1⟩ := lc_yPresent (n := n) (c := c) (N := N) (od := od) (tm := tm) (ba := ba) (er := er) (ek := ek) (ep := ep) (ev := ev) (el := el) (se := se) (co := co) (ak := ak) (ap := ap) (av := av) (ac := ac) (gr := gr) (tt := tt) (ex := ex) (j := j) (w := w) hj (by omega) (by omega) hlk
    have e4 : s1 4 = kl j := congrArg (fun t => t.2.2.2.2) e1
    have h7 := R.2.2.2.2.2.2 j hj
    by_cases z : kl j = nI l
    · have hve : ¬ ve j = 0 := fun y => lc_m1l hl ((h7.2 y).symm.trans z)
      have hw0 : ¬ w = 0 := fun y => hve (by rw [ew, y]; rfl)
      have hpr : ¬ pr j = 0 := by rw [h7.1, if_neg hve]; exact lc_10
      have hpc := lc_pc_d pr j hpr 16 hj
      obtain ⟨n', pr', va', cr', mo', ve', kl', er', ek', ep', ev', el', se', R', hp', hX, hY⟩ := ih (j + 1) (n + 1) (x + 1) (K + 1) _ _ _ _ _ _ _ _ _ _ _ s1 (by omega) (lc_R_d hj R) (by omega) (by omega) (by omega) (fun i h1 h2 => by
        rw [lc_lk_uf (fun y => absurd ((nI_eq (by omega) (by omega)).mp y.1) (by omega)), lc_lk_uf (fun y => absurd ((nI_eq (by omega) (by omega)).mp y.1) (by omega))]
        exact hu i (by omega) h2)
      have ecw : x + 1 + lc_cw (upd kl j (-1)) (nI l) d = x + lc_cw kl (nI l) (d + 1) := by
        rw [lc_cw_u d (by omega)]
        simp only [lc_cw, ed, if_pos z]
        omega
      rw [ecw] at hY
      refine ⟨n', pr', va', cr', mo', ve', kl', er', ek', ep', ev', el', se', lc_R_K (by omega) R', hp', fun post r h => br_f hg ⟨hv, br_t (by rw [hc]; exact z) (lc_xDelKey hj (by omega) (nm_r (nI_1 j) (hX post r h)))⟩, fun post h0 h => br_f hg (hp1 _ ?_)⟩
      rw [if_neg hw0]
      exact br_f lc_10 (br_t (e4.trans z) (lc_yAdd (by omega) (nm_r (nI_1 x) (nm_r (nI_1 j) (hY post h0 h)))))
    · obtain ⟨n', pr', va', cr', mo', ve', kl', er', ek', ep', ev', el', se', R', hp', hX, hY⟩ := ih (j + 1) n x K pr va cr mo ve kl er ek ep ev el s1 (by omega) R (by omega) (by omega) hp (fun i h1 h2 => hu i (by omega) h2)
      have ecw : lc_cw kl (nI l) (d + 1) = lc_cw kl (nI l) d := by simp only [lc_cw, ed, if_neg z]; omega
      rw [← ecw] at hY
      refine ⟨n', pr', va', cr', mo', ve', kl', er', ek', ep', ev', el', se', lc_R_K (by omega) R', hp', fun post r h => br_f hg ⟨hv, br_f (by rw [hc]; exact z) (nm_r (nI_1 j) (hX post r h))⟩, fun post h0 h => br_f hg (hp1 _ ?_)⟩
      by_cases y : w = 0
      · rw [if_pos y]
        exact br_t rfl (nm_r (nI_1 j) (hY post h0 h))
      · rw [if_neg y]
        exact br_f lc_10 (br_f (by rw [e4]; exact z) (nm_r (nI_1 j) (hY post h0 h)))
theorem lc_cw_le {kl : Nat → Int32} {l : Int32} : ∀ d, lc_cw kl l d ≤ d := by
  intro d
  induction d with
  | zero => exact Nat.le_refl _
  | succ d ih => simp only [lc_cw]; split <;> omega
/-- the end of a lease -/
theorem lc_end {l B K : Nat} (hl : l < 4) (hg : ¬ gr l = 0) (hB : B < 2 ^ 30) (hK : K + 16 < 2 ^ 30) (h1 : N ≤ B) (h2 : n + lc_pc pr 16 ≤ 76) (h3 : lc_R n N K pr va cr mo ve kl op ov er ek ep ev ba el) (h4 : lc_C c ck cy cm cn co) (h5 : lc_A ak ap av ac) :
    ∃ (r : Int32) (u' : SX) (v' : SY), lc_Rel (B + 1) (K + 16) u' v' ∧ (∀ post : Int32 → SX → Prop, post r u' → wpX_endLease post ((nI n), (nI c), (nI N), od, tm, pr, va, cr, mo, ve, kl, op, ov, er, ek, ep, ev, ck, cy, cm, cn, ak, ap, av, ac, gr, tt, ex) (nI l)) ∧ (∀ post : Int32 → SY → Prop, post r v' → wpY_revoke post (od, (nI N), (nI n), (nI c), tm, ba, er, ek, ep, ev, el, se, co, ak, ap, av, ac, gr, tt, ex) (nI l)) := by
  have hv : vp_in (nI l) 4 := vp_in_nI hl (by decide)
  have hb : l < 2 ^ 31 := by omega
  have hle := lc_cw_le (kl := kl) (l := nI l) 16
  by_cases z : lc_cw kl (nI l) 16 = 0
  · obtain ⟨s1, hY⟩ := lc_idle (n := n) (c := c) (N := N) (od := od) (tm := tm) (ba := ba) (er := er) (ek := ek) (ep := ep) (ev := ev) (el := el) (co := co) (ak := ak) (ap := ap) (av := av) (ac := ac) (tt := tt) (ex := ex) (gr := upd gr l 0) (x2 := nI (N + 1)) (by omega) (by omega) h3 16 0 se (by omega) (fun i h h' => lc_cw_0 16 (by omega) z i (by omega) h')
    refine ⟨0, _, _, lc_mk (B := B + 1) (K := K + 16) (od := od) (tm := tm) (gr := upd gr l 0) (tt := tt) (ex := ex) (se := s1) (by omega) h2 (lc_R_K (by omega) h3) h4 h5, fun post hp => ?_, fun post hp => ?_⟩
    · refine ⟨hv, nm_r (lc_u hb) ⟨17, lc_xCount 16 0 0 (by omega) _ ?_⟩⟩
      rw [z]
      exact br_t rfl hp
    · unfold wpY_revoke
      exact lc_yGr hl hg (br_f lc_10 ⟨hv, nm_r (lc_u hb) (nm_r (nI_1 N) ⟨17, hY post hp⟩)⟩)
  · obtain ⟨n', pr', va', cr', mo', ve', kl', er', ek', ep', ev', el', se', R', hp', hX, hY⟩ := lc_endLoop (c := c) (od := od) (tm := tm) (op := op) (ov := ov) (ck := ck) (cy := cy) (cm := cm) (cn := cn) (ak := ak) (ap := ap) (av := av) (ac := ac) (gr := upd gr l 0) (tt := tt) (ex := ex) (ba := ba) (co := co) hl (show N + 1 < 2 ^ 31 by omega) 16 0 n 0 K pr va cr mo ve kl er ek ep ev el se (by omega) (lc_R_b (by omega) h3) (by omega) (by omega) h2 (fun i _ _ => lc_lk_r n fun i hi _ => ⟨fun _ => Int32.le_trans (h3.1 i hi) (nI_le (by omega) (by omega)), fun _ => h3.1 i hi⟩)
    rw [Nat.zero_add] at hY
    refine ⟨nI (lc_cw kl (nI l) 16), _, _, lc_mk (B := B + 1) (K := K + 16) (od := od) (tm := tm) (gr := upd gr l 0) (tt := tt) (ex := ex) (se := se') (by omega) hp' R' h4 h5, fun post hp => ?_, fun post hp => ?_⟩
    · refine ⟨hv, nm_r (lc_u hb) ⟨17, lc_xCount 16 0 0 (by omega) _ ?_⟩⟩
      rw [Nat.zero_add]
      exact br_f (nI_ne0 (by omega) (by omega)) (nm_r (nI_1 N) ⟨17, hX post _ hp⟩)
    · unfold wpY_revoke
      exact lc_yGr hl hg (br_f lc_10 ⟨hv, nm_r (lc_u hb) (nm_r (nI_1 N) ⟨17, hY post (by omega) hp⟩)⟩)
end
theorem i_vc_revoke {k : Nat} {u : SX} {v : SY} (I : i_Rel k u v) (hk : k + 5 ≤ 2560) (v1 : Int32) : wpX_revoke (fun r u' => wpY_revoke (fun r' v' => r' = r ∧ i_Rel (k + 5) u' v') v v1) u v1 := by
  obtain ⟨n, c, N, od, tm, pr, va, cr, mo, ve, kl, op, ov, er, ek, ep, ev, ck, cy, cm, cn, ak, ap, av, ac, gr, tt, ex, ba, el, se, co, rfl, rfl, h1, h2, h3, h4, h5⟩ := I
  unfold wpX_revoke
  rcases lc_grant (n := n) (c := c) (N := N) (od := od) (tm := tm) (pr := pr) (va := va) (cr := cr) (mo := mo) (ve := ve) (kl := kl) (op := op) (ov := ov) (er := er) (ek := ek) (ep := ep) (ev := ev) (ck := ck) (cy := cy) (cm := cm) (cn := cn) (ak := ak) (ap := ap) (av := av) (ac := ac) (gr := gr) (tt := tt) (ex := ex) (ba := ba) (el := el) (se := se) (co := co) v1 with ⟨gx, gy⟩ | ⟨l, hl, rfl, hg, gx, gy⟩
  · refine gx _ (br_t rfl ?_)
    unfold wpY_revoke
    exact gy _ (br_t rfl ⟨rfl, i_up (lc_mk h1 h2 h3 h4 h5)⟩)
  · obtain ⟨r, u', v', R', hX, hY⟩ := lc_end (n := n) (c := c) (N := N) (od := od) (tm := tm) (pr := pr) (va := va) (cr := cr) (mo := mo) (ve := ve) (kl := kl) (op := op) (ov := ov) (er := er) (ek := ek) (ep := ep) (ev := ev) (ck := ck) (cy := cy) (cm := cm) (cn := cn) (ak := ak) (ap := ap) (av := av) (ac := ac) (gr := gr) (tt := tt) (ex := ex) (ba := ba) (el := el) (se := se) (co := co) hl hg (by omega) (by omega) h1 h2 h3 h4 h5
    exact gx _ (br_f lc_10 (hX _ (hY _ ⟨rfl, lc_i (by omega) (by omega) R'⟩)))
end
section
section
variable {n c N : Nat} {od tm : Int32} {pr va cr mo ve kl op ov er ek ep ev ck cy cm cn ak ap av ac gr tt ex ba el se co : Nat → Int32}
/-- the first lease that has run out, both sides in step -/
theorem lc_first : ∀ (d j : Nat) (x : Int32), j + d = 4 → (x = -1 ∨ ∃ l, l < 4 ∧ x = nI l ∧ ¬ gr l = 0) →
    ∃ r : Int32, (r = -1 ∨ ∃ l, l < 4 ∧ r = nI l ∧ ¬ gr l = 0) ∧ (∀ post : Int32 → Prop, post r → wX_firstExpired_4 post (nI n) (nI c) (nI N) od tm pr va cr mo ve kl op ov er ek ep ev ck cy cm cn ak ap av ac gr tt ex (d + 1) x (nI j)) ∧
      (∀ (post : Int32 → SY → Prop) J27 (x2 x3 : Int32), wY_pass_38 post J27 x2 x3 od (nI N) (nI n) (nI c) tm ba er ek ep ev el se co ak ap av ac gr tt ex 1 r (nI 4) → wY_pass_38 post J27 x2 x3 od (nI N) (nI n) (nI c) tm ba er ek ep ev el se co ak ap av ac gr tt ex (d + 1) x (nI j)) := by
  intro d
  induction d with
  | zero =>
    intro j x hd hx
    have e : j = 4 := by omega
    subst e
    exact ⟨x, hx, fun post hp => br_t (nI_le (a := 4) (b := 4) (by decide) (by decide)) hp, fun post J27 x2 x3 h => h⟩
  | succ d ih =>
    intro j x hd hx
    have hg : ¬ (4 : Int32) ≤ nI j := nI_ge (b := 4) (by omega) (by decide)
    have hv : vp_in (nI j) 4 := vp_in_nI (by omega) (by decide)
    have hc : (nI j).toNatClampNeg = j := nI_clamp (by omega)
    by_cases g : gr j = 0
    · have g' : gr (nI j).toNatClampNeg = 0 := by rw [hc]; exact g
      obtain ⟨r, hr, hX, hY⟩ := ih (j + 1) x (by omega) hx
      exact ⟨r, hr, fun post hp => br_f hg ⟨hv, br_t g' (nm_r (nI_1 j) (hX post hp))⟩, fun post J27 x2 x3 h => br_f hg ⟨hv, br_t g' (br_t rfl (nm_r (nI_1 j) (hY post J27 x2 x3 h)))⟩⟩
    · have g' : ¬ gr (nI j).toNatClampNeg = 0 := by rw [hc]; exact g
      by_cases t : ex (nI j).toNatClampNeg ≤ tm
      · have t' : ¬ tm < ex (nI j).toNatClampNeg := Int32.not_lt.mpr t
        rcases hx with rfl | ⟨l, hl, rfl, hgl⟩
        · obtain ⟨r, hr, hX, hY⟩ := ih (j + 1) (nI j) (by omega) (Or.inr ⟨j, by omega, rfl, g⟩)
          exact ⟨r, hr, fun post hp => br_f hg ⟨hv, br_f g' ⟨hv, br_t t (br_t rfl (nm_r (nI_1 j) (hX post hp)))⟩⟩, fun post J27 x2 x3 h => br_f hg ⟨hv, br_f g' ⟨hv, br_f t' (br_f lc_10 (br_t lc_m1 (nm_r (nI_1 j) (hY post J27 x2 x3 h))))⟩⟩⟩
        · have hvl : vp_in (nI l) 4 := vp_in_nI hl (by decide)
          have h0 : ¬ nI l < 0 := nI_pos (by omega)
          have hm : ¬ nI l = -1 := fun z => lc_m1l hl z.symm
          by_cases q : ex (nI l).toNatClampNeg ≤ ex (nI j).toNatClampNeg
          · obtain ⟨r, hr, hX, hY⟩ := ih (j + 1) (nI l) (by omega) (Or.inr ⟨l, hl, rfl, hgl⟩)
            exact ⟨r, hr, fun post hp => br_f hg ⟨hv, br_f g' ⟨hv, br_t t (br_f hm ⟨hv, hvl, br_t q (nm_r (nI_1 j) (hX post hp))⟩)⟩⟩, fun post J27 x2 x3 h => br_f hg ⟨hv, br_f g' ⟨hv, br_f t' (br_f lc_10 (br_f h0 ⟨hv, hvl, br_t q (nm_r (nI_1 j) (hY post J27 x2 x3 h))⟩))⟩⟩⟩
          · obtain ⟨r, hr, hX, hY⟩ := ih (j + 1) (nI j) (by omega) (Or.inr ⟨j, by omega, rfl, g⟩)
            exact ⟨r, hr, fun post hp => br_f hg ⟨hv, br_f g' ⟨hv, br_t t (br_f hm ⟨hv, hvl, br_f q (nm_r (nI_1 j) (hX post hp))⟩)⟩⟩, fun post J27 x2 x3 h => br_f hg ⟨hv, br_f g' ⟨hv, br_f t' (br_f lc_10 (br_f h0 ⟨hv, hvl, br_f q (nm_r (nI_1 j) (hY post J27 x2 x3 h))⟩))⟩⟩⟩
      · have t' : tm < ex (nI j).toNatClampNeg := Int32.not_le.mp t
        obtain ⟨r, hr, hX, hY⟩ := ih (j + 1) x (by omega) hx
        exact ⟨r, hr, fun post hp => br_f hg ⟨hv, br_f g' ⟨hv, br_f t (nm_r (nI_1 j) (hX post hp))⟩⟩, fun post J27 x2 x3 h => br_f hg ⟨hv, br_f g' ⟨hv, br_t t' (br_t rfl (nm_r (nI_1 j) (hY post J27 x2 x3 h)))⟩⟩⟩
/-- no lease has run out: the reference's rounds change nothing -/
theorem lc_passIdle {x2 : Int32} (hF : ∀ (post : Int32 → SY → Prop) J27 (x2 x3 : Int32), wY_pass_38 post J27 x2 x3 od (nI N) (nI n) (nI c) tm ba er ek ep ev el se co ak ap av ac gr tt ex 1 (-1) (nI 4) → wY_pass_38 post J27 x2 x3 od (nI N) (nI n) (nI c) tm ba er ek ep ev el se co ak ap av ac gr tt ex (4 + 1) (-1) (nI 0)) : ∀ (d j : Nat), j + d = 4 → ∀ post : Int32 → SY → Prop, post x2 (od, (nI N), (nI n), (nI c), tm, ba, er, ek, ep, ev, el, se, co, ak, ap, av, ac, gr, tt, ex) → wY_pass_27 post (d + 1) x2 (nI j) od (nI N) (nI n) (nI c) tm ba er ek ep ev el se co ak ap av ac gr tt ex := by
  intro d
  induction d with
  | zero =>
    intro j hd post hp
    have e : j = 4 := by omega
    subst e
    exact br_t (nI_le (a := 4) (b := 4) (by decide) (by decide)) hp
  | succ d ih =>
    intro j hd post hp
    have hg : ¬ (4 : Int32) ≤ nI j := nI_ge (b := 4) (by omega) (by decide)
    exact br_f hg ⟨4 + 1, hF _ _ _ _ (br_t (nI_le (a := 4) (b := 4) (by decide) (by decide)) (br_t lc_m1 (nm_r (nI_1 j) (ih (j + 1) (by omega) post hp))))⟩
end
theorem lc_passLoop : ∀ (d j B K : Nat) (x2 : Int32) (n c N : Nat) (od tm : Int32) (pr va cr mo ve kl op ov er ek ep ev ck cy cm cn ak ap av ac gr tt ex ba el se co : Nat → Int32), j + d = 4 → B + d < 2 ^ 29 → K + 16 * d < 2 ^ 29 → N ≤ B → n + lc_pc pr 16 ≤ 76 → lc_R n N K pr va cr mo ve kl op ov er ek ep ev ba el → lc_C c ck cy cm cn co → lc_A ak ap av ac →
    ∃ (r : Int32) (u' : SX) (v' : SY), lc_Rel (B + d) (K + 16 * d) u' v' ∧ (∀ post : Int32 → SX → Prop, post r u' → wX_pass_27 post (d + 1) x2 (nI j) (nI n) (nI c) (nI N) od tm pr va cr mo ve kl op ov er ek ep ev ck cy cm cn ak ap av ac gr tt ex) ∧ (∀ post : Int32 → SY → Prop, post r v' → wY_pass_27 post (d + 1) x2 (nI j) od (nI N) (nI n) (nI c) tm ba er ek ep ev el se co ak ap av ac gr tt ex) := by
  intro d
  induction d with
  | zero =>
    intro j B K x2 n c N od tm pr va cr mo ve kl op ov er ek ep ev ck cy cm cn ak ap av ac gr tt ex ba el se co hd hB hK h1 h2 h3 h4 h5
    have e : j = 4 := by omega
    subst e
    have h44 : (4 : Int32) ≤ nI 4 := nI_le (a := 4) (b := 4) (by decide) (by decide)
    exact ⟨x2, _, _, lc_mk (od := od) (tm := tm) (gr := gr) (tt := tt) (ex := ex) (se := se) (by omega) h2 h3 h4 h5, fun post hp => br_t h44 hp, fun post hp => br_t h44 hp⟩
  | succ d ih =>
    intro j B K x2 n c N od tm pr va cr mo ve kl op ov er ek ep ev ck cy cm cn ak ap av ac gr tt ex ba el se co hd hB hK h1 h2 h3 h4 h5
    have hg : ¬ (4 : Int32) ≤ nI j := nI_ge (b := 4) (by omega) (by decide)
    have h44 : (4 : Int32) ≤ nI 4 := nI_le (a := 4) (b := 4) (by decide) (by decide)
    obtain ⟨r, hr, hX, hY⟩ := lc_first (n := n) (c := c) (N := N) (od := od) (tm := tm) (pr := pr) (va := va) (cr := cr) (mo := mo) (ve := ve) (kl := kl) (op := op) (ov := ov) (er := er) (ek := ek) (ep := ep) (ev := ev) (ck := ck) (cy := cy) (cm := cm) (cn := cn) (ak := ak) (ap := ap) (av := av) (ac := ac) (gr := gr) (tt := tt) (ex := ex) (ba := ba) (el := el) (se := se) (co := co) 4 0 (-1) rfl (Or.inl rfl)
    rcases hr with rfl | ⟨l, hl, rfl, hgl⟩
    · refine ⟨x2, _, _, lc_mk (B := B + (d + 1)) (K := K + 16 * (d + 1)) (od := od) (tm := tm) (gr := gr) (tt := tt) (ex := ex) (se := se) (by omega) h2 (lc_R_K (by omega) h3) h4 h5, fun post hp => br_f hg ⟨4 + 1, hX _ (br_t rfl hp)⟩, lc_passIdle hY (d + 1) j hd⟩
    · have h0 : ¬ nI l < 0 := nI_pos (by omega)
      have hm : ¬ nI l = -1 := fun z => lc_m1l hl z.symm
      obtain ⟨r1, u1, v1, R1, hX1, hY1⟩ := lc_end (n := n) (c := c) (N := N) (od := od) (tm := tm) (pr := pr) (va := va) (cr := cr) (mo := mo) (ve := ve) (kl := kl) (op := op) (ov := ov) (er := er) (ek := ek) (ep := ep) (ev := ev) (ck := ck) (cy := cy) (cm := cm) (cn := cn) (ak := ak) (ap := ap) (av := av) (ac := ac) (gr := gr) (tt := tt) (ex := ex) (ba := ba) (el := el) (se := se) (co := co) hl hgl (show B < 2 ^ 30 by omega) (show K + 16 < 2 ^ 30 by omega) h1 h2 h3 h4 h5
      obtain ⟨n, c, N, od, tm, pr, va, cr, mo, ve, kl, op, ov, er, ek, ep, ev, ck, cy, cm, cn, ak, ap, av, ac, gr, tt, ex, ba, el, se, co, rfl, rfl, h1, h2, h3, h4, h5⟩ := R1
      obtain ⟨r2, u2, v2, R2, hX2, hY2⟩ := ih (j + 1) (B + 1) (K + 16) (x2 + 1) n c N od tm pr va cr mo ve kl op ov er ek ep ev ck cy cm cn ak ap av ac gr tt ex ba el se co (by omega) (by omega) (by omega) h1 h2 h3 h4 h5
      refine ⟨r2, u2, v2, lc_Rel_m (by omega) (by omega) R2, fun post hp => br_f hg ⟨4 + 1, hX _ (br_f hm (hX1 _ (nm_e (nm_r (nI_1 j) (hX2 post hp)))))⟩, fun post hp => br_f hg ⟨4 + 1, hY _ _ _ _ (br_t h44 (br_f h0 (hY1 _ (nm_e (nm_r (nI_1 j) (hY2 post hp))))))⟩⟩
theorem i_vc_pass {k : Nat} {u : SX} {v : SY} (I : i_Rel k u v) (hk : k + 5 ≤ 2560) (v1 : Int32) : wpX_pass (fun r u' => wpY_pass (fun r' v' => r' = r ∧ i_Rel (k + 5) u' v') v v1) u v1 := by
  obtain ⟨n, c, N, od, tm, pr, va, cr, mo, ve, kl, op, ov, er, ek, ep, ev, ck, cy, cm, cn, ak, ap, av, ac, gr, tt, ex, ba, el, se, co, rfl, rfl, h1, h2, h3, h4, h5⟩ := I
  by_cases a : v1 < 0
  · exact br_t a (br_t a ⟨rfl, i_up (lc_mk h1 h2 h3 h4 h5)⟩)
  · by_cases b : v1 ≤ 100
    · obtain ⟨r, u', v', R', hX, hY⟩ := lc_passLoop 4 0 k (16 * k) 0 n c N od (tm + v1) pr va cr mo ve kl op ov er ek ep ev ck cy cm cn ak ap av ac gr tt ex ba el se co rfl (by omega) (by omega) h1 h2 h3 h4 h5
      exact br_f a (br_t b (nm_e ⟨4 + 1, hX _ (br_f a (br_t b (nm_e ⟨4 + 1, hY _ ⟨rfl, lc_i (by omega) (by omega) R'⟩⟩)))⟩))
    · exact br_f a (br_f b (br_f a (br_f b ⟨rfl, i_up (lc_mk h1 h2 h3 h4 h5)⟩)))
end
section
section
variable {n c N : Nat} {od tm : Int32} {pr va cr mo ve kl op ov er ek ep ev ck cy cm cn ak ap av ac gr tt ex ba el se co : Nat → Int32}
/-- what the component keeps of the oldest revision, over the first i events -/
def lc_O (i : Nat) (p : Int32) (op ov er ek ep ev ba el : Nat → Int32) : Prop := ∀ j, j < 16 → ov j = (lc_lk er ek ep ev el (nI j) p (lc_bs ba j) i).1 ∧ op j = (if (lc_lk er ek ep ev el (nI j) p (lc_bs ba j) i).2.1 = 0 then 0 else 1)
theorem lc_O_s {K i q : Nat} {p : Int32} {op' ov' : Nat → Int32} (R : lc_R n N K pr va cr mo ve kl op' ov' er ek ep ev ba el) (hK : K < 2 ^ 30) (hi : i < n) (hq : ek i = nI q) (hq16 : q < 16) (hr : er i ≤ p) (h : lc_O i p op ov er ek ep ev ba el) : lc_O (i + 1) p (upd op q (ep i)) (upd ov q (ev i)) er ek ep ev ba el := by
  intro j hj
  by_cases e : j = q
  · subst e
    rw [lc_lk_t hq hr, pk_us, pk_us]
    rcases R.2.2.2.1 i hi with ⟨z, z'⟩ | z
    · rw [lc_ap0 z, z, z']; exact ⟨rfl, rfl⟩
    · rw [lc_ap1 (by rw [z]; exact lc_10), z]
      obtain ⟨⟨w, ew, hw⟩, _⟩ := R.2.2.2.2.1 j hj
      obtain ⟨w', hw', ew'⟩ := lc_lk_v (er := er) (ek := ek) (ep := ep) (ev := ev) (el := el) (key := nI j) (p := p) (s := lc_bs ba j) (w := w) ew i
      refine ⟨rfl, ?_⟩
      show _ = if (lc_lk er ek ep ev el (nI j) p (lc_bs ba j) i).2.1 + 1 = 0 then 0 else 1
      rw [ew', nI_1, if_neg (nI_ne0 (by omega) (by omega))]
  · rw [lc_lk_f (fun z => e ((nI_eq (by omega) (by omega)).mp (hq.symm.trans z.1)).symm), pk_un e, pk_un e]
    exact h j hj
theorem lc_xComp {K d : Nat} {p : Int32} {op' ov' : Nat → Int32} (R : lc_R n N K pr va cr mo ve kl op' ov' er ek ep ev ba el) (hK : K < 2 ^ 30) (hn : n ≤ 76) (hd : d ≤ n) (hd1 : ∀ i, i < d → er i ≤ p) (hd2 : ∀ i, d ≤ i → i < n → ¬ er i ≤ p) : ∀ (e i : Nat) (op ov : Nat → Int32), i + e = n → lc_O i p op ov er ek ep ev ba el → ∃ op'' ov'' : Nat → Int32, lc_O n p op'' ov'' er ek ep ev ba el ∧ ∀ post : Int32 → SX → Prop, wX_compact_15 post p (nI n) (nI c) (nI N) od tm 1 (nI d) (nI n) pr va cr mo ve kl op'' ov'' er ek ep ev ck cy cm cn ak ap av ac gr tt ex → wX_compact_15 post p (nI n) (nI c) (nI N) od tm (e + 1) (nI (min i d)) (nI i) pr va cr mo ve kl op ov er ek ep ev ck cy cm cn ak ap av ac gr tt ex := by
  intro e
  induction e with
  | zero =>
    intro i op ov he h
    have ei : i = n := by omega
    subst ei
    rw [show min i d = d by omega]
    exact ⟨op, ov, h, fun post hp => hp⟩
  | succ e ih =>
    intro i op ov he h
    have hi : i < n := by omega
    have hg : ¬ nI n ≤ nI i := nI_ge (by omega) (by omega)
    have hv : vp_in (nI i) 76 := vp_in_nI (by omega) (by decide)
    have hc : (nI i).toNatClampNeg = i := nI_clamp (by omega)
    by_cases q : i < d
    · obtain ⟨r, hr16, er'⟩ := R.2.2.1 i hi
      have hek : ek (nI i).toNatClampNeg = nI r := by rw [hc]; exact er'
      have hvk : vp_in (ek (nI i).toNatClampNeg) 16 := by rw [hek]; exact vp_in_nI hr16 (by decide)
      have hpb : vp_nar .boolean (ep (nI i).toNatClampNeg) = ep i := by
        rw [hc]
        exact lc_nb (by rcases R.2.2.2.1 i hi with ⟨z, _⟩ | z; exact Or.inl z; exact Or.inr z)
      obtain ⟨o2, v2, h2, hX⟩ := ih (i + 1) (upd op r (ep i)) (upd ov r (ev i)) (by omega) (lc_O_s R hK hi er' hr16 (hd1 i q) h)
      rw [show min (i + 1) d = i + 1 by omega] at hX
      rw [show min i d = i by omega]
      exact ⟨o2, v2, h2, fun post hp => br_f hg ⟨hv, br_f (by rw [hc]; exact Int32.not_lt.mpr (hd1 i q)) ⟨hv, hv, hvk, nm_r (show upd op (ek (nI i).toNatClampNeg).toNatClampNeg (vp_nar .boolean (ep (nI i).toNatClampNeg)) = upd op r (ep i) by rw [hpb, hek, nI_clamp (by omega)]) ⟨hv, hv, hvk, nm_r (show upd ov (ek (nI i).toNatClampNeg).toNatClampNeg (ev (nI i).toNatClampNeg) = upd ov r (ev i) by rw [hek, hc, nI_clamp (by omega)]) (nm_r (nI_1 i) (nm_r (nI_1 i) (hX post hp)))⟩⟩⟩⟩
    · have hne := hd2 i (by omega) hi
      obtain ⟨o2, v2, h2, hX⟩ := ih (i + 1) op ov (by omega) (fun j hj => by rw [lc_lk_f (fun z => hne z.2)]; exact h j hj)
      rw [show min (i + 1) d = min i d by omega] at hX
      exact ⟨o2, v2, h2, fun post hp => br_f hg ⟨hv, br_t (by rw [hc]; exact Int32.not_le.mp hne) (nm_r (nI_1 i) (hX post hp))⟩⟩
/-- the events that stay move down, both sides in step -/
theorem lc_shift {d : Nat} {p : Int32} {er0 ek0 ep0 ev0 el0 : Nat → Int32} (hn : n ≤ 76) (hd : d ≤ n) (hd2 : ∀ i, d ≤ i → i < n → ¬ er0 i ≤ p) (hb : ∀ i, i < n → ep0 i = 0 ∨ ep0 i = 1) : ∀ (e i : Nat) (er ek ep ev el : Nat → Int32), i + e = n → d ≤ i →
    (∀ m, m + d < i → er m = er0 (m + d) ∧ ek m = ek0 (m + d) ∧ ep m = ep0 (m + d) ∧ ev m = ev0 (m + d) ∧ el m = el0 (m + d)) →
    (∀ m, i ≤ m + d → er m = er0 m ∧ ek m = ek0 m ∧ ep m = ep0 m ∧ ev m = ev0 m ∧ el m = el0 m) →
    ∃ er' ek' ep' ev' el' : Nat → Int32, (∀ m, m + d < n → er' m = er0 (m + d) ∧ ek' m = ek0 (m + d) ∧ ep' m = ep0 (m + d) ∧ ev' m = ev0 (m + d) ∧ el' m = el0 (m + d)) ∧
      (∀ post : SX → Prop, post ((nI (n - d)), (nI c), (nI N), od, tm, pr, va, cr, mo, ve, kl, op, ov, er', ek', ep', ev', ck, cy, cm, cn, ak, ap, av, ac, gr, tt, ex) → wX_dropEvents_2 post (nI d) (nI n) (nI c) (nI N) od tm (e + 1) (nI i) pr va cr mo ve kl op ov er ek ep ev ck cy cm cn ak ap av ac gr tt ex) ∧
      (∀ post : Int32 → SY → Prop, post (nI (n - d)) (p, (nI N), (nI (n - d)), (nI c), tm, ba, er', ek', ep', ev', el', se, co, ak, ap, av, ac, gr, tt, ex) → wY_compact_72 post p od (nI N) (nI n) (nI c) tm (e + 1) (nI (i - d)) (nI i) ba er ek ep ev el se co ak ap av ac gr tt ex) := by
  intro e
  induction e with
  | zero =>
    intro i er ek ep ev el he hdi h1 h2
    have ei : i = n := by omega
    subst ei
    exact ⟨er, ek, ep, ev, el, h1, fun post hp => br_t (Int32.le_refl _) (nm_r (pk_sub hd) hp), fun post hp => br_t (Int32.le_refl _) hp⟩
  | succ e ih =>
    intro i er ek ep ev el he hdi h1 h2
    have hg : ¬ nI n ≤ nI i := nI_ge (by omega) (by omega)
    have hv : vp_in (nI i) 76 := vp_in_nI (by omega) (by decide)
    have hw : vp_in (nI i) 96 := vp_in_nI (by omega) (by decide)
    have hc : (nI i).toNatClampNeg = i := nI_clamp (by omega)
    have es : nI i - nI d = nI (i - d) := pk_sub hdi
    have hb' : i - d < 2 ^ 31 := by omega
    have hvs : vp_in (nI i - nI d) 76 := by rw [es]; exact vp_in_nI (by omega) (by decide)
    have hws : vp_in (nI (i - d)) 96 := vp_in_nI (by omega) (by decide)
    obtain ⟨q1, q2, q3, q4, q5⟩ := h2 i (by omega)
    have hpb : vp_nar .boolean (ep (nI i).toNatClampNeg) = ep i := by
      rw [hc, q3]; exact lc_nb (hb i (by omega))
    have ux : ∀ (a : Nat → Int32), upd a (nI i - nI d).toNatClampNeg (a (nI i).toNatClampNeg) = upd a (i - d) (a i) := fun a => by rw [es, nI_clamp hb', hc]
    have uy : ∀ (a : Nat → Int32), upd a (nI (i - d)).toNatClampNeg (a (nI i).toNatClampNeg) = upd a (i - d) (a i) := fun a => by rw [nI_clamp hb', hc]
    obtain ⟨er', ek', ep', ev', el', hf, hX, hY⟩ := ih (i + 1) (upd er (i - d) (er i)) (upd ek (i - d) (ek i)) (upd ep (i - d) (ep i)) (upd ev (i - d) (ev i)) (upd el (i - d) (el i)) (by omega) (by omega) (fun m hm => by
        by_cases z : m = i - d
        · subst z
          rw [pk_us, pk_us, pk_us, pk_us, pk_us, show i - d + d = i by omega]
          exact ⟨q1, q2, q3, q4, q5⟩
        · rw [pk_un z, pk_un z, pk_un z, pk_un z, pk_un z]
          exact h1 m (by omega)) (fun m hm => by
        rw [pk_un (by omega), pk_un (by omega), pk_un (by omega), pk_un (by omega), pk_un (by omega)]
        exact h2 m (by omega))
    rw [show i + 1 - d = i - d + 1 by omega] at hY
    refine ⟨er', ek', ep', ev', el', hf, fun post hp => br_f hg ⟨hv, hvs, nm_r (ux er) ⟨hv, hvs, nm_r (ux ek) ⟨hv, hvs, nm_r (show upd ep (nI i - nI d).toNatClampNeg (vp_nar .boolean (ep (nI i).toNatClampNeg)) = upd ep (i - d) (ep i) by rw [hpb, es, nI_clamp hb']) ⟨hv, hvs, nm_r (ux ev) (nm_r (nI_1 i) (hX post hp))⟩⟩⟩⟩, fun post hp => br_f hg ⟨hw, br_f (by rw [hc, q1]; exact hd2 i hdi (by omega)) ⟨hw, hws, nm_r (uy er) ⟨hw, hws, nm_r (uy ek) ⟨hw, hws, nm_r (show upd ep (nI (i - d)).toNatClampNeg (vp_nar .boolean (ep (nI i).toNatClampNeg)) = upd ep (i - d) (ep i) by rw [hpb, nI_clamp hb']) ⟨hw, hws, nm_r (uy ev) ⟨hw, hws, nm_r (uy el) (nm_r (nI_1 (i - d)) (nm_r (nI_1 i) (hY post hp)))⟩⟩⟩⟩⟩⟩⟩
theorem lc_ySkip {d f : Nat} {p : Int32} (hn : n ≤ 76) (hd : d ≤ n) (hd1 : ∀ i, i < d → er i ≤ p) : ∀ (e i : Nat), i + e = d → ∀ post : Int32 → SY → Prop, wY_compact_72 post p od (nI N) (nI n) (nI c) tm f (nI 0) (nI d) ba er ek ep ev el se co ak ap av ac gr tt ex → wY_compact_72 post p od (nI N) (nI n) (nI c) tm (f + e) (nI 0) (nI i) ba er ek ep ev el se co ak ap av ac gr tt ex := by
  intro e
  induction e with
  | zero =>
    intro i he post hp
    have ei : i = d := by omega
    subst ei
    exact hp
  | succ e ih =>
    intro i he post hp
    have hg : ¬ nI n ≤ nI i := nI_ge (by omega) (by omega)
    have hw : vp_in (nI i) 96 := vp_in_nI (by omega) (by decide)
    have hc : (nI i).toNatClampNeg = i := nI_clamp (by omega)
    exact br_f hg ⟨hw, br_t (by rw [hc]; exact hd1 i (by omega)) (nm_r (nI_1 i) (ih (i + 1) (by omega) post hp))⟩
theorem lc_u5 {a : Nat → Int32} {j f : Nat} {x : Int32} (hj : j < 16) (hf : f < 5) : upd a (nI j * 5 + nI f).toNatClampNeg x = upd a (j * 5 + f) x := by rw [lc_ix5, nI_clamp (by omega)]
theorem lc_yBase {p : Int32} {ba0 : Nat → Int32} (hn : n ≤ 96) : ∀ (e j : Nat) (ba se : Nat → Int32), j + e = 16 → (∀ i, i < j → lc_bs ba i = lc_lk er ek ep ev el (nI i) p (lc_bs ba0 i) n) → (∀ i, j ≤ i → lc_bs ba i = lc_bs ba0 i) →
    ∃ ba' se' : Nat → Int32, (∀ i, i < 16 → lc_bs ba' i = lc_lk er ek ep ev el (nI i) p (lc_bs ba0 i) n) ∧ ∀ post : Int32 → SY → Prop, wY_compact_21 post p 1 (nI 16) od (nI N) (nI n) (nI c) tm ba' er ek ep ev el se' co ak ap av ac gr tt ex → wY_compact_21 post p (e + 1) (nI j) od (nI N) (nI n) (nI c) tm ba er ek ep ev el se co ak ap av ac gr tt ex := by
  intro e
  induction e with
  | zero =>
    intro j ba se he h1 h2
    have ej : j = 16 := by omega
    subst ej
    exact ⟨ba, se, h1, fun post hp => hp⟩
  | succ e ih =>
    intro j ba se he h1 h2
    have hj : j < 16 := by omega
    have hg : ¬ (16 : Int32) ≤ nI j := nI_ge (b := 16) hj (by decide)
    obtain ⟨s1, e1, hl⟩ := lc_yLook (n := n) (c := c) (N := N) (od := od) (tm := tm) (ba := ba) (er := er) (ek := ek) (ep := ep) (ev := ev) (el := el) (se := se) (co := co) (ak := ak) (ap := ap) (av := av) (ac := ac) (gr := gr) (tt := tt) (ex := ex) (p := p) hj hn
    rw [h2 j (Nat.le_refl _)] at e1
    obtain ⟨b2, s2, hb, hY⟩ := ih (j + 1) (upd (upd (upd (upd (upd ba (j * 5 + 0) (s1 0)) (j * 5 + 1) (s1 1)) (j * 5 + 2) (s1 2)) (j * 5 + 3) (s1 3)) (j * 5 + 4) (s1 4)) s1 (by omega) (fun i hi => by
        by_cases z : i = j
        · subst z
          rw [← e1]
          show (_, _, _, _, _) = (_, _, _, _, _)
          rw [pk_un (by omega), pk_un (by omega), pk_un (by omega), pk_un (by omega), show i * 5 = i * 5 + 0 from rfl, pk_us]
          rw [pk_un (by omega), pk_un (by omega), pk_un (by omega), pk_us]
          rw [pk_un (by omega), pk_un (by omega), pk_us]
          rw [pk_un (by omega), pk_us, pk_us]
        · rw [← h1 i (by omega)]
          show (_, _, _, _, _) = (_, _, _, _, _)
          simp only [lc_ut]
          rw [if_neg (by omega), if_neg (by omega), if_neg (by omega), if_neg (by omega), if_neg (by omega)]
          rw [if_neg (by omega), if_neg (by omega), if_neg (by omega), if_neg (by omega), if_neg (by omega)]
          rw [if_neg (by omega), if_neg (by omega), if_neg (by omega), if_neg (by omega), if_neg (by omega)]
          rw [if_neg (by omega), if_neg (by omega), if_neg (by omega), if_neg (by omega), if_neg (by omega)]
          rw [if_neg (by omega), if_neg (by omega), if_neg (by omega), if_neg (by omega), if_neg (by omega)]) (fun i hi => by
        rw [← h2 i (by omega)]
        show (_, _, _, _, _) = (_, _, _, _, _)
        simp only [lc_ut]
        rw [if_neg (by omega), if_neg (by omega), if_neg (by omega), if_neg (by omega), if_neg (by omega)]
        rw [if_neg (by omega), if_neg (by omega), if_neg (by omega), if_neg (by omega), if_neg (by omega)]
        rw [if_neg (by omega), if_neg (by omega), if_neg (by omega), if_neg (by omega), if_neg (by omega)]
        rw [if_neg (by omega), if_neg (by omega), if_neg (by omega), if_neg (by omega), if_neg (by omega)]
        rw [if_neg (by omega), if_neg (by omega), if_neg (by omega), if_neg (by omega), if_neg (by omega)])
    refine ⟨b2, s2, hb, fun post hp => br_f hg (hl _ ⟨6, ?_⟩)⟩
    exact br_f (by decide) ⟨vp_in_nI (n := 0) (by decide) (by decide), lc_b5 (f := 0) hj (by decide), nm_r (lc_u5 (f := 0) hj (by decide)) (nm_r (e' := 1) rfl
      (br_f (by decide) ⟨vp_in_nI (n := 1) (by decide) (by decide), lc_b5 (f := 1) hj (by decide), nm_r (lc_u5 (f := 1) hj (by decide)) (nm_r (e' := 2) rfl
      (br_f (by decide) ⟨vp_in_nI (n := 2) (by decide) (by decide), lc_b5 (f := 2) hj (by decide), nm_r (lc_u5 (f := 2) hj (by decide)) (nm_r (e' := 3) rfl
      (br_f (by decide) ⟨vp_in_nI (n := 3) (by decide) (by decide), lc_b5 (f := 3) hj (by decide), nm_r (lc_u5 (f := 3) hj (by decide)) (nm_r (e' := 4) rfl
      (br_f (by decide) ⟨vp_in_nI (n := 4) (by decide) (by decide), lc_b5 (f := 4) hj (by decide), nm_r (lc_u5 (f := 4) hj (by decide)) (nm_r (e' := 5) rfl
      (br_t (by decide) (nm_r (nI_1 j) (hY post hp))))⟩))⟩))⟩))⟩))⟩
/-- the relation behind a compaction -/
theorem lc_R_c {K d : Nat} {p : Int32} {op' ov' er' ek' ep' ev' el' ba' : Nat → Int32} (hd : d ≤ n) (hd1 : ∀ i, i < d → er i ≤ p) (hd2 : ∀ i, d ≤ i → i < n → ¬ er i ≤ p) (R : lc_R n N K pr va cr mo ve kl op ov er ek ep ev ba el)
    (hO : lc_O n p op' ov' er ek ep ev ba el) (hf : ∀ m, m + d < n → er' m = er (m + d) ∧ ek' m = ek (m + d) ∧ ep' m = ep (m + d) ∧ ev' m = ev (m + d) ∧ el' m = el (m + d)) (hb : ∀ i, i < 16 → lc_bs ba' i = lc_lk er ek ep ev el (nI i) p (lc_bs ba i) n) :
    lc_R (n - d) N K pr va cr mo ve kl op' ov' er' ek' ep' ev' ba' el' := by
  obtain ⟨a1, a2, a3, a4, a5, a6, a7⟩ := R
  have hcut : ∀ j, lc_lk er ek ep ev el (nI j) p (lc_bs ba j) n = lc_lk er ek ep ev el (nI j) p (lc_bs ba j) d := by
    intro j
    have h := lc_lk_n (er := er) (ek := ek) (ep := ep) (ev := ev) (el := el) (key := nI j) (p := p) (s := lc_bs ba j) (d := d) (n - d) (fun i h1 h2 => hd2 i h1 (by omega))
    rw [show d + (n - d) = n by omega] at h
    exact h
  refine ⟨fun i hi => ?_, fun i j hij hj => ?_, fun i hi => ?_, fun i hi => ?_, fun j hj => ?_, fun j hj => ?_, a7⟩
  · rw [(hf i (by omega)).1]; exact a1 _ (by omega)
  · rw [(hf i (by omega)).1, (hf j (by omega)).1]; exact a2 _ _ (by omega) (by omega)
  · rw [(hf i (by omega)).2.1]; exact a3 _ (by omega)
  · rw [(hf i (by omega)).2.2.1, (hf i (by omega)).2.2.2.1]; exact a4 _ (by omega)
  · have e := hb j hj
    have e0 : ba' (j * 5) = (lc_lk er ek ep ev el (nI j) p (lc_bs ba j) n).1 := congrArg (fun t => t.1) e
    have e1 : ba' (j * 5 + 1) = (lc_lk er ek ep ev el (nI j) p (lc_bs ba j) n).2.1 := congrArg (fun t => t.2.1) e
    obtain ⟨⟨w, ew, hw⟩, _⟩ := a5 j hj
    obtain ⟨w', hw', ew'⟩ := lc_lk_v (er := er) (ek := ek) (ep := ep) (ev := ev) (el := el) (key := nI j) (p := p) (s := lc_bs ba j) (w := w) ew d
    refine ⟨⟨w', by rw [e1, hcut j]; exact ew', by omega⟩, ?_, ?_⟩
    · rw [e0]; exact (hO j hj).1
    · rw [e1]; exact (hO j hj).2
  · have e2 : lc_bs ba' j = lc_lk er ek ep ev el (nI j) (nI N) (lc_bs ba j) d := by
      rw [hb j hj, hcut j]
      exact lc_lk_r d fun i hi _ => ⟨fun _ => a1 i (by omega), fun _ => hd1 i hi⟩
    rw [e2, lc_lk_s (n - d) (fun i hi => hf i (by omega)), show n - d + d = n by omega]
    exact a6 j hj
end
theorem i_vc_compact {k : Nat} {u : SX} {v : SY} (I : i_Rel k u v) (hk : k + 5 ≤ 2560) (v1 : Int32) : wpX_compact (fun r u' => wpY_compact (fun r' v' => r' = r ∧ i_Rel (k + 5) u' v') v v1) u v1 := by
  obtain ⟨n, c, N, od, tm, pr, va, cr, mo, ve, kl, op, ov, er, ek, ep, ev, ck, cy, cm, cn, ak, ap, av, ac, gr, tt, ex, ba, el, se, co, rfl, rfl, h1, h2, h3, h4, h5⟩ := I
  unfold wpX_compact
  by_cases a : v1 < od
  · exact br_t a (br_t rfl (br_t a ⟨rfl, i_up (lc_mk h1 h2 h3 h4 h5)⟩))
  · by_cases b : v1 ≤ nI N
    · obtain ⟨d, hd, hd1, hd2⟩ := lc_cut (er := er) v1 n h3.2.1
      obtain ⟨op', ov', hO, hX⟩ := lc_xComp (n := n) (c := c) (N := N) (od := od) (tm := tm) (pr := pr) (va := va) (cr := cr) (mo := mo) (ve := ve) (kl := kl) (er := er) (ek := ek) (ep := ep) (ev := ev) (ck := ck) (cy := cy) (cm := cm) (cn := cn) (ak := ak) (ap := ap) (av := av) (ac := ac) (gr := gr) (tt := tt) (ex := ex) h3 (by omega) (by omega) hd hd1 hd2 n 0 op ov (by omega) (fun j hj => by
        obtain ⟨_, e1, e2⟩ := h3.2.2.2.2.1 j hj
        exact ⟨e1, e2⟩)
      rw [Nat.zero_min] at hX
      obtain ⟨ba', se', hb, hY⟩ := lc_yBase (n := n) (c := c) (N := N) (od := od) (tm := tm) (er := er) (ek := ek) (ep := ep) (ev := ev) (el := el) (co := co) (ak := ak) (ap := ap) (av := av) (ac := ac) (gr := gr) (tt := tt) (ex := ex) (p := v1) (ba0 := ba) (by omega) 16 0 ba se rfl (fun i hi => absurd hi (by omega)) (fun i _ => rfl)
      obtain ⟨er', ek', ep', ev', el', hf, hX2, hY2⟩ := lc_shift (n := n) (c := c) (N := N) (od := od) (tm := tm) (pr := pr) (va := va) (cr := cr) (mo := mo) (ve := ve) (kl := kl) (ck := ck) (cy := cy) (cm := cm) (cn := cn) (ak := ak) (ap := ap) (av := av) (ac := ac) (gr := gr) (tt := tt) (ex := ex) (op := op') (ov := ov') (ba := ba') (se := se') (co := co) (p := v1) (by omega) hd hd2 (fun i hi => by rcases h3.2.2.2.1 i hi with ⟨z, _⟩ | z; exact Or.inl z; exact Or.inr z) (n - d) d er ek ep ev el (by omega) (Nat.le_refl _) (fun m hm => absurd hm (by omega)) (fun m _ => ⟨rfl, rfl, rfl, rfl, rfl⟩)
      rw [Nat.sub_self] at hY2
      refine br_f a (br_f (Int32.not_lt.mpr b) (br_f lc_10 ⟨n + 1, hX _ (br_t (Int32.le_refl _) ⟨n - d + 1, hX2 _ (br_f a (br_t b ⟨17, hY _ (br_t (nI_le (a := 16) (b := 16) (by decide) (by decide)) ⟨n - d + 1 + d, lc_ySkip (by omega) hd hd1 d 0 (by omega) _ (hY2 _ ⟨rfl, ?_⟩)⟩)⟩))⟩)⟩))
      exact i_up (lc_mk h1 (by omega) (lc_R_c hd hd1 hd2 h3 hO hf hb) h4 h5)
    · exact br_f a (br_t (Int32.not_le.mp b) (br_t rfl (br_f a (br_f b ⟨rfl, i_up (lc_mk h1 h2 h3 h4 h5)⟩))))
end
section
def lc_cmp (m : Nat) (x y : Int32) : Int32 := match m with
  | 0 => if x = y then 1 else 0
  | 1 => if x = y then 0 else 1
  | 2 => if y ≤ x then 0 else 1
  | _ => if x ≤ y then 0 else 1
theorem lc_cmp01 (m : Nat) (x y : Int32) : lc_cmp m x y = 0 ∨ lc_cmp m x y = 1 := by
  unfold lc_cmp
  split <;> split <;> first | exact Or.inl rfl | exact Or.inr rfl
theorem lc_if {p : Prop} {a b : Int32} {A : Int32 → Prop} (i : Decidable p) (h : A (if p then a else b)) : (p → A a) ∧ (¬ p → A b) := by
  by_cases z : p
  · rw [if_pos z] at h; exact br_t z h
  · rw [if_neg z] at h; exact br_f z h
theorem lc_xCmp {m : Nat} (hm : m < 4) {x y : Int32} {post : Int32 → Prop} (h : post (lc_cmp m x y)) : wpX_compares post x (nI m) y := by
  match m, hm with
  | 0, _ => exact br_f (by decide) (br_f (by decide) (br_t (by decide) (lc_if _ h)))
  | 1, _ => exact br_f (by decide) (br_f (by decide) (br_f (by decide) (br_t (by decide) (lc_if _ h))))
  | 2, _ => exact br_f (by decide) (br_f (by decide) (br_f (by decide) (br_f (by decide) (br_t (by decide) (lc_if _ h)))))
  | 3, _ => exact br_f (by decide) (br_t (by decide) (lc_if _ h))
section
variable {n c N : Nat} {od tm : Int32} {pr va cr mo ve kl op ov er ek ep ev ck cy cm cn ak ap av ac gr tt ex ba el se co : Nat → Int32}
theorem lc_yHolds {K i a q m : Nat} (R : lc_R n N K pr va cr mo ve kl op ov er ek ep ev ba el) (hn : n ≤ 96) (hi : i < 4) (ha : a < 4) (hq : q < 16) (hm : m < 4) (e0 : co (i * 4) = nI a) (e1 : co (i * 4 + 1) = nI q) (e2 : co (i * 4 + 2) = nI m) :
    ∃ se', ∀ post : Int32 → SY → Prop, post (lc_cmp m (lc_at (va q, ve q, mo q, cr q, kl q) a) (co (i * 4 + 3))) (od, (nI N), (nI n), (nI c), tm, ba, er, ek, ep, ev, el, se', co, ak, ap, av, ac, gr, tt, ex) → wpY_holds post (od, (nI N), (nI n), (nI c), tm, ba, er, ek, ep, ev, el, se, co, ak, ap, av, ac, gr, tt, ex) (nI i) := by
  obtain ⟨s1, q1, hl⟩ := lc_yLook (n := n) (c := c) (N := N) (od := od) (tm := tm) (ba := ba) (er := er) (ek := ek) (ep := ep) (ev := ev) (el := el) (se := se) (co := co) (ak := ak) (ap := ap) (av := av) (ac := ac) (gr := gr) (tt := tt) (ex := ex) (p := nI N) hq hn
  rw [R.2.2.2.2.2.1 q hq] at q1
  refine ⟨s1, fun post hp => ?_⟩
  have i0 : vp_in (nI i * 4) 16 := lc_in40 (by omega) (by decide)
  have i1 : vp_in (nI i * 4 + 1) 16 := lc_in4 (f := 1) (by omega) (by decide)
  have i2 : vp_in (nI i * 4 + 2) 16 := lc_in4 (f := 2) (by omega) (by decide)
  have i3 : vp_in (nI i * 4 + 3) 16 := lc_in4 (f := 3) (by omega) (by decide)
  have r0 : co (nI i * 4).toNatClampNeg = nI a := by rw [lc_ix40, nI_clamp (by omega)]; exact e0
  have r1 : co (nI i * 4 + 1).toNatClampNeg = nI q := by
    rw [show nI i * 4 + 1 = nI (i * 4 + 1) from lc_ix4 i 1, nI_clamp (by omega)]; exact e1
  have r2 : co (nI i * 4 + 2).toNatClampNeg = nI m := by
    rw [show nI i * 4 + 2 = nI (i * 4 + 2) from lc_ix4 i 2, nI_clamp (by omega)]; exact e2
  have r3 : co (nI i * 4 + 3).toNatClampNeg = co (i * 4 + 3) := by
    rw [show nI i * 4 + 3 = nI (i * 4 + 3) from lc_ix4 i 3, nI_clamp (by omega)]
  have rs : s1 (co (nI i * 4).toNatClampNeg).toNatClampNeg = lc_at (va q, ve q, mo q, cr q, kl q) a := by
    rw [r0, nI_clamp (by omega)]; exact lc_sv_at q1 (by omega)
  refine ⟨i1, ?_⟩
  rw [r1]
  refine hl _ ⟨i0, by rw [r0]; exact vp_in_nI (by omega) (by decide), nm_r rs ⟨i3, nm_r r3 ⟨i2, ?_⟩⟩⟩
  match m, hm with
  | 0, _ => exact br_t (r2.trans rfl) (lc_if (A := fun r => post r (od, (nI N), (nI n), (nI c), tm, ba, er, ek, ep, ev, el, s1, co, ak, ap, av, ac, gr, tt, ex)) _ hp)
  | 1, _ => exact br_f (by rw [r2]; decide) ⟨i2, br_t (r2.trans rfl) (lc_if (A := fun r => post r (od, (nI N), (nI n), (nI c), tm, ba, er, ek, ep, ev, el, s1, co, ak, ap, av, ac, gr, tt, ex)) _ hp)⟩
  | 2, _ => exact br_f (by rw [r2]; decide) ⟨i2, br_f (by rw [r2]; decide) ⟨i2, br_t (r2.trans rfl) (lc_if (A := fun r => post r (od, (nI N), (nI n), (nI c), tm, ba, er, ek, ep, ev, el, s1, co, ak, ap, av, ac, gr, tt, ex)) _ hp)⟩⟩
  | 3, _ => exact br_f (by rw [r2]; decide) ⟨i2, br_f (by rw [r2]; decide) ⟨i2, br_f (by rw [r2]; decide) (lc_if (A := fun r => post r (od, (nI N), (nI n), (nI c), tm, ba, er, ek, ep, ev, el, s1, co, ak, ap, av, ac, gr, tt, ex)) _ hp)⟩⟩
theorem lc_condIdle (hc4 : c ≤ 4) : ∀ d i : Nat, i + d = c → ∀ post : Int32 → SY → Prop, wY_commit_16 post 1 0 (nI c) od (nI N) (nI n) (nI c) tm ba er ek ep ev el se co ak ap av ac gr tt ex → wY_commit_16 post (d + 1) 0 (nI i) od (nI N) (nI n) (nI c) tm ba er ek ep ev el se co ak ap av ac gr tt ex := by
  intro d
  induction d with
  | zero =>
    intro i hd post h
    have e : i = c := by omega
    subst e
    exact h
  | succ d ih =>
    intro i hd post h
    exact br_f (nI_ge (by omega) (by omega)) (br_t rfl (nm_r (nI_1 i) (ih (i + 1) (by omega) post h)))
theorem lc_conds {K : Nat} (R : lc_R n N K pr va cr mo ve kl op ov er ek ep ev ba el) (hn : n ≤ 96) (C : lc_C c ck cy cm cn co) : ∀ (d i : Nat) (se : Nat → Int32), i + d = c → ∃ (r : Int32) (se' : Nat → Int32), (r = 0 ∨ r = 1) ∧ (∀ post : Int32 → Prop, post r → wX_conditionsHold_2 post (nI n) (nI c) (nI N) od tm pr va cr mo ve kl op ov er ek ep ev ck cy cm cn ak ap av ac gr tt ex (d + 1) (nI i)) ∧ (∀ post : Int32 → SY → Prop, wY_commit_16 post 1 r (nI c) od (nI N) (nI n) (nI c) tm ba er ek ep ev el se' co ak ap av ac gr tt ex → wY_commit_16 post (d + 1) 1 (nI i) od (nI N) (nI n) (nI c) tm ba er ek ep ev el se co ak ap av ac gr tt ex) := by
  obtain ⟨hc4, hC⟩ := C
  intro d
  induction d with
  | zero =>
    intro i se hd
    have e : i = c := by omega
    subst e
    exact ⟨1, se, Or.inr rfl, fun post hp => br_t (Int32.le_refl _) hp, fun post h => h⟩
  | succ d ih =>
    intro i se hd
    obtain ⟨⟨a, ha, ea⟩, ⟨q, hq, eq⟩, ⟨m, hm, em⟩, f0, f1, f2, f3⟩ := hC i (by omega)
    have hg : ¬ nI c ≤ nI i := nI_ge (by omega) (by omega)
    have hv : vp_in (nI i) 4 := vp_in_nI (by omega) (by decide)
    have hci : (nI i).toNatClampNeg = i := nI_clamp (by omega)
    obtain ⟨s1, hH⟩ := lc_yHolds (n := n) (c := c) (N := N) (od := od) (tm := tm) (ba := ba) (er := er) (ek := ek) (ep := ep) (ev := ev) (el := el) (se := se) (co := co) (ak := ak) (ap := ap) (av := av) (ac := ac) (gr := gr) (tt := tt) (ex := ex) R hn (show i < 4 by omega) ha hq hm (f0.trans ea) (f1.trans eq) (f2.trans em)
    rw [f3] at hH
    rcases lc_cmp01 m (lc_at (va q, ve q, mo q, cr q, kl q) a) (cn i) with z | z
    · rw [z] at hH
      refine ⟨0, s1, Or.inl rfl, fun post hp => br_f hg ⟨hv, hv, ?_⟩, fun post h => br_f hg (br_f lc_10 (hH _ (br_t rfl (nm_r (nI_1 i) (lc_condIdle hc4 d (i + 1) (by omega) post h)))))⟩
      rw [hci, ea, eq]
      refine lc_xRead (by omega) hq ⟨hv, hv, ?_⟩
      rw [em]
      refine lc_xCmp hm ?_
      rw [z]
      exact br_t rfl hp
    · rw [z] at hH
      obtain ⟨r, s2, hr, hX, hY⟩ := ih (i + 1) s1 (by omega)
      refine ⟨r, s2, hr, fun post hp => br_f hg ⟨hv, hv, ?_⟩, fun post h => br_f hg (br_f lc_10 (hH _ (br_f lc_10 (nm_r (nI_1 i) (hY post h)))))⟩
      rw [hci, ea, eq]
      refine lc_xRead (by omega) hq ⟨hv, hv, ?_⟩
      rw [em]
      refine lc_xCmp hm ?_
      rw [z]
      exact br_f lc_10 (nm_r (nI_1 i) (hX post hp))
/-- does action i of list l change anything -/
def lc_ch (l i : Nat) (ak ap pr : Nat → Int32) : Prop := ¬ ap (l * 4 + i) = 0 ∨ ¬ pr (ak (l * 4 + i)).toNatClampNeg = 0
theorem lc_changes {l m : Nat} (hl : l < 2) (hm : m ≤ 4) (hL : lc_L l m ak ap av) : ∀ d i : Nat, i + d = m →
    ((∃ i', i ≤ i' ∧ i' < m ∧ lc_ch l i' ak ap pr) ∧ ∀ post : Int32 → Prop, post 1 → wX_listChanges_16 post (nI (l * 4 + m)) (nI n) (nI c) (nI N) od tm pr va cr mo ve kl op ov er ek ep ev ck cy cm cn ak ap av ac gr tt ex (d + 1) (nI (l * 4 + i))) ∨
    ((∀ i', i ≤ i' → i' < m → ¬ lc_ch l i' ak ap pr) ∧ ∀ post : Int32 → Prop, post 0 → wX_listChanges_16 post (nI (l * 4 + m)) (nI n) (nI c) (nI N) od tm pr va cr mo ve kl op ov er ek ep ev ck cy cm cn ak ap av ac gr tt ex (d + 1) (nI (l * 4 + i))) := by
  intro d
  induction d with
  | zero =>
    intro i hd
    have e : i = m := by omega
    subst e
    exact Or.inr ⟨fun i' h1 h2 => absurd h1 (by omega), fun post hp => br_t (Int32.le_refl _) hp⟩
  | succ d ih =>
    intro i hd
    have hg : ¬ nI (l * 4 + m) ≤ nI (l * 4 + i) := nI_ge (by omega) (by omega)
    have hi : vp_in (nI (l * 4 + i)) 8 := vp_in_nI (by omega) (by decide)
    have hci : (nI (l * 4 + i)).toNatClampNeg = l * 4 + i := nI_clamp (by omega)
    obtain ⟨⟨q, hq, eq⟩, _, _⟩ := hL i (by omega)
    have hvk : vp_in (ak (nI (l * 4 + i)).toNatClampNeg) 16 := by rw [hci, eq]; exact vp_in_nI hq (by decide)
    by_cases z : ap (l * 4 + i) = 0
    · by_cases y : pr (ak (l * 4 + i)).toNatClampNeg = 0
      · have nc : ¬ lc_ch l i ak ap pr := fun h => h.elim (fun h => h z) (fun h => h y)
        rcases ih (i + 1) (by omega) with ⟨⟨i', g1, g2, g3⟩, hX⟩ | ⟨g, hX⟩
        · exact Or.inl ⟨⟨i', by omega, g2, g3⟩, fun post hp => br_f hg ⟨hi, br_t (by rw [hci]; exact z) ⟨hi, hvk, br_t (by rw [hci]; exact y) (nm_r (nI_1 _) (hX post hp))⟩⟩⟩
        · refine Or.inr ⟨fun i' g1 g2 => ?_, fun post hp => br_f hg ⟨hi, br_t (by rw [hci]; exact z) ⟨hi, hvk, br_t (by rw [hci]; exact y) (nm_r (nI_1 _) (hX post hp))⟩⟩⟩
          by_cases e : i' = i
          · rw [e]; exact nc
          · exact g i' (by omega) g2
      · exact Or.inl ⟨⟨i, Nat.le_refl _, by omega, Or.inr y⟩, fun post hp => br_f hg ⟨hi, br_t (by rw [hci]; exact z) ⟨hi, hvk, br_f (by rw [hci]; exact y) hp⟩⟩⟩
    · exact Or.inl ⟨⟨i, Nat.le_refl _, by omega, Or.inl z⟩, fun post hp => br_f hg ⟨hi, br_f (by rw [hci]; exact z) hp⟩⟩
/-- nothing changes: the reference only looks -/
theorem lc_actIdle {l m K : Nat} {x3 : Int32} (hl : l < 2) (hm : m ≤ 4) (hac : ac l = nI m) (hL : lc_L l m ak ap av) (R : lc_R n N K pr va cr mo ve kl op ov er ek ep ev ba el) (hK : K < 2 ^ 30) (hn : n ≤ 96) : ∀ (d i : Nat) (se : Nat → Int32), i + d = m → (∀ i', i ≤ i' → i' < m → ¬ lc_ch l i' ak ap pr) → ∃ se', ∀ (post : Int32 → SY → Prop) (x1 : Int32), wY_commit_158 post x1 od (nI N) (nI n) (nI c) tm ba er ek ep ev el se' co ak ap av ac gr tt ex → wY_commit_73 post x1 (nI l) x3 (d + 1) 0 (nI (l * 4 + i)) od (nI N) (nI n) (nI c) tm ba er ek ep ev el se co ak ap av ac gr tt ex := by
  have hv : vp_in (nI l) 2 := vp_in_nI hl (by decide)
  have ee : nI l * 4 + ac (nI l).toNatClampNeg = nI (l * 4 + m) := by rw [nI_clamp (by omega), hac, lc_ix4]
  intro d
  induction d with
  | zero =>
    intro i se hd _
    have e : i = m := by omega
    subst e
    exact ⟨se, fun post x1 h => ⟨hv, br_t (by rw [ee]; exact Int32.le_refl _) (br_t rfl h)⟩⟩
  | succ d ih =>
    intro i se hd hn'
    have hg : ¬ nI l * 4 + ac (nI l).toNatClampNeg ≤ nI (l * 4 + i) := by rw [ee]; exact nI_ge (by omega) (by omega)
    have hi : vp_in (nI (l * 4 + i)) 8 := vp_in_nI (by omega) (by decide)
    have hci : (nI (l * 4 + i)).toNatClampNeg = l * 4 + i := nI_clamp (by omega)
    obtain ⟨⟨q, hq, eq⟩, _, _⟩ := hL i (by omega)
    have nc := hn' i (Nat.le_refl _) (by omega)
    have z : ap (l * 4 + i) = 0 := Classical.not_not.mp fun h => nc (Or.inl h)
    have y : pr q = 0 := Classical.not_not.mp fun h => nc (Or.inr (by rw [eq, nI_clamp (by omega)]; exact h))
    obtain ⟨s1, e1, hp1⟩ := lc_yPres (n := n) (c := c) (N := N) (od := od) (tm := tm) (ba := ba) (er := er) (ek := ek) (ep := ep) (ev := ev) (el := el) (se := se) (co := co) (ak := ak) (ap := ap) (av := av) (ac := ac) (gr := gr) (tt := tt) (ex := ex) R hK hn hq
    obtain ⟨s2, hY⟩ := ih (i + 1) s1 (by omega) (fun i' g1 g2 => hn' i' (by omega) g2)
    refine ⟨s2, fun post x1 h => ⟨hv, br_f hg ⟨hi, br_t (by rw [hci]; exact z) ⟨hi, ?_⟩⟩⟩⟩
    rw [hci, eq]
    exact hp1 _ (br_t y (nm_r (nI_1 _) (hY post x1 h)))
/-- the actions, both sides in step; the reference's newest revision follows at the end -/
theorem lc_carry {l m : Nat} (hl : l < 2) (hm : m ≤ 4) (hac : ac l = nI m) (hL : lc_L l m ak ap av) (hN : N + 1 < 2 ^ 31) : ∀ (d i n K : Nat) (x4 : Int32) (pr va cr mo ve kl er ek ep ev el se : Nat → Int32), i + d = m → n + d ≤ 60 → K + d < 2 ^ 30 → lc_R n (N + 1) K pr va cr mo ve kl op ov er ek ep ev ba el →
    (∀ i', i ≤ i' → i' < m → ∀ q, q < 16 → ak (l * 4 + i') = nI q → lc_lk er ek ep ev el (nI q) (nI N) (lc_bs ba q) n = lc_lk er ek ep ev el (nI q) (nI (N + 1)) (lc_bs ba q) n) →
    (x4 = 1 ∨ x4 = 0 ∧ ∃ i', i ≤ i' ∧ i' < m ∧ lc_ch l i' ak ap pr) →
    ∃ (n' : Nat) (pr' va' cr' mo' ve' kl' er' ek' ep' ev' el' se' : Nat → Int32), n' ≤ 60 ∧ lc_R n' (N + 1) (K + d) pr' va' cr' mo' ve' kl' op ov er' ek' ep' ev' ba el' ∧
      (∀ post : SX → Prop, post ((nI n'), (nI c), (nI (N + 1)), od, tm, pr', va', cr', mo', ve', kl', op, ov, er', ek', ep', ev', ck, cy, cm, cn, ak, ap, av, ac, gr, tt, ex) → wX_carryOut_35 post (nI (l * 4 + m)) (d + 1) (nI (l * 4 + i)) (nI n) (nI c) (nI (N + 1)) od tm pr va cr mo ve kl op ov er ek ep ev ck cy cm cn ak ap av ac gr tt ex) ∧
      (∀ (post : Int32 → SY → Prop) (x1 : Int32), wY_commit_158 post x1 od (nI (N + 1)) (nI n') (nI c) tm ba er' ek' ep' ev' el' se' co ak ap av ac gr tt ex → wY_commit_73 post x1 (nI l) (nI (N + 1)) (d + 1) x4 (nI (l * 4 + i)) od (nI N) (nI n) (nI c) tm ba er ek ep ev el se co ak ap av ac gr tt ex) := by
  have hv : vp_in (nI l) 2 := vp_in_nI hl (by decide)
  have ee : nI l * 4 + ac (nI l).toNatClampNeg = nI (l * 4 + m) := by rw [nI_clamp (by omega), hac, lc_ix4]
  intro d
  induction d with
  | zero =>
    intro i n K x4 pr va cr mo ve kl er ek ep ev el se hd hn hK R hu hx
    have e : i = m := by omega
    subst e
    have h4 : ¬ x4 = 0 := by
      rcases hx with rfl | ⟨_, i', g1, g2, _⟩
      · exact lc_10
      · omega
    exact ⟨n, pr, va, cr, mo, ve, kl, er, ek, ep, ev, el, se, by omega, R, fun post hp => br_t (Int32.le_refl _) hp, fun post x1 h => ⟨hv, br_t (by rw [ee]; exact Int32.le_refl _) (br_f h4 h)⟩⟩
  | succ d ih =>
    intro i n K x4 pr va cr mo ve kl er ek ep ev el se hd hn hK R hu hx
    have hg : ¬ nI (l * 4 + m) ≤ nI (l * 4 + i) := nI_ge (by omega) (by omega)
    have hgy : ¬ nI l * 4 + ac (nI l).toNatClampNeg ≤ nI (l * 4 + i) := by rw [ee]; exact hg
    have hi : vp_in (nI (l * 4 + i)) 8 := vp_in_nI (by omega) (by decide)
    have hci : (nI (l * 4 + i)).toNatClampNeg = l * 4 + i := nI_clamp (by omega)
    obtain ⟨⟨q, hq, eq⟩, hpv, hdis⟩ := hL i (by omega)
    have eqc : ak (nI (l * 4 + i)).toNatClampNeg = nI q := by rw [hci]; exact eq
    have hvq : vp_in (nI q) 16 := vp_in_nI hq (by decide)
    have hcq : (nI q).toNatClampNeg = q := nI_clamp (by omega)
    have hne : ∀ i', i + 1 ≤ i' → i' < m → ∀ q', q' < 16 → ak (l * 4 + i') = nI q' → ∀ r : Int32, ¬ (nI q = nI q' ∧ r ≤ nI N) ∧ ¬ (nI q = nI q' ∧ r ≤ nI (N + 1)) := by
      intro i' g1 g2 q' _ e' r
      have : ¬ nI q = nI q' := fun z => absurd (hdis i' g2 (by rw [eq, e', z])) (by omega)
      exact ⟨fun z => this z.1, fun z => this z.1⟩
    rcases hpv with ⟨zp, zv⟩ | zp
    · obtain ⟨w, hw, ew⟩ := lc_R_v R hq
      have hlk := (hu i (Nat.le_refl _) (by omega) q hq eq).trans (R.2.2.2.2.2.1 q hq)
      rw [ew] at hlk
      obtain ⟨s1, e1, hp1⟩ := lc_yPresent (n := n) (c := c) (N := N) (od := od) (tm := tm) (ba := ba) (er := er) (ek := ek) (ep := ep) (ev := ev) (el := el) (se := se) (co := co) (ak := ak) (ap := ap) (av := av) (ac := ac) (gr := gr) (tt := tt) (ex := ex) (j := q) (w := w) hq (by omega) (by omega) hlk
      have h7 := R.2.2.2.2.2.2 q hq
      by_cases y : w = 0
      · have hpr : pr q = 0 := by rw [h7.1, ew, y, if_pos nI_0]
        rw [if_pos y] at hp1
        obtain ⟨n', pr', va', cr', mo', ve', kl', er', ek', ep', ev', el', se', hn', R', hX, hY⟩ := ih (i + 1) n K x4 pr va cr mo ve kl er ek ep ev el s1 (by omega) (by omega) (by omega) R (fun i' g1 g2 => hu i' (by omega) g2) (by
          rcases hx with h | ⟨h, i', g1, g2, g3⟩
          · exact Or.inl h
          · refine Or.inr ⟨h, i', ?_, g2, g3⟩
            by_cases e : i' = i
            · rw [e] at g3
              rcases g3 with g3 | g3
              · exact absurd zp g3
              · rw [eq, hcq] at g3; exact absurd hpr g3
            · omega)
        refine ⟨n', pr', va', cr', mo', ve', kl', er', ek', ep', ev', el', se', hn', lc_R_K (by omega) R', fun post hp => br_f hg ⟨hi, nm_r eqc ⟨hi, br_t (by rw [hci]; exact zp) ⟨hvq, br_t (by rw [hcq]; exact hpr) (nm_r (nI_1 _) (hX post hp))⟩⟩⟩, fun post x1 h => ⟨hv, br_f hgy ⟨hi, br_t (by rw [hci]; exact zp) ⟨hi, ?_⟩⟩⟩⟩
        rw [eqc]
        exact hp1 _ (br_t rfl (nm_r (nI_1 _) (hY post x1 h)))
      · have hve : ¬ ve q = 0 := by rw [ew]; exact nI_ne0 (by omega) (by omega)
        have hpr : ¬ pr q = 0 := by rw [h7.1, if_neg hve]; exact lc_10
        rw [if_neg y] at hp1
        obtain ⟨n', pr', va', cr', mo', ve', kl', er', ek', ep', ev', el', se', hn', R', hX, hY⟩ := ih (i + 1) (n + 1) (K + 1) 1 _ _ _ _ _ _ _ _ _ _ _ s1 (by omega) (by omega) (by omega) (lc_R_d hq R) (fun i' g1 g2 q' h' e' => by
          rw [lc_lk_uf (hne i' g1 g2 q' h' e' _).1, lc_lk_uf (hne i' g1 g2 q' h' e' _).2]
          exact hu i' (by omega) g2 q' h' e') (Or.inl rfl)
        refine ⟨n', pr', va', cr', mo', ve', kl', er', ek', ep', ev', el', se', hn', lc_R_K (by omega) R', fun post hp => br_f hg ⟨hi, nm_r eqc ⟨hi, br_t (by rw [hci]; exact zp) ⟨hvq, br_f (by rw [hcq]; exact hpr) (lc_xDelKey hq (by omega) (nm_r (nI_1 _) (hX post hp)))⟩⟩⟩, fun post x1 h => ⟨hv, br_f hgy ⟨hi, br_t (by rw [hci]; exact zp) ⟨hi, ?_⟩⟩⟩⟩
        rw [eqc]
        refine hp1 _ (br_f lc_10 ⟨hi, hi, hi, ?_⟩)
        rw [hci, eq, zp, zv]
        exact lc_yAdd (by omega) (nm_r (nI_1 _) (hY post x1 h))
    · have zp' : ¬ ap (l * 4 + i) = 0 := by rw [zp]; exact lc_10
      obtain ⟨n', pr', va', cr', mo', ve', kl', er', ek', ep', ev', el', se', hn', R', hX, hY⟩ := ih (i + 1) (n + 1) (K + 1) 1 _ _ _ _ _ _ _ _ _ _ _ se (by omega) (by omega) (by omega) (lc_R_p (x := av (l * 4 + i)) (l := -1) hq (by omega) R) (fun i' g1 g2 q' h' e' => by
        rw [lc_lk_uf (hne i' g1 g2 q' h' e' _).1, lc_lk_uf (hne i' g1 g2 q' h' e' _).2]
        exact hu i' (by omega) g2 q' h' e') (Or.inl rfl)
      refine ⟨n', pr', va', cr', mo', ve', kl', er', ek', ep', ev', el', se', hn', lc_R_K (by omega) R', fun post hp => br_f hg ⟨hi, nm_r eqc ⟨hi, br_f (by rw [hci]; exact zp') ⟨hi, ?_⟩⟩⟩, fun post x1 h => ⟨hv, br_f hgy ⟨hi, br_f (by rw [hci]; exact zp') ⟨hi, hi, hi, ?_⟩⟩⟩⟩
      · rw [hci]
        exact lc_xPutKey hq (by omega) (nm_r (nI_1 _) (hX post hp))
      · rw [hci, eq, zp]
        exact lc_yAdd (by omega) (nm_r (nI_1 _) (hY post x1 h))
theorem lc_A0 : lc_A ak ap av (upd (upd ac 0 0) 1 0) := by
  intro l hl
  refine ⟨0, by omega, ?_, fun i hi => absurd hi (by omega)⟩
  by_cases e : l = 1
  · rw [e]; rfl
  · have e : l = 0 := by omega
    rw [e]; rfl
theorem lc_fr {B K : Nat} (h1 : N ≤ B) (h2 : n + lc_pc pr 16 ≤ 76) (h3 : lc_R n N K pr va cr mo ve kl op ov er ek ep ev ba el) : lc_Rel B K ((nI n), 0, (nI N), od, tm, pr, va, cr, mo, ve, kl, op, ov, er, ek, ep, ev, ck, cy, cm, cn, ak, ap, av, (upd (upd ac 0 0) 1 0), gr, tt, ex) (od, (nI N), (nI n), 0, tm, ba, er, ek, ep, ev, el, se, co, ak, ap, av, (upd (upd ac 0 0) 1 0), gr, tt, ex) :=
  lc_mk (c := 0) h1 h2 h3 ⟨by omega, fun i hi => absurd hi (by omega)⟩ lc_A0
theorem lc_fin {k l : Nat} {x1 : Int32} {V : SY} (hk : k + 5 ≤ 2560) (hn : n ≤ 56) (hl : l < 2) (h1 : N ≤ k) (h2 : n + lc_pc pr 16 ≤ 76) (h3 : lc_R n N (16 * k) pr va cr mo ve kl op ov er ek ep ev ba el) (h5 : lc_A ak ap av ac)
    (HY : ∀ post : Int32 → SY → Prop, wY_commit_57 post x1 (nI l) od (nI N) (nI n) (nI c) tm ba er ek ep ev el se co ak ap av ac gr tt ex → wpY_commit post V) :
    wX_commit_27 (fun r u' => wpY_commit (fun r' v' => r' = r ∧ i_Rel (k + 5) u' v') V) x1 (nI l) (nI n) (nI c) (nI N) od tm pr va cr mo ve kl op ov er ek ep ev ck cy cm cn ak ap av ac gr tt ex := by
  obtain ⟨m, hm, hac, hL⟩ := h5 l hl
  have hv : vp_in (nI l) 2 := vp_in_nI hl (by decide)
  have hc : (nI l).toNatClampNeg = l := nI_clamp (by omega)
  have ee : nI (l * 4) + ac (nI l).toNatClampNeg = nI (l * 4 + m) := by rw [hc, hac, nI_add]
  unfold wX_commit_27 wpX_carryOut wpX_listChanges
  refine nm_r (lc_ix40 l) ⟨hv, nm_r ee ⟨m + 1, ?_⟩⟩
  rcases lc_changes (n := n) (c := c) (N := N) (od := od) (tm := tm) (pr := pr) (va := va) (cr := cr) (mo := mo) (ve := ve) (kl := kl) (op := op) (ov := ov) (er := er) (ek := ek) (ep := ep) (ev := ev) (ck := ck) (cy := cy) (cm := cm) (cn := cn) (ak := ak) (ap := ap) (av := av) (ac := ac) (gr := gr) (tt := tt) (ex := ex) hl hm hL m 0 (by omega) with ⟨⟨i', g1, g2, g3⟩, hX⟩ | ⟨g, hX⟩
  · obtain ⟨n', pr', va', cr', mo', ve', kl', er', ek', ep', ev', el', se', hn', R', hX2, hY2⟩ := lc_carry (c := c) (od := od) (tm := tm) (op := op) (ov := ov) (ck := ck) (cy := cy) (cm := cm) (cn := cn) (gr := gr) (tt := tt) (ex := ex) (ba := ba) (co := co) hl hm hac hL (show N + 1 < 2 ^ 31 by omega) m 0 n (16 * k) 0 pr va cr mo ve kl er ek ep ev el se (by omega) (by omega) (by omega) (lc_R_b (by omega) h3) (fun _ _ _ q hq _ => lc_lk_r n fun i hi _ => ⟨fun _ => Int32.le_trans (h3.1 i hi) (nI_le (by omega) (by omega)), fun _ => h3.1 i hi⟩) (Or.inr ⟨rfl, i', g1, g2, g3⟩)
    have hpc := lc_pc_le pr' 16
    refine hX _ (br_f lc_10 (nm_r (nI_1 N) (nm_r (lc_ix40 l) ⟨hv, nm_r ee ⟨m + 1, hX2 _ ?_⟩⟩)))
    have hW : ∀ post : Int32 → SY → Prop, wY_commit_158 post x1 od (nI (N + 1)) (nI n') (nI c) tm ba er' ek' ep' ev' el' se' co ak ap av ac gr tt ex → wpY_commit post V := fun post h => HY _ (nm_r (nI_1 N) (nm_r (lc_ix40 l) ⟨m + 1, hY2 _ _ h⟩))
    by_cases z : x1 = 0
    · exact nm_e (nm_e (br_t z (hW _ (nm_e (nm_e (br_t z ⟨rfl, lc_i (B := k + 5) (K := 16 * k + m) (by omega) (by omega) (lc_fr (by omega) (by omega) R')⟩))))))
    · exact nm_e (nm_e (br_f z (hW _ (nm_e (nm_e (br_f z ⟨rfl, lc_i (B := k + 5) (K := 16 * k + m) (by omega) (by omega) (lc_fr (by omega) (by omega) R')⟩))))))
  · obtain ⟨s1, hY2⟩ := lc_actIdle (n := n) (c := c) (N := N) (od := od) (tm := tm) (ba := ba) (er := er) (ek := ek) (ep := ep) (ev := ev) (el := el) (co := co) (ak := ak) (ap := ap) (av := av) (ac := ac) (gr := gr) (tt := tt) (ex := ex) (x3 := nI (N + 1)) hl hm hac hL h3 (by omega) (by omega) m 0 se (by omega) g
    refine hX _ (br_t rfl ?_)
    have hW : ∀ post : Int32 → SY → Prop, wY_commit_158 post x1 od (nI N) (nI n) (nI c) tm ba er ek ep ev el s1 co ak ap av ac gr tt ex → wpY_commit post V := fun post h => HY _ (nm_r (nI_1 N) (nm_r (lc_ix40 l) ⟨m + 1, hY2 _ _ h⟩))
    by_cases z : x1 = 0
    · exact nm_e (nm_e (br_t z (hW _ (nm_e (nm_e (br_t z ⟨rfl, lc_i (B := k + 5) (K := 16 * k) (by omega) (by omega) (lc_fr (by omega) (by omega) h3)⟩))))))
    · exact nm_e (nm_e (br_f z (hW _ (nm_e (nm_e (br_f z ⟨rfl, lc_i (B := k + 5) (K := 16 * k) (by omega) (by omega) (lc_fr (by omega) (by omega) h3)⟩))))))
end
theorem i_vc_commit {k : Nat} {u : SX} {v : SY} (I : i_Rel k u v) (hk : k + 5 ≤ 2560) : wpX_commit (fun r u' => wpY_commit (fun r' v' => r' = r ∧ i_Rel (k + 5) u' v') v) u := by
  obtain ⟨n, c, N, od, tm, pr, va, cr, mo, ve, kl, op, ov, er, ek, ep, ev, ck, cy, cm, cn, ak, ap, av, ac, gr, tt, ex, ba, el, se, co, rfl, rfl, h1, h2, h3, h4, h5⟩ := I
  by_cases a : n ≤ 56
  · have a' : nI n ≤ 56 := nI_le (b := 56) a (by decide)
    obtain ⟨r, s1, hr, hX, hY⟩ := lc_conds (n := n) (c := c) (N := N) (od := od) (tm := tm) (pr := pr) (va := va) (cr := cr) (mo := mo) (ve := ve) (kl := kl) (op := op) (ov := ov) (er := er) (ek := ek) (ep := ep) (ev := ev) (ck := ck) (cy := cy) (cm := cm) (cn := cn) (ak := ak) (ap := ap) (av := av) (ac := ac) (gr := gr) (tt := tt) (ex := ex) (ba := ba) (el := el) h3 (by omega) h4 c 0 se (by omega)
    refine br_t a' ⟨c + 1, hX _ ?_⟩
    rcases hr with rfl | rfl
    · exact br_t rfl (lc_fin (l := 1) (se := s1) hk a (by decide) h1 h2 h3 h5 (fun post h => br_t a' ⟨c + 1, hY _ (br_t (Int32.le_refl _) (br_t rfl h))⟩))
    · exact br_f lc_10 (lc_fin (l := 0) (se := s1) hk a (by decide) h1 h2 h3 h5 (fun post h => br_t a' ⟨c + 1, hY _ (br_t (Int32.le_refl _) (br_f lc_10 h))⟩))
  · have a' : ¬ nI n ≤ 56 := nI_ge (b := n) (a := 56) (by omega) (by omega)
    exact br_f a' (br_f a' ⟨rfl, i_up (lc_mk h1 h2 h3 h4 h5)⟩)
end
