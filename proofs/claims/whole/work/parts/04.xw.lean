def fd_aw (z : Int32) : Prop := z = 1 ∨ z = 2 ∨ z = 3 ∨ z = 4
theorem fd_aw_i (z : Int32) : fd_aw z ↔ (¬ z < 1 ∧ ¬ 4 < z) := by
  constructor
  · rintro (e | e | e | e) <;> subst e <;> decide
  · rintro ⟨h1, h2⟩
    have h0 : ¬ z < 0 := fun q => h1 (Int32.lt_trans q (by decide))
    obtain ⟨j, hj, rfl⟩ := nI_of2 (M := 4) (n := 4) (by decide) h0 (Int32.not_lt.mp h2)
    have j0 : j ≠ 0 := fun e => h1 (by rw [e]; decide)
    have : j = 1 ∨ j = 2 ∨ j = 3 ∨ j = 4 := by omega
    rcases this with e | e | e | e <;> subst e
    · exact Or.inl rfl
    · exact Or.inr (Or.inl rfl)
    · exact Or.inr (Or.inr (Or.inl rfl))
    · exact Or.inr (Or.inr (Or.inr rfl))
theorem fd_bl {x : Int32} {n : Nat} (hn : n < 2 ^ 31) : vp_in x n ↔ (¬ x < 0 ∧ ¬ nI n ≤ x) := by
  constructor
  · intro h
    obtain ⟨j, hj, rfl⟩ := vp_in_of h hn
    exact ⟨fd_nn h, nI_ge hj hn⟩
  · rintro ⟨h0, h1⟩
    obtain ⟨j, hj, rfl⟩ := nI_of h0
    rw [nI_leI hn hj] at h1
    exact vp_in_nI (by omega) hn
theorem fd_wi {x : Int32} {n : Nat} (hn : n + 1 < 2 ^ 31) : vp_in x (n + 1) ↔ (¬ x < 0 ∧ ¬ nI n < x) := by
  constructor
  · intro h
    obtain ⟨j, hj, rfl⟩ := vp_in_of h hn
    exact ⟨fd_nn h, nI_nlt (by omega) (by omega)⟩
  · rintro ⟨h0, h1⟩
    obtain ⟨j, hj, rfl⟩ := nI_of h0
    rw [nI_ltI (by omega) hj] at h1
    exact vp_in_nI (by omega) hn
theorem fd_X_bl {x N : Int32} {post : Int32 → Prop} (n : Nat) (hn : n < 2 ^ 31) (hN : N = nI n) (h1 : vp_in x n → post 1) (h0 : ¬ vp_in x n → post 0) : wpX_isBelow post x N := by
  subst hN
  exact And.intro (fun q => h0 (fun z => fd_nn z q)) (fun q => ⟨fun q' => h0 (fun z => ((fd_bl hn).mp z).2 q'), fun q' => h1 ((fd_bl hn).mpr ⟨q, q'⟩)⟩)
theorem fd_Y_wi {x N : Int32} {post : Int32 → Prop} (n : Nat) (hn : n + 1 < 2 ^ 31) (hN : N = nI n) (h1 : vp_in x (n + 1) → post 1) (h0 : ¬ vp_in x (n + 1) → post 0) : wpY_within post x 0 N := by
  subst hN
  exact And.intro (fun q => h0 (fun z => fd_nn z q)) (fun q => ⟨fun q' => h0 (fun z => ((fd_wi hn).mp z).2 q'), fun q' => h1 ((fd_wi hn).mpr ⟨q, q'⟩)⟩)
/-- a shift to the left by one of the m cells behind a -/
def fd_sh (h : Nat → Int32) (a m : Nat) : Nat → Int32 := fun j => if a ≤ j ∧ j < a + m then h (j + 1) else h j
theorem fd_sh_0 (h : Nat → Int32) (a : Nat) : fd_sh h a 0 = h := by
  funext j
  exact if_neg (by omega)
theorem fd_sh_s (h : Nat → Int32) (a m : Nat) : upd (fd_sh h a m) (a + m) (fd_sh h a m (a + m + 1)) = fd_sh h a (m + 1) := by
  funext j
  unfold fd_sh upd
  by_cases e : j = a + m
  · subst e
    rw [if_pos rfl, if_neg (by omega), if_pos (by omega)]
  · rw [if_neg e]
    dsimp only
    by_cases q : a ≤ j ∧ j < a + m
    · rw [if_pos q, if_pos (by omega)]
    · rw [if_neg q, if_neg (by omega)]
theorem fd_H_u {a : Nat → Int32} {o : Nat} {L L' : List Nat} (h : fd_H a o L) (h' : fd_H a o L') (hl : ∀ g, g ∈ L → g < 12) (hl' : ∀ g, g ∈ L' → g < 12) (e : L.length = L'.length) : L = L' :=
  List.ext_getElem e (fun i h1 h2 => by
    have q := (h i h1).symm.trans (h' i h2)
    have b1 := hl _ (List.getElem_mem h1)
    have b2 := hl' _ (List.getElem_mem h2)
    exact (nI_eq (by omega) (by omega)).mp q)
section
variable {rc cc sl nw no : Int32} {ops o1 o2 o3 sz st pr pc rg wk jn sd br io cp cl hd ct wt wc rr ab dx ox : Nat → Int32}
theorem fd_X_aw {post : Int32 → Prop} {x : Int32} (hx : vp_in x 12) (h1 : fd_aw (st x.toNatClampNeg) → post 1) (h0 : ¬ fd_aw (st x.toNatClampNeg) → post 0) : wpX_isAtWork post (rc, cc, sl, nw, no, ops, o1, o2, o3, sz, st, pr, pc, rg, wk, jn, sd, br, io, cp, cl, hd, ct, wt, wc, rr, ab, dx, ox) x :=
  And.intro hx ⟨fun q => h0 (fun z => ((fd_aw_i _).mp z).1 q), fun q => ⟨hx, fun q' => h0 (fun z => ((fd_aw_i _).mp z).2 q'), fun q' => h1 ((fd_aw_i _).mpr ⟨q, q'⟩)⟩⟩
theorem fd_X_toRow {post : SX → Prop} {x : Int32} (hx : vp_in x 12) (hr : vp_in rc 12) (H : post (rc + 1, cc, sl, nw, no, ops, o1, o2, o3, sz, upd st x.toNatClampNeg 1, pr, pc, rg, wk, jn, sd, br, io, cp, cl, hd, ct, wt, wc, upd rr rc.toNatClampNeg x, ab, dx, ox)) : wpX_toRow post (rc, cc, sl, nw, no, ops, o1, o2, o3, sz, st, pr, pc, rg, wk, jn, sd, br, io, cp, cl, hd, ct, wt, wc, rr, ab, dx, ox) x :=
  And.intro hx (nm_e ⟨hr, nm_e (nm_e H)⟩)
theorem fd_X_fill {post : SX → Prop} {x v : Int32} (hx : vp_in x 12) (hi : vp_in (io x.toNatClampNeg) 3) (H : post (rc, cc, sl, nw, no, ops, o1, o2, o3, sz, st, pr, pc, upd rg (3 * x.toNatClampNeg + (io x.toNatClampNeg).toNatClampNeg) v, wk, jn, sd, br, io, cp, cl, hd, ct, wt, wc, rr, ab, dx, ox)) : wpX_fillRegister post (rc, cc, sl, nw, no, ops, o1, o2, o3, sz, st, pr, pc, rg, wk, jn, sd, br, io, cp, cl, hd, ct, wt, wc, rr, ab, dx, ox) x v :=
  And.intro hx ⟨(fd_3' hx hi).1, nm_r (by rw [(fd_3' hx hi).2]) H⟩
theorem fd_X_lvi {x y : Int32} (hx : vp_in x 12) (hy : vp_in y 4) : ∀ (rest K : List Nat) (i : Nat) (wt : Nat → Int32), (∀ g, g ∈ rest → g < 12) → fd_H wt (12 * y.toNatClampNeg) K → fd_H wt (12 * y.toNatClampNeg + i) rest → K.length ≤ i → i + rest.length ≤ 12 → wc y.toNatClampNeg = nI (i + rest.length) →
    ∃ wt', fd_H wt' (12 * y.toNatClampNeg) (K ++ rest.filter (fun g => decide (g ≠ x.toNatClampNeg))) ∧ (∀ j, (j < 12 * y.toNatClampNeg ∨ 12 * y.toNatClampNeg + 12 ≤ j) → wt' j = wt j) ∧ ∀ (post : SX → Prop) (J2 : Int32 → (Nat → Int32) → (Nat → Int32) → (Nat → Int32) → (Nat → Int32) → (Nat → Int32) → (Nat → Int32) → (Nat → Int32) → (Nat → Int32) → (Nat → Int32) → (Nat → Int32) → (Nat → Int32) → (Nat → Int32) → (Nat → Int32) → (Nat → Int32) → (Nat → Int32) → (Nat → Int32) → (Nat → Int32) → (Nat → Int32) → (Nat → Int32) → (Nat → Int32) → (Nat → Int32) → (Nat → Int32) → (Nat → Int32) → (Nat → Int32) → Prop),
      J2 (y + 1) ops o1 o2 o3 sz st pr pc rg wk jn sd br io cp cl hd ct wt' (upd wc y.toNatClampNeg (nI (K ++ rest.filter (fun g => decide (g ≠ x.toNatClampNeg))).length)) rr ab dx ox → wX_leaveChannels_12 post J2 x y rc cc sl nw no (rest.length + 1) (nI K.length) (nI i) ops o1 o2 o3 sz st pr pc rg wk jn sd br io cp cl hd ct wt wc rr ab dx ox := by
  intro rest
  induction rest with
  | nil =>
    intro K i wt _ hK _ _ _ hc
    refine ⟨wt, by simpa using hK, fun j _ => rfl, fun post J2 H => ?_⟩
    refine And.intro hy (br_t ?_ ⟨hy, nm_e (nm_e ?_)⟩)
    · rw [hc]; exact Int32.le_refl _
    · simpa using H
  | cons g r ih =>
    intro K i wt hr hK hR hl hn hc
    have hl' : (g :: r).length = r.length + 1 := rfl
    have hi : i < 12 := by omega
    have ix := fd_c12 hy (vp_in_nI hi (by omega))
    rw [nI_clamp (by omega)] at ix
    have eg : wt (12 * y.toNatClampNeg + i) = nI g := hR 0 (by omega)
    have hg := hr g List.mem_cons_self
    have hr' : ∀ q, q ∈ r → q < 12 := fun q hq => hr q (List.mem_cons_of_mem g hq)
    have hgt : ¬ wc y.toNatClampNeg ≤ nI i := by rw [hc]; exact nI_ge (by omega) (by omega)
    have hc' : wc y.toNatClampNeg = nI (i + 1 + r.length) := by rw [hc]; congr 1; omega
    by_cases e : g = x.toNatClampNeg
    · have hRt : fd_H wt (12 * y.toNatClampNeg + (i + 1)) r := by
        intro j hj
        have q := hR (j + 1) (by omega)
        rw [show 12 * y.toNatClampNeg + (i + 1) + j = 12 * y.toNatClampNeg + i + (j + 1) by omega]
        exact q
      obtain ⟨wt', h1, h2, h3⟩ := ih K (i + 1) wt hr' hK hRt (by omega) (by omega) hc'
      have ef : (g :: r).filter (fun g => decide (g ≠ x.toNatClampNeg)) = r.filter (fun g => decide (g ≠ x.toNatClampNeg)) := by
        rw [List.filter_cons, if_neg (by simp [e])]
      rw [ef]
      refine ⟨wt', h1, h2, fun post J2 H => ?_⟩
      refine And.intro hy (br_f hgt ⟨ix.1, nm_r (show wt (y * 12 + nI i).toNatClampNeg = nI g by rw [ix.2]; exact eg) (br_t ?_ (nm_r (nI_1 i) (h3 post J2 H)))⟩)
      rw [e]; exact (fd_eq hx).symm
    · have hk : K.length < 12 := by omega
      have iy := fd_c12 hy (vp_in_nI hk (by omega))
      rw [nI_clamp (by omega)] at iy
      have hRt : fd_H (upd wt (12 * y.toNatClampNeg + K.length) (nI g)) (12 * y.toNatClampNeg + (i + 1)) r := by
        intro j hj
        have q := hR (j + 1) (by omega)
        rw [pk_un (by omega), show 12 * y.toNatClampNeg + (i + 1) + j = 12 * y.toNatClampNeg + i + (j + 1) by omega]
        exact q
      obtain ⟨wt', h1, h2, h3⟩ := ih (K ++ [g]) (i + 1) (upd wt (12 * y.toNatClampNeg + K.length) (nI g)) hr' (fd_H_app hK rfl) hRt (by simp; omega) (by omega) hc'
      have ef : K ++ (g :: r).filter (fun g => decide (g ≠ x.toNatClampNeg)) = (K ++ [g]) ++ r.filter (fun g => decide (g ≠ x.toNatClampNeg)) := by
        rw [List.filter_cons, if_pos (by simp [e])]; simp
      rw [ef]
      refine ⟨wt', h1, fun j hj => ?_, fun post J2 H => ?_⟩
      · rw [h2 j hj, pk_un (by omega)]
      refine And.intro hy (br_f hgt ⟨ix.1, nm_r (show wt (y * 12 + nI i).toNatClampNeg = nI g by rw [ix.2]; exact eg) (br_f ?_ ⟨iy.1, nm_r (show upd wt (y * 12 + nI K.length).toNatClampNeg (nI g) = upd wt (12 * y.toNatClampNeg + K.length) (nI g) by rw [iy.2]) (nm_r (e' := nI (K ++ [g]).length) (by rw [nI_1, List.length_append]; rfl) (nm_r (nI_1 i) (h3 post J2 H)))⟩)⟩)
      intro q
      exact e (by rw [← q, nI_clamp (by omega)])
theorem fd_X_lvo {x : Int32} (hx : vp_in x 12) : ∀ (d c : Nat) (wt wc : Nat → Int32), c + d = 4 → (∀ c', c ≤ c' → c' < 4 → ∃ L : List Nat, (∀ g, g ∈ L → g < 12) ∧ L.length ≤ 12 ∧ fd_H wt (12 * c') L ∧ wc c' = nI L.length) →
    ∃ wt' wc', (∀ c', c' < c → (∀ i, i < 12 → wt' (12 * c' + i) = wt (12 * c' + i)) ∧ wc' c' = wc c') ∧ (∀ c', c ≤ c' → c' < 4 → ∀ L : List Nat, (∀ g, g ∈ L → g < 12) → L.length ≤ 12 → fd_H wt (12 * c') L → wc c' = nI L.length → fd_H wt' (12 * c') (L.filter (fun g => decide (g ≠ x.toNatClampNeg))) ∧ wc' c' = nI (L.filter (fun g => decide (g ≠ x.toNatClampNeg))).length) ∧
      ∀ post : SX → Prop, post (rc, cc, sl, nw, no, ops, o1, o2, o3, sz, st, pr, pc, rg, wk, jn, sd, br, io, cp, cl, hd, ct, wt', wc', rr, ab, dx, ox) → wX_leaveChannels_2 post x rc cc sl nw no (d + 1) (nI c) ops o1 o2 o3 sz st pr pc rg wk jn sd br io cp cl hd ct wt wc rr ab dx ox := by
  intro d
  induction d with
  | zero =>
    intro c wt wc hc _
    refine ⟨wt, wc, fun c' _ => ⟨fun i _ => rfl, rfl⟩, fun c' h1 h2 => absurd h2 (by omega), fun post H => br_t ?_ H⟩
    rw [show c = 4 by omega]; decide
  | succ d ih =>
    intro c wt wc hc hL
    obtain ⟨L, hl1, hl2, hl3, hl4⟩ := hL c (Nat.le_refl c) (by omega)
    have hy : vp_in (nI c) 4 := vp_in_nI (by omega) (by omega)
    have ec : (nI c).toNatClampNeg = c := nI_clamp (by omega)
    have nf := List.length_filter_le (fun g => decide (g ≠ x.toNatClampNeg)) L
    obtain ⟨wt1, h1, h2, h3⟩ := fd_X_lvi (rc := rc) (cc := cc) (sl := sl) (nw := nw) (no := no) (ops := ops) (o1 := o1) (o2 := o2) (o3 := o3) (sz := sz) (st := st) (pr := pr) (pc := pc) (rg := rg) (wk := wk) (jn := jn) (sd := sd) (br := br) (io := io) (cp := cp) (cl := cl) (hd := hd) (ct := ct) (wc := wc) (rr := rr) (ab := ab) (dx := dx) (ox := ox) hx hy L [] 0 wt hl1 (fun i hi => absurd hi (Nat.not_lt_zero i)) (by rw [ec]; exact hl3) (Nat.le_refl 0) (by omega) (by rw [ec, hl4, Nat.zero_add])
    rw [ec, List.nil_append] at h1 h3
    rw [ec] at h2
    have hw1 : ∀ c', c' ≠ c → ∀ i, i < 12 → wt1 (12 * c' + i) = wt (12 * c' + i) := fun c' e i hi => h2 _ (by omega)
    obtain ⟨wt', wc', q1, q2, q3⟩ := ih (c + 1) wt1 (upd wc c (nI (L.filter (fun g => decide (g ≠ x.toNatClampNeg))).length)) (by omega) (by
      intro c' g1 g2
      obtain ⟨L', m1, m2, m3, m4⟩ := hL c' (by omega) g2
      exact ⟨L', m1, m2, fd_H_c m3 (fun i hi => hw1 c' (by omega) i (by omega)), by rw [pk_un (by omega)]; exact m4⟩)
    refine ⟨wt', wc', fun c' g => ⟨fun i hi => ?_, ?_⟩, fun c' g1 g2 L' m1 m2 m3 m4 => ?_, fun post H => ?_⟩
    · rw [(q1 c' (by omega)).1 i hi, hw1 c' (by omega) i hi]
    · rw [(q1 c' (by omega)).2, pk_un (by omega)]
    · by_cases e : c' = c
      · subst e
        have el : L' = L := fd_H_u m3 hl3 m1 hl1 ((nI_eq (by omega) (by omega)).mp (m4.symm.trans hl4))
        subst el
        exact ⟨fd_H_c h1 (fun i hi => (q1 c' (by omega)).1 i (by omega)), by rw [(q1 c' (by omega)).2, pk_us]⟩
      · exact q2 c' (by omega) g2 L' m1 m2 (fd_H_c m3 (fun i hi => hw1 c' e i (by omega))) (by rw [pk_un e]; exact m4)
    · refine br_f (nI_ge (b := 4) (by omega) (by decide)) ⟨L.length + 1, ?_⟩
      refine h3 post _ ?_
      rw [nI_1]
      exact q3 post H
end
