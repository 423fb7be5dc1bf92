section
variable {rc cc sl nw no : Int32} {ops o1 o2 o3 sz st pr pc rg wk jn sd br io cp cl hd ct wt wc rr ab dx ox : Nat → Int32}
theorem fd_X_leave {W : Int32 → Nat → Prop} {sp : Nat → Int64} {x : Int32} (hV : fd_V W sp wt wc) (hx : vp_in x 12) : ∃ wt' wc', fd_lv wt wc wt' wc' x.toNatClampNeg ∧ ∀ post : SX → Prop, post (rc, cc, sl, nw, no, ops, o1, o2, o3, sz, st, pr, pc, rg, wk, jn, sd, br, io, cp, cl, hd, ct, wt', wc', rr, ab, dx, ox) → wpX_leaveChannels post (rc, cc, sl, nw, no, ops, o1, o2, o3, sz, st, pr, pc, rg, wk, jn, sd, br, io, cp, cl, hd, ct, wt, wc, rr, ab, dx, ox) x := by
  obtain ⟨wt', wc', _, h2, h3⟩ := fd_X_lvo (rc := rc) (cc := cc) (sl := sl) (nw := nw) (no := no) (ops := ops) (o1 := o1) (o2 := o2) (o3 := o3) (sz := sz) (st := st) (pr := pr) (pc := pc) (rg := rg) (wk := wk) (jn := jn) (sd := sd) (br := br) (io := io) (cp := cp) (cl := cl) (hd := hd) (ct := ct) (rr := rr) (ab := ab) (dx := dx) (ox := ox) hx 4 0 wt wc rfl (by
    intro c' _ h4
    obtain ⟨L, hQ, hH, hc⟩ := hV (nI c') (vp_in_nI h4 (by omega))
    rw [nI_clamp (by omega)] at hH hc
    exact ⟨L, fun g hg => ((hQ.1 g).mp hg).1, fd_Q_len hQ, hH, hc⟩)
  refine ⟨wt', wc', fun y hy => h2 y.toNatClampNeg (Nat.zero_le _) (fd_lt hy), fun post H => ?_⟩
  unfold wpX_leaveChannels
  exact ⟨5, h3 post H⟩
theorem fd_X_release {W : Int32 → Nat → Prop} {sp : Nat → Int64} {x : Int32} (hV : fd_V W sp wt wc) (hx : vp_in x 12) (hr : vp_in rc 12) : ∃ wt' wc', fd_lv wt wc wt' wc' x.toNatClampNeg ∧ ∀ post : SX → Prop, post (rc + 1, cc, sl, nw, no, ops, o1, o2, o3, sz, upd st x.toNatClampNeg 1, pr, upd pc x.toNatClampNeg (pc x.toNatClampNeg + 1), rg, wk, jn, sd, br, io, cp, cl, hd, ct, wt', wc', upd rr rc.toNatClampNeg x, ab, dx, ox) → wpX_release post (rc, cc, sl, nw, no, ops, o1, o2, o3, sz, st, pr, pc, rg, wk, jn, sd, br, io, cp, cl, hd, ct, wt, wc, rr, ab, dx, ox) x := by
  obtain ⟨wt', wc', h1, h2⟩ := fd_X_leave (rc := rc) (cc := cc) (sl := sl) (nw := nw) (no := no) (ops := ops) (o1 := o1) (o2 := o2) (o3 := o3) (sz := sz) (st := st) (pr := pr) (pc := pc) (rg := rg) (wk := wk) (jn := jn) (sd := sd) (br := br) (io := io) (cp := cp) (cl := cl) (hd := hd) (ct := ct) (rr := rr) (ab := ab) (dx := dx) (ox := ox) hV hx
  refine ⟨wt', wc', h1, fun post H => ?_⟩
  unfold wpX_release
  exact h2 _ (And.intro hx ⟨hx, nm_e (fd_X_toRow hx hr H)⟩)
theorem fd_X_waitAt {post : SX → Prop} {x y : Int32} (hx : vp_in x 12) (hy : vp_in y 4) (hw : vp_in (wc y.toNatClampNeg) 12) (H : post (rc, cc, sl, nw, no, ops, o1, o2, o3, sz, upd st x.toNatClampNeg 3, pr, pc, rg, wk, upd jn x.toNatClampNeg (-1), sd, br, io, cp, cl, hd, ct, upd wt (12 * y.toNatClampNeg + (wc y.toNatClampNeg).toNatClampNeg) x, upd wc y.toNatClampNeg (wc y.toNatClampNeg + 1), rr, ab, dx, ox)) : wpX_waitAt post (rc, cc, sl, nw, no, ops, o1, o2, o3, sz, st, pr, pc, rg, wk, jn, sd, br, io, cp, cl, hd, ct, wt, wc, rr, ab, dx, ox) x y :=
  And.intro hx (nm_e ⟨hx, nm_e ⟨hy, (fd_c12 hy hw).1, nm_r (by rw [(fd_c12 hy hw).2]) ⟨hy, hy, nm_e H⟩⟩⟩)
theorem fd_X_hold {post : SX → Prop} {y v : Int32} (hy : vp_in y 4) (hc : vp_in (ct y.toNatClampNeg) 3) (H : post (rc, cc, sl, nw, no, ops, o1, o2, o3, sz, st, pr, pc, rg, wk, jn, sd, br, io, cp, cl, upd hd (3 * y.toNatClampNeg + (ct y.toNatClampNeg).toNatClampNeg) v, upd ct y.toNatClampNeg (ct y.toNatClampNeg + 1), wt, wc, rr, ab, dx, ox)) : wpX_hold post (rc, cc, sl, nw, no, ops, o1, o2, o3, sz, st, pr, pc, rg, wk, jn, sd, br, io, cp, cl, hd, ct, wt, wc, rr, ab, dx, ox) y v :=
  And.intro hy ⟨(fd_c3' hy hc).1, nm_r (by rw [(fd_c3' hy hc).2]) ⟨hy, hy, nm_e H⟩⟩
theorem fd_X_dl {post : SX → Prop} {y : Int32} (hy : vp_in y 4) {m : Nat} (hm : m < 3) (hc : ct y.toNatClampNeg = nI m) (H : post (rc, cc, sl, nw, no, ops, o1, o2, o3, sz, st, pr, pc, rg, wk, jn, sd, br, io, cp, cl, fd_sh hd (3 * y.toNatClampNeg) m, ct, wt, wc, rr, ab, dx, ox)) : ∀ d i : Nat, i + d = m → wX_dropFirstNumber_12 post y rc cc sl nw no (d + 1) (nI i) ops o1 o2 o3 sz st pr pc rg wk jn sd br io cp cl (fd_sh hd (3 * y.toNatClampNeg) i) ct wt wc rr ab dx ox := by
  intro d
  have hy4 := fd_lt hy
  induction d with
  | zero =>
    intro i hi
    have e : i = m := by omega
    subst e
    exact And.intro hy (br_t (by rw [hc]; exact Int32.le_refl _) H)
  | succ d ih =>
    intro i hi
    have ix := fd_c3' hy (vp_in_nI (n := i) (N := 3) (by omega) (by omega))
    rw [nI_clamp (by omega)] at ix
    have e1 : y * 3 + nI i = nI (3 * y.toNatClampNeg + i) := by rw [← ix.2]; exact fd_eq ix.1
    refine And.intro hy (br_f (by rw [hc]; exact nI_ge (by omega) (by omega)) ?_)
    rw [e1, nI_1, nI_clamp (by omega), nI_clamp (by omega)]
    exact ⟨vp_in_nI (by omega) (by omega), vp_in_nI (by omega) (by omega), nm_r (fd_sh_s hd (3 * y.toNatClampNeg) i) (nm_r (nI_1 i) (ih (i + 1) (by omega)))⟩
theorem fd_X_drop {post : SX → Prop} {y : Int32} (hy : vp_in y 4) {m : Nat} (hm : m < 3) (hc : ct y.toNatClampNeg = nI (m + 1)) (H : post (rc, cc, sl, nw, no, ops, o1, o2, o3, sz, st, pr, pc, rg, wk, jn, sd, br, io, cp, cl, fd_sh hd (3 * y.toNatClampNeg) m, upd ct y.toNatClampNeg (nI m), wt, wc, rr, ab, dx, ox)) : wpX_dropFirstNumber post (rc, cc, sl, nw, no, ops, o1, o2, o3, sz, st, pr, pc, rg, wk, jn, sd, br, io, cp, cl, hd, ct, wt, wc, rr, ab, dx, ox) y := by
  refine And.intro hy ⟨hy, nm_r (e' := upd ct y.toNatClampNeg (nI m)) (by rw [hc, nI_pred]) ⟨m + 1, ?_⟩⟩
  have q := fd_X_dl (rc := rc) (cc := cc) (sl := sl) (nw := nw) (no := no) (ops := ops) (o1 := o1) (o2 := o2) (o3 := o3) (sz := sz) (st := st) (pr := pr) (pc := pc) (rg := rg) (wk := wk) (jn := jn) (sd := sd) (br := br) (io := io) (cp := cp) (cl := cl) (hd := hd) (ct := upd ct y.toNatClampNeg (nI m)) (wt := wt) (wc := wc) (rr := rr) (ab := ab) (dx := dx) (ox := ox) hy hm pk_us H m 0 (Nat.zero_add m)
  rw [fd_sh_0] at q
  exact q
theorem fd_X_bdl {post : SX → Prop} {x z : Int32} (hx : vp_in x 3) (hz : vp_in z 12) {m : Nat} (hm : m < 12) (hc : rc = nI m) (H : post (rc, cc, sl, nw, no, ops, o1, o2, o3, sz, upd st z.toNatClampNeg 2, pr, pc, rg, wk, jn, sd, br, io, cp, cl, hd, ct, wt, wc, fd_sh rr 0 m, upd ab x.toNatClampNeg z, upd dx x.toNatClampNeg 0, ox)) : ∀ d i : Nat, i + d = m → wX_board_37 post x z rc cc sl nw no (d + 1) (nI i) ops o1 o2 o3 sz st pr pc rg wk jn sd br io cp cl hd ct wt wc (fd_sh rr 0 i) ab dx ox := by
  intro d
  induction d with
  | zero =>
    intro i hi
    have e : i = m := by omega
    subst e
    exact br_t (by rw [hc]; exact Int32.le_refl _) ⟨hz, nm_e ⟨hx, nm_e ⟨hx, nm_e H⟩⟩⟩
  | succ d ih =>
    intro i hi
    refine br_f (by rw [hc]; exact nI_ge (by omega) (by omega)) ?_
    have q := fd_sh_s rr 0 i
    rw [Nat.zero_add] at q
    rw [nI_1, nI_clamp (by omega), nI_clamp (by omega)]
    exact ⟨vp_in_nI (by omega) (by omega), vp_in_nI (by omega) (by omega), nm_r q (nm_e (ih (i + 1) (by omega)))⟩
theorem fd_X_board {post : SX → Prop} {x z : Int32} (hx : vp_in x 3) (hz : vp_in z 12) (ha : ab x.toNatClampNeg = -1) (h0 : rr 0 = z) {m : Nat} (hm : m < 12) (hc : rc = nI (m + 1)) (H : post (nI m, cc, sl, nw, no, ops, o1, o2, o3, sz, upd st z.toNatClampNeg 2, pr, pc, rg, wk, jn, sd, br, io, cp, cl, hd, ct, wt, wc, fd_sh rr 0 m, upd ab x.toNatClampNeg z, upd dx x.toNatClampNeg 0, ox)) : wpX_board post (rc, cc, sl, nw, no, ops, o1, o2, o3, sz, st, pr, pc, rg, wk, jn, sd, br, io, cp, cl, hd, ct, wt, wc, rr, ab, dx, ox) x := by
  refine And.intro hx (br_t ha (br_f (by rw [hc]; exact nI_ne0 (by omega) (by omega)) (nm_r h0 (nm_r (e' := nI m) (by rw [hc, nI_pred]) ⟨m + 1, ?_⟩))))
  have q := fd_X_bdl (rc := nI m) (cc := cc) (sl := sl) (nw := nw) (no := no) (ops := ops) (o1 := o1) (o2 := o2) (o3 := o3) (sz := sz) (st := st) (pr := pr) (pc := pc) (rg := rg) (wk := wk) (jn := jn) (sd := sd) (br := br) (io := io) (cp := cp) (cl := cl) (hd := hd) (ct := ct) (wt := wt) (wc := wc) (rr := rr) (ab := ab) (dx := dx) (ox := ox) hx hz hm rfl H m 0 (Nat.zero_add m)
  rw [fd_sh_0] at q
  exact q
theorem fd_X_fwl {W : Nat → Prop} {sp : Nat → Int64} {L : List Nat} {y : Int32} (b : Int32) (hQ : fd_Q W sp L) (hH : fd_H wt (12 * y.toNatClampNeg) L) (hc : wc y.toNatClampNeg = nI L.length) (hy : vp_in y 4) : ∀ d i : Nat, i + d = L.length → (∀ j, (hj : j < L.length) → j < i → ¬ sd (L[j]'hj) = b) → ∃ r, fd_Mi (fun g => W g ∧ sd g = b) sp 12 r ∧ ∀ post : Int32 → Prop, post r → wX_firstWaiting_2 post y b rc cc sl nw no ops o1 o2 o3 sz st pr pc rg wk jn sd br io cp cl hd ct wt wc rr ab dx ox (d + 1) (nI i) := by
  have hl := fd_Q_len hQ
  intro d
  induction d with
  | zero =>
    intro i hi hb
    refine ⟨-1, fd_M_none (K := fun g => sd g = b) hQ (fun j hj => hb j hj (by omega)), fun post H => And.intro hy (br_t ?_ H)⟩
    rw [hc, show i = L.length by omega]; exact Int32.le_refl _
  | succ d ih =>
    intro i hi hb
    have hi' : i < L.length := by omega
    have ix := fd_c12 hy (vp_in_nI (n := i) (N := 12) (by omega) (by omega))
    rw [nI_clamp (by omega)] at ix
    have hg := ((hQ.1 _).mp (List.getElem_mem hi')).1
    have hgt : ¬ wc y.toNatClampNeg ≤ nI i := by rw [hc]; exact nI_ge (by omega) (by omega)
    have eg : wt (y * 12 + nI i).toNatClampNeg = nI (L[i]'hi') := by rw [ix.2]; exact hH i hi'
    by_cases e : sd (L[i]'hi') = b
    · refine ⟨nI (L[i]'hi'), fd_M_first (K := fun g => sd g = b) hQ i hi' e hb, fun post H => And.intro hy (br_f hgt ⟨ix.1, nm_r eg ⟨vp_in_nI hg (by omega), br_t ?_ H⟩⟩)⟩
      rw [nI_clamp (by omega)]; exact e
    · obtain ⟨r, h1, h2⟩ := ih (i + 1) (by omega) (fun j hj l => by
        by_cases q : j = i
        · subst q; exact e
        · exact hb j hj (by omega))
      refine ⟨r, h1, fun post H => And.intro hy (br_f hgt ⟨ix.1, nm_r eg ⟨vp_in_nI hg (by omega), br_f ?_ (nm_r (nI_1 i) (h2 post H))⟩⟩)⟩
      rw [nI_clamp (by omega)]; exact e
theorem fd_X_fw {W : Int32 → Nat → Prop} {sp : Nat → Int64} {y : Int32} (b : Int32) (hV : fd_V W sp wt wc) (hy : vp_in y 4) : ∃ r, fd_Mi (fun g => W y g ∧ sd g = b) sp 12 r ∧ ∀ post : Int32 → Prop, post r → wpX_firstWaiting post (rc, cc, sl, nw, no, ops, o1, o2, o3, sz, st, pr, pc, rg, wk, jn, sd, br, io, cp, cl, hd, ct, wt, wc, rr, ab, dx, ox) y b := by
  obtain ⟨L, hQ, hH, hc⟩ := hV y hy
  obtain ⟨r, h1, h2⟩ := fd_X_fwl (rc := rc) (cc := cc) (sl := sl) (nw := nw) (no := no) (ops := ops) (o1 := o1) (o2 := o2) (o3 := o3) (sz := sz) (st := st) (pr := pr) (pc := pc) (rg := rg) (wk := wk) (jn := jn) (sd := sd) (br := br) (io := io) (cp := cp) (cl := cl) (hd := hd) (ct := ct) (rr := rr) (ab := ab) (dx := dx) (ox := ox) b hQ hH hc hy L.length 0 (Nat.zero_add _) (fun j hj l => absurd l (Nat.not_lt_zero j))
  refine ⟨r, h1, fun post H => ?_⟩
  unfold wpX_firstWaiting
  exact ⟨_, h2 post H⟩
end
theorem fd_c0 {x : Int32} {n : Nat} (h : vp_in x n) : 0 < x ↔ ¬ x = 0 := by
  obtain ⟨j, hj, rfl⟩ := nI_of (fd_nn h)
  rw [← nI_0, nI_ltI (by omega) hj, nI_eq hj (by omega)]
  omega
theorem fd_c0' {x : Int32} {n : Nat} (h : vp_in x n) : x ≤ 0 ↔ x = 0 := by
  rw [← Int32.not_lt, fd_c0 h]
  exact Decidable.not_not
def fd_gv (ct cl r : Int32) : Prop := ¬ ct = 0 ∨ ¬ cl = 0 ∨ ¬ r = -1
section
variable {rc cc sl nw no : Int32} {ops o1 o2 o3 sz st pr pc rg wk jn sd br io cp cl hd ct wt wc rr ab dx ox : Nat → Int32}
theorem fd_X_ga {y r : Int32} (hf : ∀ post : Int32 → Prop, post r → wpX_firstWaiting post (rc, cc, sl, nw, no, ops, o1, o2, o3, sz, st, pr, pc, rg, wk, jn, sd, br, io, cp, cl, hd, ct, wt, wc, rr, ab, dx, ox) y 1) (hy : vp_in y 4) (hc : vp_in (ct y.toNatClampNeg) 4) {post : Int32 → Prop} (h1 : fd_gv (ct y.toNatClampNeg) (cl y.toNatClampNeg) r → post 1) (h0 : ¬ fd_gv (ct y.toNatClampNeg) (cl y.toNatClampNeg) r → post 0) : wpX_givesAtOnce post (rc, cc, sl, nw, no, ops, o1, o2, o3, sz, st, pr, pc, rg, wk, jn, sd, br, io, cp, cl, hd, ct, wt, wc, rr, ab, dx, ox) y := by
  refine And.intro hy ⟨fun q => h1 (Or.inl ((fd_c0 hc).mp q)), fun q => ⟨hy, fun q1 => hf _ ?_, fun q1 => h1 (Or.inr (Or.inl q1))⟩⟩
  refine br_c (fun q2 => h0 ?_) (fun q2 => h1 (Or.inr (Or.inr q2)))
  rintro (z | z | z)
  · exact q ((fd_c0 hc).mpr z)
  · exact z q1
  · exact z q2
end
