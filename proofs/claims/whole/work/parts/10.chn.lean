section
variable {rc cc sl nw no : Int32} {ops o1 o2 o3 sz st pr pc rg wk jn sd br io cp cl hd ct wt wc rr ab dx ox : Nat → Int32} {ss : Int64} {yy : Int32} {sp : Nat → Int64} {dy ly : Nat → Int32} {B s k0 : Nat}
theorem fd_snd {y : Int32} {g : Nat} (hF : fd_F ops o1 o2 o3 st pr pc rg jn sd br io g) (w : fd_wa ops o1 o2 st pr pc y g) : (sd g = 1 ↔ ops (fd_k pr pc g) = 6) ∧ (sd g = 0 ↔ ¬ ops (fd_k pr pc g) = 6) := by
  rcases (hF.2 w.1).2.2 with q | q | q | q
  · rw [q.1, q.2.2.1]; decide
  · rw [q.1, q.2.2.1]; decide
  · rw [q.1, q.2.2.1]; decide
  · rcases w.2 with z | z
    · rw [q.1] at z; exact absurd z.1 (by decide)
    · rw [q.1] at z; exact absurd z.1 (by decide)
theorem fd_firsts1 {y : Int32} (hy : vp_in y 4) (h : fd_K B s k0 rc cc sl nw no ops o1 o2 o3 sz st pr pc rg wk jn sd br io cp cl hd ct wt wc rr ab dx ox ss yy sp dy ly) : ∃ r, fd_Mi (fun g => fd_wa ops o1 o2 st pr pc y g ∧ ops (fd_k pr pc g) = 6) sp 12 r ∧ (∀ post : Int32 → Prop, post r → wpX_firstWaiting post (rc, cc, sl, nw, no, ops, o1, o2, o3, sz, st, pr, pc, rg, wk, jn, sd, br, io, cp, cl, hd, ct, wt, wc, rr, ab, dx, ox) y 1) ∧ (∀ post : Int32 → Prop, post r → wpY_first post (cc, sl, nw, no, ss, yy, ops, o1, o2, o3, sz, st, pr, pc, rg, wk, sp, cp, cl, hd, ct, ab, dy, ly) y 1) := by
  obtain ⟨L, hQ, _, _⟩ := h.2.2.2.1 y hy
  obtain ⟨r, g1, g2⟩ := fd_X_fw (rc := rc) (cc := cc) (sl := sl) (nw := nw) (no := no) (ops := ops) (o1 := o1) (o2 := o2) (o3 := o3) (sz := sz) (st := st) (pr := pr) (pc := pc) (rg := rg) (wk := wk) (jn := jn) (sd := sd) (br := br) (io := io) (cp := cp) (cl := cl) (hd := hd) (ct := ct) (rr := rr) (ab := ab) (dx := dx) (ox := ox) 1 h.2.2.2.1 hy
  obtain ⟨r', f1, f2⟩ := fd_Y_first (cc := cc) (sl := sl) (nw := nw) (no := no) (ss := ss) (yy := yy) (sz := sz) (wk := wk) (cp := cp) (cl := cl) (hd := hd) (ct := ct) (ab := ab) (dy := dy) (ly := ly) (y := y) (sp := sp) (k := 1) (K := fun g => ops (fd_k pr pc g) = 6) h.2.1 (Or.inr (Or.inl ⟨rfl, fun g => Iff.rfl⟩))
  have g3 : fd_Mi (fun g => fd_wa ops o1 o2 st pr pc y g ∧ ops (fd_k pr pc g) = 6) sp 12 r := fd_Mi_c g1 (fun g hg => ⟨fun z => ⟨z.1, (fd_snd (h.2.1 g hg) z.1).1.mpr z.2⟩, fun z => ⟨z.1, (fd_snd (h.2.1 g hg) z.1).1.mp z.2⟩⟩)
  have e := fd_M_u hQ (fun g z => z.1) g3 f1
  exact ⟨r, g3, g2, by rw [e]; exact f2⟩
theorem fd_firsts0 {y : Int32} (hy : vp_in y 4) (h : fd_K B s k0 rc cc sl nw no ops o1 o2 o3 sz st pr pc rg wk jn sd br io cp cl hd ct wt wc rr ab dx ox ss yy sp dy ly) : ∃ r, fd_Mi (fun g => fd_wa ops o1 o2 st pr pc y g ∧ ¬ ops (fd_k pr pc g) = 6) sp 12 r ∧ (∀ post : Int32 → Prop, post r → wpX_firstWaiting post (rc, cc, sl, nw, no, ops, o1, o2, o3, sz, st, pr, pc, rg, wk, jn, sd, br, io, cp, cl, hd, ct, wt, wc, rr, ab, dx, ox) y 0) ∧ (∀ post : Int32 → Prop, post r → wpY_first post (cc, sl, nw, no, ss, yy, ops, o1, o2, o3, sz, st, pr, pc, rg, wk, sp, cp, cl, hd, ct, ab, dy, ly) y 0) := by
  obtain ⟨L, hQ, _, _⟩ := h.2.2.2.1 y hy
  obtain ⟨r, g1, g2⟩ := fd_X_fw (rc := rc) (cc := cc) (sl := sl) (nw := nw) (no := no) (ops := ops) (o1 := o1) (o2 := o2) (o3 := o3) (sz := sz) (st := st) (pr := pr) (pc := pc) (rg := rg) (wk := wk) (jn := jn) (sd := sd) (br := br) (io := io) (cp := cp) (cl := cl) (hd := hd) (ct := ct) (rr := rr) (ab := ab) (dx := dx) (ox := ox) 0 h.2.2.2.1 hy
  obtain ⟨r', f1, f2⟩ := fd_Y_first (cc := cc) (sl := sl) (nw := nw) (no := no) (ss := ss) (yy := yy) (sz := sz) (wk := wk) (cp := cp) (cl := cl) (hd := hd) (ct := ct) (ab := ab) (dy := dy) (ly := ly) (y := y) (sp := sp) (k := 0) (K := fun g => ¬ ops (fd_k pr pc g) = 6) h.2.1 (Or.inr (Or.inr ⟨rfl, fun g => Iff.rfl⟩))
  have g3 : fd_Mi (fun g => fd_wa ops o1 o2 st pr pc y g ∧ ¬ ops (fd_k pr pc g) = 6) sp 12 r := fd_Mi_c g1 (fun g hg => ⟨fun z => ⟨z.1, (fd_snd (h.2.1 g hg) z.1).2.mpr z.2⟩, fun z => ⟨z.1, (fd_snd (h.2.1 g hg) z.1).2.mp z.2⟩⟩)
  have e := fd_M_u hQ (fun g z => z.1) g3 f1
  exact ⟨r, g3, g2, by rw [e]; exact f2⟩
theorem fd_C_u {y z : Int32} (h : fd_C cp ct) (hz : vp_in z 4) : fd_C cp (upd ct y.toNatClampNeg z) := fun y' hy' => ⟨(h y' hy').1, by
  by_cases e : y'.toNatClampNeg = y.toNatClampNeg
  · rw [e, pk_us]; exact hz
  · rw [pk_un e]; exact (h y' hy').2⟩
theorem fd_K_C {hd' ct' : Nat → Int32} (h : fd_K B s k0 rc cc sl nw no ops o1 o2 o3 sz st pr pc rg wk jn sd br io cp cl hd ct wt wc rr ab dx ox ss yy sp dy ly) (hC : fd_C cp ct') : fd_K B s k0 rc cc sl nw no ops o1 o2 o3 sz st pr pc rg wk jn sd br io cp cl hd' ct' wt wc rr ab dx ox ss yy sp dy ly := ⟨h.1, h.2.1, h.2.2.1, h.2.2.2.1, h.2.2.2.2.1, hC, h.2.2.2.2.2.2⟩
theorem fd_X_hold' {post : SX → Prop} {y v : Int32} {m : Nat} (hy : vp_in y 4) (hm : m < 3) (hc : ct y.toNatClampNeg = nI m) (H : post (rc, cc, sl, nw, no, ops, o1, o2, o3, sz, st, pr, pc, rg, wk, jn, sd, br, io, cp, cl, upd hd (3 * y.toNatClampNeg + m) v, upd ct y.toNatClampNeg (nI m + 1), wt, wc, rr, ab, dx, ox)) : wpX_hold post (rc, cc, sl, nw, no, ops, o1, o2, o3, sz, st, pr, pc, rg, wk, jn, sd, br, io, cp, cl, hd, ct, wt, wc, rr, ab, dx, ox) y v := by
  refine fd_X_hold hy (by rw [hc]; exact vp_in_nI hm (by omega)) ?_
  rw [hc, nI_clamp (by omega)]
  exact H
theorem fd_take {y : Int32} (hy : vp_in y 4) (hs : s < 2 ^ 62) (h : fd_K B s k0 rc cc sl nw no ops o1 o2 o3 sz st pr pc rg wk jn sd br io cp cl hd ct wt wc rr ab dx ox ss yy sp dy ly) : ∃ n u' v', (∀ post : Int32 → SX → Prop, post n u' → wpX_takeFrom post (rc, cc, sl, nw, no, ops, o1, o2, o3, sz, st, pr, pc, rg, wk, jn, sd, br, io, cp, cl, hd, ct, wt, wc, rr, ab, dx, ox) y) ∧ (∀ post : Int32 → SY → Prop, post n v' → wpY_take post (cc, sl, nw, no, ss, yy, ops, o1, o2, o3, sz, st, pr, pc, rg, wk, sp, cp, cl, hd, ct, ab, dy, ly) y) ∧ fd_Rel B (s + 1) k0 (fun _ _ => True) st pc ab yy u' v' := by
  obtain ⟨r, m1, fX, fY⟩ := fd_firsts1 hy h
  have hC := h.2.2.2.2.2.1
  have hct := (hC y hy).2
  have y0 := fd_lt hy
  have j0 := fd_c30 hy
  have j0' := fd_c30' hy
  by_cases c0 : ct y.toNatClampNeg = 0
  · by_cases er : r = -1
    · refine ⟨-1000000, _, _, fun post H => ?_, fun post H => ?_, fd_Rel_m (fd_K_Rel h) (Nat.le_refl B) (by omega) (fun _ _ _ => trivial) (fun _ z => ⟨z, rfl⟩)⟩
      · unfold wpX_takeFrom
        exact fX _ ⟨hy, br_t c0 (br_t er H)⟩
      · unfold wpY_take
        exact fY _ ⟨hy, br_t c0 (br_f (fun z => (fd_M_ge m1).mp z er) H)⟩
    · obtain ⟨hx, w, op⟩ := fd_M_yes m1 er
      have s3 := w.1
      have n2 : st r.toNatClampNeg ≠ 2 := by rw [s3]; decide
      have hF := h.2.1 r.toNatClampNeg (fd_lt hx)
      have hrc := fd_K_rc h hx (by rw [s3]; decide)
      have xr := fd_nn hx
      obtain ⟨wt', wc', hlv, hrl⟩ := fd_X_release (cc := cc) (sl := sl) (nw := nw) (no := no) (ops := ops) (o1 := o1) (o2 := o2) (o3 := o3) (sz := sz) (st := st) (pr := pr) (pc := pc) (rg := rg) (wk := wk) (jn := jn) (sd := sd) (br := br) (io := io) (cp := cp) (cl := cl) (hd := hd) (ct := ct) (rr := rr) (ab := ab) (dx := dx) (ox := ox) h.2.2.2.1 hx hrc
      have K2 := fd_K_rel h hs hx s3 fd_agr_r hlv
      refine ⟨br r.toNatClampNeg, _, _, fun post H => ?_, fun post H => ?_, fd_Rel_m (fd_K_Rel K2) (Nat.le_refl B) (Nat.le_refl _) (fun _ _ _ => trivial) (fd_fr_u n2)⟩
      · unfold wpX_takeFrom
        refine fX _ ⟨hy, br_t c0 (br_f er (And.intro hy (br_t c0 ⟨hx, nm_e (br_f er (hrl _ H))⟩)))⟩
      · unfold wpY_take
        refine fY _ ⟨hy, br_t c0 (br_t (fd_ge0 hx) (br_f xr (fd_Y_sent hx hF s3 op (And.intro hy (br_t ((fd_c0' hct).mpr c0) (br_f xr (fd_Y_goOn hx H)))))))⟩
  · obtain ⟨m, hm, ec⟩ : ∃ m, m < 3 ∧ ct y.toNatClampNeg = nI (m + 1) := by
      obtain ⟨j, hj, e⟩ := vp_in_of hct (by omega)
      have : j ≠ 0 := fun z => c0 (by rw [e, z]; decide)
      exact ⟨j - 1, by omega, by rw [e]; congr 1; omega⟩
    have c0' : ¬ ct y.toNatClampNeg ≤ 0 := fun z => c0 ((fd_c0' hct).mp z)
    have ect : upd ct y.toNatClampNeg (ct y.toNatClampNeg - 1) = upd ct y.toNatClampNeg (nI m) := by rw [ec, nI_pred]
    have e3 : 3 * y = nI (3 * y.toNatClampNeg + 0) := by rw [Nat.add_zero, ← j0.2]; exact fd_eq j0.1
    have ehd : hd (3 * y).toNatClampNeg = hd (3 * y.toNatClampNeg) := by rw [j0.2]
    have ehd' : hd (y * 3).toNatClampNeg = hd (3 * y.toNatClampNeg) := by rw [j0'.2]
    have K1 := fd_K_C (hd' := fd_sh hd (3 * y.toNatClampNeg) m) h (fd_C_u (y := y) hC (vp_in_nI (n := m) (N := 4) (by omega) (by omega)))
    by_cases er : r = -1
    · have xr : r < 0 := (fd_M_neg m1).mpr er
      refine ⟨hd (3 * y.toNatClampNeg), _, _, fun post H => ?_, fun post H => ?_, fd_Rel_m (fd_K_Rel K1) (Nat.le_refl B) (by omega) (fun _ _ _ => trivial) (fun _ z => ⟨z, rfl⟩)⟩
      · unfold wpX_takeFrom
        exact fX _ ⟨hy, br_f c0 (And.intro hy (br_f c0 ⟨j0'.1, nm_r ehd' (fd_X_drop hy hm ec (br_t er (br_t er H)))⟩))⟩
      · unfold wpY_take
        refine fY _ ⟨hy, br_f c0 (br_t xr (And.intro hy (br_f c0' ⟨j0.1, nm_r ehd ⟨hy, hy, nm_r ect (nm_r e3 ⟨m + 1, ?_⟩)⟩⟩)))⟩
        have q := fd_Y_tl (post := post) (y := y) (x2 := r) (x3 := 0) (x4 := hd (3 * y.toNatClampNeg)) (cc := cc) (sl := sl) (nw := nw) (no := no) (ss := ss) (yy := yy) (ops := ops) (o1 := o1) (o2 := o2) (o3 := o3) (sz := sz) (st := st) (pr := pr) (pc := pc) (rg := rg) (wk := wk) (sp := sp) (cp := cp) (cl := cl) (hd := hd) (ct := upd ct y.toNatClampNeg (nI m)) (ab := ab) (dy := dy) (ly := ly) hy hm pk_us (fun _ => br_t xr H) (fun z => absurd xr z) m 0 (Nat.zero_add m)
        rw [fd_sh_0] at q
        exact q
    · obtain ⟨hx, w, op⟩ := fd_M_yes m1 er
      have s3 := w.1
      have n2 : st r.toNatClampNeg ≠ 2 := by rw [s3]; decide
      have hF := h.2.1 r.toNatClampNeg (fd_lt hx)
      have hrc := fd_K_rc h hx (by rw [s3]; decide)
      have xr := fd_nn hx
      have K1' := fd_K_C (hd' := upd (fd_sh hd (3 * y.toNatClampNeg) m) (3 * y.toNatClampNeg + m) (br r.toNatClampNeg)) (ct' := upd (upd ct y.toNatClampNeg (nI m)) y.toNatClampNeg (nI m + 1)) h (fd_C_u (y := y) (fd_C_u (y := y) hC (vp_in_nI (n := m) (N := 4) (by omega) (by omega))) (by rw [nI_1]; exact vp_in_nI (by omega) (by omega)))
      obtain ⟨wt', wc', hlv, hrl⟩ := fd_X_release (cc := cc) (sl := sl) (nw := nw) (no := no) (ops := ops) (o1 := o1) (o2 := o2) (o3 := o3) (sz := sz) (st := st) (pr := pr) (pc := pc) (rg := rg) (wk := wk) (jn := jn) (sd := sd) (br := br) (io := io) (cp := cp) (cl := cl) (hd := upd (fd_sh hd (3 * y.toNatClampNeg) m) (3 * y.toNatClampNeg + m) (br r.toNatClampNeg)) (ct := upd (upd ct y.toNatClampNeg (nI m)) y.toNatClampNeg (nI m + 1)) (rr := rr) (ab := ab) (dx := dx) (ox := ox) h.2.2.2.1 hx hrc
      have K2 := fd_K_rel K1' hs hx s3 fd_agr_r hlv
      refine ⟨hd (3 * y.toNatClampNeg), _, _, fun post H => ?_, fun post H => ?_, fd_Rel_m (fd_K_Rel K2) (Nat.le_refl B) (Nat.le_refl _) (fun _ _ _ => trivial) (fd_fr_u n2)⟩
      · unfold wpX_takeFrom
        exact fX _ ⟨hy, br_f c0 (And.intro hy (br_f c0 ⟨j0'.1, nm_r ehd' (fd_X_drop hy hm ec (br_f er ⟨hx, fd_X_hold' hy hm pk_us (br_f er (hrl _ H))⟩))⟩))⟩
      · unfold wpY_take
        refine fY _ ⟨hy, br_f c0 (br_f xr (fd_Y_sent hx hF s3 op (And.intro hy (br_f c0' ⟨j0.1, nm_r ehd ⟨hy, hy, nm_r ect (nm_r e3 ⟨m + 1, ?_⟩)⟩⟩))))⟩
        have q := fd_Y_tl (post := post) (y := y) (x2 := r) (x3 := br r.toNatClampNeg) (x4 := hd (3 * y.toNatClampNeg)) (cc := cc) (sl := sl) (nw := nw) (no := no) (ss := ss) (yy := yy) (ops := ops) (o1 := o1) (o2 := o2) (o3 := o3) (sz := sz) (st := st) (pr := pr) (pc := pc) (rg := rg) (wk := wk) (sp := sp) (cp := cp) (cl := cl) (hd := hd) (ct := upd ct y.toNatClampNeg (nI m)) (ab := ab) (dy := dy) (ly := ly) hy hm pk_us (fun z => absurd z xr) (fun _ => br_f xr (fd_Y_goOn hx H)) m 0 (Nat.zero_add m)
        rw [fd_sh_0] at q
        exact q
end
