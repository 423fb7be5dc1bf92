section
variable {B k0 : Nat}
theorem fd_fin {x1 x3 : Int32} (hx1 : vp_in x1 12) : ∀ (d i s : Nat) (rc cc sl nw no : Int32) (ops o1 o2 o3 sz st pr pc rg wk jn sd br io cp cl hd ct wt wc rr ab dx ox : Nat → Int32) (ss : Int64) (yy : Int32) (sp : Nat → Int64) (dy ly : Nat → Int32), i + d = 12 → s + d < 2 ^ 62 → fd_K B s k0 rc cc sl nw no ops o1 o2 o3 sz st pr pc rg wk jn sd br io cp cl hd ct wt wc rr ab dx ox ss yy sp dy ly → fd_Do (fun post => wX_finish_29 post x1 x3 (d + 1) (nI i) rc cc sl nw no ops o1 o2 o3 sz st pr pc rg wk jn sd br io cp cl hd ct wt wc rr ab dx ox) (fun post => wY_finish_29 post x1 x3 (d + 1) (nI i) cc sl nw no ss yy ops o1 o2 o3 sz st pr pc rg wk sp cp cl hd ct ab dy ly) (fd_Rel B (s + d) k0 (fd_wa ops o1 o2 st pr pc) st pc ab yy) := by
  intro d
  induction d with
  | zero =>
    intro i s rc cc sl nw no ops o1 o2 o3 sz st pr pc rg wk jn sd br io cp cl hd ct wt wc rr ab dx ox ss yy sp dy ly hi hs h
    have e : i = 12 := by omega
    subst e
    exact ⟨_, _, fun post H => br_t (by decide) H, fun post H => br_t (by decide) H, fd_K_Rel h⟩
  | succ d ih =>
    intro i s rc cc sl nw no ops o1 o2 o3 sz st pr pc rg wk jn sd br io cp cl hd ct wt wc rr ab dx ox ss yy sp dy ly hi hs h
    have hx : vp_in (nI i) 12 := vp_in_nI (by omega) (by omega)
    have n12 : ¬ (12 : Int32) ≤ nI i := nI_ge (b := 12) (by omega) (by decide)
    have hi1 : nI i + 1 = nI (i + 1) := nI_1 i
    generalize nI i = x at hx n12 hi1
    have hF := h.2.1 x.toNatClampNeg (fd_lt hx)
    have skip : fd_Do (fun post => wX_finish_29 post x1 x3 (d + 1) (nI (i + 1)) rc cc sl nw no ops o1 o2 o3 sz st pr pc rg wk jn sd br io cp cl hd ct wt wc rr ab dx ox) (fun post => wY_finish_29 post x1 x3 (d + 1) (nI (i + 1)) cc sl nw no ss yy ops o1 o2 o3 sz st pr pc rg wk sp cp cl hd ct ab dy ly) (fd_Rel B (s + (d + 1)) k0 (fd_wa ops o1 o2 st pr pc) st pc ab yy) := by
      obtain ⟨u, v, h1, h2, h3⟩ := ih (i + 1) s rc cc sl nw no ops o1 o2 o3 sz st pr pc rg wk jn sd br io cp cl hd ct wt wc rr ab dx ox ss yy sp dy ly (by omega) (by omega) h
      exact ⟨u, v, h1, h2, fd_Rel_m h3 (Nat.le_refl B) (by omega) (fun _ _ z => z) (fun _ z => ⟨z, rfl⟩)⟩
    by_cases s3 : st x.toNatClampNeg = 3
    · obtain ⟨hp1, hp2⟩ := hF.1 (Or.inr (Or.inr (Or.inl s3)))
      have ix := fd_p12 hp1 hp2
      have ek : fd_k pr pc x.toNatClampNeg = (12 * pr x.toNatClampNeg + pc x.toNatClampNeg).toNatClampNeg := ix.2.symm
      obtain ⟨hc, hg, hw⟩ := hF.2 s3
      by_cases j : jn x.toNatClampNeg = x1
      · have op : ops (fd_k pr pc x.toNatClampNeg) = 10 ∧ jn x.toNatClampNeg = rg (3 * x.toNatClampNeg + (o1 (fd_k pr pc x.toNatClampNeg)).toNatClampNeg) ∧ io x.toNatClampNeg = o2 (fd_k pr pc x.toNatClampNeg) := by
          rcases hw with q | q | q | q
          · exact absurd (q.2.1.symm.trans j) (fd_m1 hx1).symm
          · exact absurd (q.2.1.symm.trans j) (fd_m1 hx1).symm
          · exact absurd (q.2.1.symm.trans j) (fd_m1 hx1).symm
          · exact q
        have n6 : ¬ ops (fd_k pr pc x.toNatClampNeg) = 6 := by rw [op.1]; decide
        have hio := (fd_io hF s3 n6).1
        have ha := (hg.2.2.1 (Or.inr op.1)).1
        have rj := op.2.1.symm.trans j
        rw [ek] at ha rj
        have ia := fd_3 hx ha
        have hrc := fd_K_rc h hx (by rw [s3]; decide)
        obtain ⟨wt', wc', hl, hrl⟩ := fd_X_release (cc := cc) (sl := sl) (nw := nw) (no := no) (ops := ops) (o1 := o1) (o2 := o2) (o3 := o3) (sz := sz) (st := st) (pr := pr) (pc := pc) (rg := upd rg (3 * x.toNatClampNeg + (io x.toNatClampNeg).toNatClampNeg) x3) (wk := wk) (jn := jn) (sd := sd) (br := br) (io := io) (cp := cp) (cl := cl) (hd := hd) (ct := ct) (rr := rr) (ab := ab) (dx := dx) (ox := ox) h.2.2.2.1 hx hrc
        have K' := fd_K_rel h (by omega) hx s3 (fd_agr_u (x := x3) (fd_lt hio)) hl
        obtain ⟨u, v, h1, h2, h3⟩ := ih (i + 1) (s + 1) _ _ _ _ _ _ _ _ _ _ _ _ _ _ _ _ _ _ _ _ _ _ _ _ _ _ _ _ _ _ _ _ _ _ (by omega) (by omega) K'
        refine ⟨u, v, fun post H => br_f n12 ⟨hx, br_t s3 ⟨hx, br_t j (fd_X_fill hx hio (hrl _ (nm_r hi1 (h1 post H))))⟩⟩, fun post H => br_f n12 ⟨hx, br_t s3 (And.intro hx (And.intro hx ⟨ix.1, ?_⟩))⟩, fd_Rel_m h3 (Nat.le_refl B) (by omega) (fun y g z => (fd_wa_u (by decide) z).1) (fd_fr_u (by rw [s3]; decide))⟩
        exact br_t (by rw [← ek]; exact op.1) ⟨ix.1, ia.1, br_t (by rw [ia.2]; exact rj) (fd_Y_give hx hF s3 n6 (nm_r hi1 (h2 post H)))⟩
      · obtain ⟨u, v, h1, h2, h3⟩ := skip
        refine ⟨u, v, fun post H => br_f n12 ⟨hx, br_t s3 ⟨hx, br_f j (nm_r hi1 (h1 post H))⟩⟩, fun post H => br_f n12 ⟨hx, br_t s3 (And.intro hx (And.intro hx ⟨ix.1, ?_⟩))⟩, h3⟩
        refine br_c (fun q => ?_) (fun q => nm_r hi1 (h2 post H))
        have q' : ops (fd_k pr pc x.toNatClampNeg) = 10 := by rw [ek]; exact q
        have op : jn x.toNatClampNeg = rg (3 * x.toNatClampNeg + (o1 (fd_k pr pc x.toNatClampNeg)).toNatClampNeg) := by
          rcases hw with q | q | q | q
          · exact absurd (q'.symm.trans q.1) (by decide)
          · exact absurd (q'.symm.trans q.1) (by decide)
          · exact absurd (q'.symm.trans q.1) (by decide)
          · exact q.2.1
        have ha := (hg.2.2.1 (Or.inr q')).1
        rw [ek] at ha op
        have ia := fd_3 hx ha
        exact ⟨ix.1, ia.1, br_f (by rw [ia.2, ← op]; exact j) (nm_r hi1 (h2 post H))⟩
    · obtain ⟨u, v, h1, h2, h3⟩ := skip
      exact ⟨u, v, fun post H => br_f n12 ⟨hx, br_f s3 (nm_r hi1 (h1 post H))⟩, fun post H => br_f n12 ⟨hx, br_f s3 (nm_r hi1 (h2 post H))⟩, h3⟩
end
section
variable {rc cc sl nw no : Int32} {ops o1 o2 o3 sz st pr pc rg wk jn sd br io cp cl hd ct wt wc rr ab dx ox : Nat → Int32} {ss : Int64} {yy : Int32} {sp : Nat → Int64} {dy ly : Nat → Int32} {B s k0 : Nat}
theorem fd_finish {x e : Int32} (he : fd_e e) (hx : vp_in x 12) (hs : s + 12 < 2 ^ 62) (h : fd_K B s k0 rc cc sl nw no ops o1 o2 o3 sz (upd st x.toNatClampNeg e) pr pc rg wk jn sd br io cp cl hd ct wt wc rr ab dx ox ss yy sp dy ly) : fd_Do (fun post => wpX_finish post (rc, cc, sl, nw, no, ops, o1, o2, o3, sz, st, pr, pc, rg, wk, jn, sd, br, io, cp, cl, hd, ct, wt, wc, rr, ab, dx, ox) x e) (fun post => wpY_finish post (cc, sl, nw, no, ss, yy, ops, o1, o2, o3, sz, st, pr, pc, rg, wk, sp, cp, cl, hd, ct, ab, dy, ly) x e) (fd_Rel B (s + 12) k0 (fd_wa ops o1 o2 (upd st x.toNatClampNeg e) pr pc) (upd st x.toNatClampNeg e) pc ab yy) := by
  have i1 := fd_30' hx
  have i2 := fd_30 hx
  rcases he with he | he
  · obtain ⟨u, v, h1, h2, h3⟩ := fd_fin (x3 := rg (3 * x.toNatClampNeg)) hx 12 0 s _ _ _ _ _ _ _ _ _ _ _ _ _ _ _ _ _ _ _ _ _ _ _ _ _ _ _ _ _ _ _ _ _ _ rfl hs h
    exact ⟨u, v, fun post H => And.intro hx (nm_e (br_t he ⟨i1.1, nm_r (by rw [i1.2]) ⟨_, h1 post H⟩⟩)), fun post H => And.intro hx (nm_e (br_t he ⟨i2.1, nm_r (by rw [i2.2]) ⟨_, h2 post H⟩⟩)), h3⟩
  · obtain ⟨u, v, h1, h2, h3⟩ := fd_fin (x3 := -1000000) hx 12 0 s _ _ _ _ _ _ _ _ _ _ _ _ _ _ _ _ _ _ _ _ _ _ _ _ _ _ _ _ _ _ _ _ _ _ rfl hs h
    exact ⟨u, v, fun post H => And.intro hx (nm_e (br_f (by rw [he]; decide) ⟨_, h1 post H⟩)), fun post H => And.intro hx (nm_e (br_f (by rw [he]; decide) ⟨_, h2 post H⟩)), h3⟩
end
