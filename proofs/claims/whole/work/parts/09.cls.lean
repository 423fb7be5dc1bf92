theorem fd_kdT {Z : Nat → Prop} : fd_kd (-1) (fun _ => True) Z := Or.inl ⟨rfl, fun _ => trivial⟩
section
variable {B k0 : Nat}
theorem fd_cll {y : Int32} (hy : vp_in y 4) : ∀ (m i s : Nat) (r : Int32) (rc cc sl nw no : Int32) (ops o1 o2 o3 sz st pr pc rg wk jn sd br io cp cl hd ct wt wc rr ab dx ox : Nat → Int32) (ss : Int64) (yy : Int32) (sp : Nat → Int64) (dy ly : Nat → Int32), i + m ≤ 12 → s + 13 * m < 2 ^ 62 → (∃ M : List Nat, M.length ≤ m ∧ ∀ g, g < 12 → fd_wa ops o1 o2 st pr pc y g → g ∈ M) → fd_Mi (fun g => fd_wa ops o1 o2 st pr pc y g ∧ True) sp 12 r → fd_K B s k0 rc cc sl nw no ops o1 o2 o3 sz st pr pc rg wk jn sd br io cp cl hd ct wt wc rr ab dx ox ss yy sp dy ly → fd_Do (fun post => wX_close_9 post y (m + 1) (nI i) rc cc sl nw no ops o1 o2 o3 sz st pr pc rg wk jn sd br io cp cl hd ct wt wc rr ab dx ox) (fun post => wY_close_14 post y (m + 1) r cc sl nw no ss yy ops o1 o2 o3 sz st pr pc rg wk sp cp cl hd ct ab dy ly) (fd_Rel B (s + 13 * m) k0 (fun _ _ => True) st pc ab yy) := by
  intro m
  induction m with
  | zero =>
    intro i s r rc cc sl nw no ops o1 o2 o3 sz st pr pc rg wk jn sd br io cp cl hd ct wt wc rr ab dx ox ss yy sp dy ly hi hs hM hr h
    obtain ⟨M, hM1, hM2⟩ := hM
    have hn : ∀ g, g < 12 → ¬ fd_wa ops o1 o2 st pr pc y g := fun g hg z => by
      have := List.length_pos_of_mem (hM2 g hg z)
      omega
    have er : r = -1 := by
      by_cases e : r = -1
      · exact e
      · have q := fd_M_yes hr e
        exact absurd q.2.1 (hn _ (fd_lt q.1))
    obtain ⟨L, hQ, hH, hc⟩ := h.2.2.2.1 y hy
    have hL : L = [] := by
      cases L with
      | nil => rfl
      | cons a l => exact absurd ((hQ.1 a).mp List.mem_cons_self).2 (hn a ((hQ.1 a).mp List.mem_cons_self).1)
    subst hL
    refine ⟨_, _, fun post H => ?_, fun post H => br_t (by rw [er]; decide) H, fd_Rel_m (fd_K_Rel h) (Nat.le_refl B) (by omega) (fun _ _ _ => trivial) (fun _ z => ⟨z, rfl⟩)⟩
    by_cases e : i = 12
    · exact br_t (by rw [e]; decide) H
    · exact br_f (nI_ge (b := 12) (by omega) (by decide)) ⟨hy, br_t (by rw [hc]; decide) H⟩
  | succ m ih =>
    intro i s r rc cc sl nw no ops o1 o2 o3 sz st pr pc rg wk jn sd br io cp cl hd ct wt wc rr ab dx ox ss yy sp dy ly hi hs hM hr h
    obtain ⟨L, hQ, hH, hc⟩ := h.2.2.2.1 y hy
    have n12 : ¬ (12 : Int32) ≤ nI i := nI_ge (b := 12) (by omega) (by decide)
    have i0 := fd_c120 hy
    cases L with
    | nil =>
      have er : r = -1 := by
        by_cases e : r = -1
        · exact e
        · have q := fd_M_yes hr e
          exact absurd ((hQ.1 _).mpr ⟨fd_lt q.1, q.2.1⟩) List.not_mem_nil
      exact ⟨_, _, fun post H => br_f n12 ⟨hy, br_t (by rw [hc]; decide) H⟩, fun post H => br_t (by rw [er]; decide) H, fd_Rel_m (fd_K_Rel h) (Nat.le_refl B) (by omega) (fun _ _ _ => trivial) (fun _ z => ⟨z, rfl⟩)⟩
    | cons a l =>
      have hl := fd_Q_len hQ
      have l1 : (a :: l).length = l.length + 1 := rfl
      have ma := (hQ.1 a).mp List.mem_cons_self
      have er : r = nI a := fd_M_u (K := fun g => fd_wa ops o1 o2 st pr pc y g ∧ True) hQ (fun g z => z.1) hr (fd_M_first (K := fun _ => True) hQ 0 (by omega) trivial (fun j hj l => absurd l (Nat.not_lt_zero j)))
      have hx : vp_in (nI a) 12 := vp_in_nI ma.1 (by omega)
      have ea : (nI a).toNatClampNeg = a := nI_clamp (by omega)
      have ez : wt (y * 12).toNatClampNeg = nI a := by rw [i0.2]; exact hH 0 (by omega)
      have n0 : ¬ wc y.toNatClampNeg ≤ 0 := by rw [hc]; exact nI_nle (by omega) (by omega)
      rw [← ea] at ma
      have hM0 : ∃ M : List Nat, M.length ≤ m ∧ ∀ g, g < 12 → g ≠ (nI a).toNatClampNeg → fd_wa ops o1 o2 st pr pc y g → g ∈ M := by
        obtain ⟨M, hM1, hM2⟩ := hM
        have mm := hM2 _ ma.1 ma.2
        refine ⟨M.erase (nI a).toNatClampNeg, ?_, fun g hg e z => (List.mem_erase_of_ne e).mpr (hM2 g hg z)⟩
        rw [List.length_erase_of_mem mm]; omega
      clear hM
      subst er
      clear ea hH l1 hQ hl
      generalize nI a = x at hx ma hM0 hr ez
      have s3 := ma.2.1
      have n2 : st x.toNatClampNeg ≠ 2 := by rw [s3]; decide
      have hF := h.2.1 x.toNatClampNeg (fd_lt hx)
      have hp := hF.1 (Or.inr (Or.inr (Or.inl s3)))
      obtain ⟨hpc, hg, hw⟩ := hF.2 s3
      have xr : ¬ x < 0 := fd_nn hx
      by_cases op : ops (fd_k pr pc x.toNatClampNeg) = 6
      · have hsd : ¬ sd x.toNatClampNeg = 0 := by
          rcases hw with q | q | q | q
          · rw [q.2.2.1]; decide
          · exact absurd (op.symm.trans q.1) (by decide)
          · exact absurd (op.symm.trans q.1) (by decide)
          · exact absurd (op.symm.trans q.1) (by decide)
        obtain ⟨wt', wc', hlv, hlx⟩ := fd_X_leave (rc := rc) (cc := cc) (sl := sl) (nw := nw) (no := no) (ops := ops) (o1 := o1) (o2 := o2) (o3 := o3) (sz := sz) (st := st) (pr := pr) (pc := pc) (rg := rg) (wk := wk) (jn := jn) (sd := sd) (br := br) (io := io) (cp := cp) (cl := cl) (hd := hd) (ct := ct) (rr := rr) (ab := ab) (dx := dx) (ox := ox) h.2.2.2.1 hx
        have K1 := fd_K_end3 (e := 6) h s3 (Or.inr rfl) hlv
        obtain ⟨u1, v1, f1, f2, ⟨rc', cc', sl', nw', no', ops', o1', o2', o3', sz', st', pr', pc', rg', wk', jn', sd', br', io', cp', cl', hd', ct', wt', wc', rr', ab', dx', ox', ss', yy', sp', dy', ly', rfl, rfl, K2, fW, fr, rfl, rfl⟩⟩ := fd_finish (Or.inr rfl) hx (by omega) K1
        obtain ⟨r', g1, g2⟩ := fd_Y_first (cc := cc') (sl := sl') (nw := nw') (no := no') (ss := ss') (yy := yy') (sz := sz') (wk := wk') (cp := cp') (cl := cl') (hd := hd') (ct := ct') (ab := ab') (dy := dy') (ly := ly') (y := y) (sp := sp') K2.2.1 fd_kdT
        obtain ⟨M, hM1, hM2⟩ := hM0
        obtain ⟨u, v, h1, h2, h3⟩ := ih (i + 1) (s + 12) r' _ _ _ _ _ _ _ _ _ _ _ _ _ _ _ _ _ _ _ _ _ _ _ _ _ _ _ _ _ _ _ _ _ _ (by omega) (by omega) ⟨M, hM1, fun g hg z => hM2 g hg (fd_wa_u' (by decide) (fW y g z)).2 (fd_wa_u' (by decide) (fW y g z)).1⟩ g1 K2
        refine ⟨u, v, fun post H => br_f n12 ⟨hy, br_f n0 ⟨i0.1, nm_r ez ⟨hx, br_f hsd (hlx _ (f1 _ (nm_r (nI_1 i) (h1 post H))))⟩⟩⟩, fun post H => br_f xr (fd_Y_sd hx hp (fun _ => br_f (by decide) (f2 _ (g2 _ (h2 post H)))) (fun z => absurd op z)), fd_Rel_m h3 (Nat.le_refl B) (by omega) (fun _ _ z => z) (fun g z => ?_)⟩
        exact fr g (fd_fr_u' (pc := pc) n2 g z).1
      · have hsd : sd x.toNatClampNeg = 0 := by
          rcases hw with q | q | q | q
          · exact absurd q.1 op
          · exact q.2.2.1
          · exact q.2.2.1
          · rcases ma.2.2 with w | w
            · rw [q.1] at w; exact absurd w.1 (by decide)
            · rw [q.1] at w; exact absurd w.1 (by decide)
        have hio := (fd_io hF s3 op).1
        have hrc := fd_K_rc h hx (by rw [s3]; decide)
        obtain ⟨wt', wc', hlv, hrl⟩ := fd_X_release (cc := cc) (sl := sl) (nw := nw) (no := no) (ops := ops) (o1 := o1) (o2 := o2) (o3 := o3) (sz := sz) (st := st) (pr := pr) (pc := pc) (rg := upd rg (3 * x.toNatClampNeg + (io x.toNatClampNeg).toNatClampNeg) (-1000000)) (wk := wk) (jn := jn) (sd := sd) (br := br) (io := io) (cp := cp) (cl := cl) (hd := hd) (ct := ct) (rr := rr) (ab := ab) (dx := dx) (ox := ox) h.2.2.2.1 hx hrc
        have K2 := fd_K_rel h (by omega) hx s3 (fd_agr_u (x := -1000000) (fd_lt hio)) hlv
        obtain ⟨r', g1, g2⟩ := fd_Y_first (cc := cc) (sl := sl) (nw := nw) (no := no) (ss := ss + 1) (yy := yy) (sz := sz) (wk := wk) (cp := cp) (cl := cl) (hd := hd) (ct := ct) (ab := ab) (dy := dy) (ly := ly) (y := y) (sp := vp_updL sp x.toNatClampNeg (ss + 1)) K2.2.1 fd_kdT
        obtain ⟨M, hM1, hM2⟩ := hM0
        obtain ⟨u, v, h1, h2, h3⟩ := ih (i + 1) (s + 1) r' _ _ _ _ _ _ _ _ _ _ _ _ _ _ _ _ _ _ _ _ _ _ _ _ _ _ _ _ _ _ _ _ _ _ (by omega) (by omega) ⟨M, hM1, fun g hg z => hM2 g hg (fd_wa_u (by decide) z).2 (fd_wa_u (by decide) z).1⟩ g1 K2
        exact ⟨u, v, fun post H => br_f n12 ⟨hy, br_f n0 ⟨i0.1, nm_r ez ⟨hx, br_t hsd (fd_X_fill hx hio (hrl _ (nm_r (nI_1 i) (h1 post H))))⟩⟩⟩, fun post H => br_f xr (fd_Y_sd hx hp (fun z => absurd z op) (fun _ => br_t rfl (fd_Y_give hx hF s3 op (g2 _ (h2 post H))))), fd_Rel_m h3 (Nat.le_refl B) (by omega) (fun _ _ z => z) (fd_fr_u n2)⟩
end
section
variable {rc cc sl nw no : Int32} {ops o1 o2 o3 sz st pr pc rg wk jn sd br io cp cl hd ct wt wc rr ab dx ox : Nat → Int32} {ss : Int64} {yy : Int32} {sp : Nat → Int64} {dy ly : Nat → Int32} {B s k0 : Nat}
theorem fd_close {y : Int32} (hy : vp_in y 4) (hs : s + 156 < 2 ^ 62) (h : fd_K B s k0 rc cc sl nw no ops o1 o2 o3 sz st pr pc rg wk jn sd br io cp cl hd ct wt wc rr ab dx ox ss yy sp dy ly) : fd_Do (fun post => wpX_close post (rc, cc, sl, nw, no, ops, o1, o2, o3, sz, st, pr, pc, rg, wk, jn, sd, br, io, cp, cl, hd, ct, wt, wc, rr, ab, dx, ox) y) (fun post => wpY_close post (cc, sl, nw, no, ss, yy, ops, o1, o2, o3, sz, st, pr, pc, rg, wk, sp, cp, cl, hd, ct, ab, dy, ly) y) (fd_Rel B (s + 156) k0 (fun _ _ => True) st pc ab yy) := by
  have h' : fd_K B s k0 rc cc sl nw no ops o1 o2 o3 sz st pr pc rg wk jn sd br io cp (upd cl y.toNatClampNeg (vp_nar .boolean 1)) hd ct wt wc rr ab dx ox ss yy sp dy ly := h
  obtain ⟨L, hQ, hH, hc⟩ := h.2.2.2.1 y hy
  obtain ⟨r, g1, g2⟩ := fd_Y_first (cc := cc) (sl := sl) (nw := nw) (no := no) (ss := ss) (yy := yy) (sz := sz) (wk := wk) (cp := cp) (cl := upd cl y.toNatClampNeg (vp_nar .boolean 1)) (hd := hd) (ct := ct) (ab := ab) (dy := dy) (ly := ly) (y := y) (sp := sp) h.2.1 fd_kdT
  obtain ⟨u, v, h1, h2, h3⟩ := fd_cll hy 12 0 s r _ _ _ _ _ _ _ _ _ _ _ _ _ _ _ _ _ _ _ _ _ _ _ _ _ _ _ _ _ _ _ _ _ _ (by omega) (by omega) ⟨L, fd_Q_len hQ, fun g hg z => (hQ.1 g).mpr ⟨hg, z⟩⟩ g1 h'
  exact ⟨u, v, fun post H => And.intro hy (nm_e ⟨13, h1 post H⟩), fun post H => And.intro hy (nm_e (g2 _ ⟨13, h2 post H⟩)), h3⟩
theorem fd_X_ln {x v : Int32} {rg' : Nat → Int32} (hx : vp_in x 12) (hr : vp_in rc 12) {post : Int32 → SX → Prop} (e : rg' = upd (upd rg (3 * x.toNatClampNeg + 1) 0) (3 * x.toNatClampNeg + 2) 0) (H : post x (rc + 1, cc, sl, nw, no, ops, o1, o2, o3, sz, upd st x.toNatClampNeg 1, pr, pc, rg', wk, jn, sd, br, io, cp, cl, hd, ct, wt, wc, upd rr rc.toNatClampNeg x, ab, dx, ox)) : ∃ n, wX_launch_53 post x rc cc sl nw no n 1 ops o1 o2 o3 sz st pr pc rg wk jn sd br io cp cl hd ct wt wc rr ab dx ox := by
  have i1 := fd_3' hx (y := 1) (vp_in_nI (n := 1) (by omega) (by omega))
  have i2 := fd_3' hx (y := 2) (vp_in_nI (n := 2) (by omega) (by omega))
  have c1 : (1 : Int32).toNatClampNeg = 1 := by decide
  have c2 : (2 : Int32).toNatClampNeg = 2 := by decide
  rw [c1] at i1
  rw [c2] at i2
  subst e
  refine ⟨3, br_f (by decide) ⟨i1.1, nm_r (e' := upd rg (3 * x.toNatClampNeg + 1) 0) (by rw [i1.2]) (nm_r (e' := 2) (by decide) (br_f (by decide) ⟨i2.1, nm_r (e' := upd (upd rg (3 * x.toNatClampNeg + 1) 0) (3 * x.toNatClampNeg + 2) 0) (by rw [i2.2]) (nm_r (e' := 3) (by decide) (br_t (by decide) (fd_X_toRow hx hr H)))⟩))⟩⟩
theorem fd_X_ll {p v : Int32} {post : Int32 → SX → Prop} (ha : ∀ g, g < 12 → fd_aw (st g)) (H : post (-1) (rc, cc, sl, nw, no, ops, o1, o2, o3, sz, st, pr, pc, rg, wk, jn, sd, br, io, cp, cl, hd, ct, wt, wc, rr, ab, dx, ox)) : ∀ d i : Nat, i + d = 12 → wX_launch_13 post p v rc cc sl nw no ops o1 o2 o3 sz st pr pc rg wk jn sd br io cp cl hd ct wt wc rr ab dx ox (d + 1) (nI i) := by
  intro d
  induction d with
  | zero => intro i hi; have e : i = 12 := by omega
            subst e; exact br_t (by decide) H
  | succ d ih =>
    intro i hi
    have ei : (nI i).toNatClampNeg = i := nI_clamp (by omega)
    exact br_f (nI_ge (b := 12) (by omega) (by decide)) (fd_X_aw (vp_in_nI (by omega) (by omega)) (fun _ => br_f (by decide) (nm_r (nI_1 i) (ih (i + 1) (by omega)))) (fun z => absurd (by rw [ei]; exact ha i (by omega)) z))
theorem fd_X_llb {p v : Int32} {post : Int32 → SX → Prop} {b : Nat} (hb : b < 12) (hn : ¬ fd_aw (st b)) (ha : ∀ g, g < b → fd_aw (st g)) (hr : vp_in rc 12) (H : post (nI b) (rc + 1, cc, sl, nw, no, ops, o1, o2, o3, sz, upd st (nI b).toNatClampNeg 1, upd pr (nI b).toNatClampNeg p, upd pc (nI b).toNatClampNeg 0, upd (upd (upd rg (3 * (nI b).toNatClampNeg) v) (3 * (nI b).toNatClampNeg + 1) 0) (3 * (nI b).toNatClampNeg + 2) 0, wk, jn, sd, br, io, cp, cl, hd, ct, wt, wc, upd rr rc.toNatClampNeg (nI b), ab, dx, ox)) : ∀ d i : Nat, i + d = b → wX_launch_13 post p v rc cc sl nw no ops o1 o2 o3 sz st pr pc rg wk jn sd br io cp cl hd ct wt wc rr ab dx ox (d + 1) (nI i) := by
  intro d
  induction d with
  | zero =>
    intro i hi
    have e : i = b := by omega
    subst e
    have ei : (nI i).toNatClampNeg = i := nI_clamp (by omega)
    have hx : vp_in (nI i) 12 := vp_in_nI (by omega) (by omega)
    have i0 := fd_30' hx
    refine br_f (nI_ge (b := 12) (by omega) (by decide)) (fd_X_aw hx (fun z => absurd (by rw [ei] at z; exact z) hn) (fun _ => br_t rfl ⟨hx, nm_e ⟨hx, nm_e ⟨i0.1, nm_r (e' := upd rg (3 * (nI i).toNatClampNeg) v) (by rw [i0.2]) (fd_X_ln (v := 0) hx hr rfl H)⟩⟩⟩))
  | succ d ih =>
    intro i hi
    have ei : (nI i).toNatClampNeg = i := nI_clamp (by omega)
    exact br_f (nI_ge (b := 12) (by omega) (by decide)) (fd_X_aw (vp_in_nI (by omega) (by omega)) (fun _ => br_f (by decide) (nm_r (nI_1 i) (ih (i + 1) (by omega)))) (fun z => absurd (by rw [ei]; exact ha i (by omega)) z))
theorem fd_launch {p v : Int32} (hp : vp_in p 6) (hs : s < 2 ^ 62) (h : fd_K B s k0 rc cc sl nw no ops o1 o2 o3 sz st pr pc rg wk jn sd br io cp cl hd ct wt wc rr ab dx ox ss yy sp dy ly) : ∃ n u' v', (∀ post : Int32 → SX → Prop, post n u' → wpX_launch post (rc, cc, sl, nw, no, ops, o1, o2, o3, sz, st, pr, pc, rg, wk, jn, sd, br, io, cp, cl, hd, ct, wt, wc, rr, ab, dx, ox) p v) ∧ (∀ post : Int32 → SY → Prop, post n v' → wpY_start post (cc, sl, nw, no, ss, yy, ops, o1, o2, o3, sz, st, pr, pc, rg, wk, sp, cp, cl, hd, ct, ab, dy, ly) p v) ∧ fd_Rel B (s + 1) k0 (fun _ _ => True) st pc ab yy u' v' := by
  have hp7 := fd_mono hp (show 6 ≤ 7 by omega)
  have hR0 : fd_Rel B (s + 1) k0 (fun _ _ => True) st pc ab yy (rc, cc, sl, nw, no, ops, o1, o2, o3, sz, st, pr, pc, rg, wk, jn, sd, br, io, cp, cl, hd, ct, wt, wc, rr, ab, dx, ox) (cc, sl, nw, no, ss, yy, ops, o1, o2, o3, sz, st, pr, pc, rg, wk, sp, cp, cl, hd, ct, ab, dy, ly) := fd_Rel_m (fd_K_Rel h) (Nat.le_refl B) (by omega) (fun _ _ _ => trivial) (fun _ z => ⟨z, rfl⟩)
  rcases fd_rm st with ha | ⟨b, hb, hn, ha⟩
  · refine ⟨-1, _, _, fun post H => And.intro hp7 (br_c (fun _ => H) (fun _ => ⟨13, fd_X_ll ha H 12 0 rfl⟩)), fun post H => ?_, hR0⟩
    unfold wpY_start
    refine ⟨13, fd_Y_rl ha ?_ 12 0 rfl⟩
    exact fd_Y_wi 5 (by omega) rfl (fun _ => br_f (by decide) ⟨hp7, br_c (fun _ => H) (fun _ => br_f (by decide) H)⟩) (fun z => absurd hp z)
  · by_cases z : sz p.toNatClampNeg = 0
    · refine ⟨-1, _, _, fun post H => And.intro hp7 (br_t z H), fun post H => ?_, hR0⟩
      unfold wpY_start
      refine ⟨b + 1, fd_Y_rlb hb hn ha ?_ b 0 (Nat.zero_add b)⟩
      exact fd_Y_wi 5 (by omega) rfl (fun _ => br_f (by decide) ⟨hp7, br_t z H⟩) (fun z => absurd hp z)
    · have hx : vp_in (nI b) 12 := vp_in_nI hb (by omega)
      have eb : (nI b).toNatClampNeg = b := nI_clamp (by omega)
      have hn' : ¬ fd_aw (st (nI b).toNatClampNeg) := by rw [eb]; exact hn
      have n1 : st (nI b).toNatClampNeg ≠ 1 := fun z => hn' (Or.inl z)
      have n2 : st (nI b).toNatClampNeg ≠ 2 := fun z => hn' (Or.inr (Or.inl z))
      have hr := fd_K_rc h hx n1
      have i0 := fd_30 hx
      have i1 := fd_3 hx (y := 1) (vp_in_nI (n := 1) (by omega) (by omega))
      have i2 := fd_3 hx (y := 2) (vp_in_nI (n := 2) (by omega) (by omega))
      have c1 : (1 : Int32).toNatClampNeg = 1 := by decide
      have c2 : (2 : Int32).toNatClampNeg = 2 := by decide
      rw [c1] at i1
      rw [c2] at i2
      have K' := fd_K_new (x := nI b) (pr' := upd pr (nI b).toNatClampNeg p) (pc' := upd pc (nI b).toNatClampNeg 0) (rg' := upd (upd (upd rg (3 * (nI b).toNatClampNeg) v) (3 * (nI b).toNatClampNeg + 1) 0) (3 * (nI b).toNatClampNeg + 2) 0) h hs hx hn' fd_ag_u fd_ag_u (fd_agr_t (fd_agr_t (fd_agr_u (j := 0) (by omega)) (fd_agr_u (j := 1) (by omega))) (fd_agr_u (j := 2) (by omega))) (by rw [pk_us]; exact hp) (by rw [pk_us]; exact fd_0in (by omega))
      refine ⟨nI b, _, _, fun post H => And.intro hp7 (br_f z ⟨b + 1, fd_X_llb hb hn ha hr H b 0 (Nat.zero_add b)⟩), fun post H => ?_, fd_Rel_m (fd_K_Rel K') (Nat.le_refl B) (Nat.le_refl _) (fun _ _ _ => trivial) (fd_fr_u n2)⟩
      unfold wpY_start
      refine ⟨b + 1, fd_Y_rlb hb hn ha ?_ b 0 (Nat.zero_add b)⟩
      exact fd_Y_wi 5 (by omega) rfl (fun _ => br_f (by decide) ⟨hp7, br_f z (br_t (nI_pos' (by omega)) ⟨hx, nm_e ⟨hx, nm_e ⟨i0.1, nm_r (e' := upd rg (3 * (nI b).toNatClampNeg) v) (by rw [i0.2]) ⟨i1.1, nm_r (by rw [i1.2]) ⟨i2.1, nm_r (by rw [i2.2]) (fd_Y_ready hx H)⟩⟩⟩⟩⟩)⟩) (fun z => absurd hp z)
end
