/-- what a step ends in: the relation alone -/
def fd_RS (B s k0 : Nat) (ab0 : Nat → Int32) (yy0 : Int32) : SX → SY → Prop := fd_Rel B s k0 (fun _ _ => True) (fun _ => 0) (fun _ => 0) ab0 yy0
theorem fd_nar1 : vp_nar .boolean 1 = 1 := by decide
theorem fd_nar0 : vp_nar .boolean 0 = 0 := by decide
section
variable {rc cc sl nw no : Int32} {ops o1 o2 o3 sz st pr pc rg wk jn sd br io cp cl hd ct wt wc rr ab dx ox : Nat → Int32} {ss : Int64} {yy : Int32} {sp : Nat → Int64} {dy ly : Nat → Int32} {B s k0 : Nat}
theorem fd_send {x y v : Int32} (hr : fd_run k0 st ab x) (hpc : vp_in (pc x.toNatClampNeg) 12) (hg : fd_gd (ops (fd_k pr pc x.toNatClampNeg)) (o1 (fd_k pr pc x.toNatClampNeg)) (o2 (fd_k pr pc x.toNatClampNeg)) (o3 (fd_k pr pc x.toNatClampNeg))) (op : ops (fd_k pr pc x.toNatClampNeg) = 6) (ea : o1 (fd_k pr pc x.toNatClampNeg) = y) (ev : v = rg (3 * x.toNatClampNeg + (o2 (fd_k pr pc x.toNatClampNeg)).toNatClampNeg)) (hs : s + 200 < 2 ^ 62) (h : fd_K B s k0 rc cc sl nw no ops o1 o2 o3 sz st pr pc rg wk jn sd br io cp cl hd ct wt wc rr ab dx ox ss yy sp dy ly) : fd_Do (fun post => wpX_send post (rc, cc, sl, nw, no, ops, o1, o2, o3, sz, st, pr, pc, rg, wk, jn, sd, br, io, cp, cl, hd, ct, wt, wc, rr, ab, dx, ox) x y v) (fun post => wpY_send post (cc, sl, nw, no, ss, yy, ops, o1, o2, o3, sz, st, pr, pc, rg, wk, sp, cp, cl, hd, ct, ab, dy, ly) x y v) (fd_RS B (s + 200) k0 ab yy) := by
  have hx := hr.1
  have hy : vp_in y 4 := by rw [← ea]; exact (hg.2.2.2.2.2.1 (Or.inl op)).1
  obtain ⟨r, m1, fX, fY⟩ := fd_firsts0 hy h
  have hC := h.2.2.2.2.2.1
  have hpi := (fd_inc hpc (by omega)).1
  by_cases c0 : cl y.toNatClampNeg = 0
  · by_cases er : r = -1
    · have xr : r < 0 := (fd_M_neg m1).mpr er
      by_cases lt : ct y.toNatClampNeg < cp y.toNatClampNeg
      · obtain ⟨m, hm, ec⟩ : ∃ m, m < 3 ∧ ct y.toNatClampNeg = nI m := by
          obtain ⟨j, hj, e⟩ := vp_in_of (hC y hy).2 (by omega)
          obtain ⟨i, hi, e'⟩ := vp_in_of (hC y hy).1 (by omega)
          rw [e, e', nI_ltI (by omega) (by omega)] at lt
          exact ⟨j, by omega, e⟩
        have i1 := fd_c3 hy (vp_in_nI (n := m) (N := 3) hm (by omega))
        rw [nI_clamp (by omega)] at i1
        have K1 := fd_K_C (hd' := upd hd (3 * y.toNatClampNeg + m) v) (ct' := upd ct y.toNatClampNeg (nI m + 1)) h (fd_C_u (y := y) hC (by rw [nI_1]; exact vp_in_nI (by omega) (by omega)))
        have K2 := fd_K_own (pc' := upd pc x.toNatClampNeg (pc x.toNatClampNeg + 1)) K1 hx hr.2.1 fd_agr_r fd_ag_u (by rw [pk_us]; exact hpi)
        refine ⟨_, _, fun post H => And.intro hy (br_t c0 (fX _ (br_t er ⟨hy, hy, br_t lt (br_t er (fd_X_hold' hy hm ec (And.intro hx ⟨hx, nm_e H⟩)))⟩))), fun post H => ?_, fd_K_Rel0 K2 _ _ (Nat.le_refl B) (by omega)⟩
        unfold wpY_send
        refine fY _ ⟨hy, br_t c0 (br_t xr ⟨hy, hy, br_f (Int32.not_le.mpr lt) ⟨hy, hy, nm_r (e' := upd ct y.toNatClampNeg (nI m + 1)) (by rw [ec]) ⟨?_, nm_r (e' := upd hd (3 * y.toNatClampNeg + m) v) ?_ ⟨hx, hx, nm_e H⟩⟩⟩⟩)⟩
        · rw [ec]; exact i1.1
        · rw [ec, i1.2]
      · obtain ⟨w1, w2⟩ := fd_V_1 h (by omega) hx hr.2.1 hy (fun y' => by
          rw [op, ea]
          exact ⟨fun z => z.elim (fun q => q.2.symm) (fun q => absurd q.1 (by decide)), fun z => Or.inl ⟨Or.inl rfl, z.symm⟩⟩)
        have K1 := fd_K_rest (jn' := upd jn x.toNatClampNeg (-1)) (sd' := upd sd x.toNatClampNeg (vp_nar .boolean 1)) (br' := upd br x.toNatClampNeg v) h (by omega) hr hpc hg fd_ag_u fd_ag_u fd_ag_u fd_ag_r (Or.inl ⟨op, pk_us, by rw [pk_us]; exact fd_nar1, by rw [pk_us]; exact ev⟩) w2
        refine ⟨_, _, fun post H => And.intro hy (br_t c0 (fX _ (br_t er ⟨hy, hy, br_f lt ⟨hx, nm_e ⟨hx, nm_e (fd_X_waitAt hx hy w1 H)⟩⟩⟩))), fun post H => ?_, fd_K_Rel0 K1 _ _ (Nat.le_refl B) (by omega)⟩
        unfold wpY_send
        exact fY _ ⟨hy, br_t c0 (br_t xr ⟨hy, hy, br_t (Int32.not_lt.mp lt) (fd_Y_rest hx H)⟩)⟩
    · obtain ⟨hz, w, nop⟩ := fd_M_yes m1 er
      have s3 := w.1
      have n2 : st r.toNatClampNeg ≠ 2 := by rw [s3]; decide
      have hF := h.2.1 r.toNatClampNeg (fd_lt hz)
      have hrc := fd_K_rc h hz (by rw [s3]; decide)
      have hio := (fd_io hF s3 nop).1
      obtain ⟨wt', wc', hlv, hrl⟩ := fd_X_release (cc := cc) (sl := sl) (nw := nw) (no := no) (ops := ops) (o1 := o1) (o2 := o2) (o3 := o3) (sz := sz) (st := st) (pr := pr) (pc := pc) (rg := upd rg (3 * r.toNatClampNeg + (io r.toNatClampNeg).toNatClampNeg) v) (wk := wk) (jn := jn) (sd := sd) (br := br) (io := io) (cp := cp) (cl := cl) (hd := hd) (ct := ct) (rr := rr) (ab := ab) (dx := dx) (ox := ox) h.2.2.2.1 hz hrc
      have K1 := fd_K_rel h (by omega) hz s3 (fd_agr_u (x := v) (fd_lt hio)) hlv
      have fr := fd_fr_u (pc := pc) (v := 1) (w := pc r.toNatClampNeg + 1) n2 x.toNatClampNeg hr.2.1
      have K2 := fd_K_own (pc' := upd (upd pc r.toNatClampNeg (pc r.toNatClampNeg + 1)) x.toNatClampNeg (upd pc r.toNatClampNeg (pc r.toNatClampNeg + 1) x.toNatClampNeg + 1)) K1 hx fr.1 fd_agr_r fd_ag_u (by rw [pk_us, fr.2]; exact hpi)
      refine ⟨_, _, fun post H => And.intro hy (br_t c0 (fX _ (br_f er (br_f er (fd_X_fill hz hio (hrl _ (And.intro hx ⟨hx, nm_e H⟩))))))), fun post H => ?_, fd_K_Rel0 K2 _ _ (Nat.le_refl B) (by omega)⟩
      unfold wpY_send
      exact fY _ ⟨hy, br_t c0 (br_f (fd_nn hz) (fd_Y_give hz hF s3 nop ⟨hx, hx, nm_e H⟩))⟩
  · obtain ⟨u, v', h1, h2, h3⟩ := fd_finish (Or.inr rfl) hx (by omega) (fd_K_end (e := 6) h hr (Or.inr rfl))
    obtain ⟨rc', cc', sl', nw', no', ops', o1', o2', o3', sz', st', pr', pc', rg', wk', jn', sd', br', io', cp', cl', hd', ct', wt', wc', rr', ab', dx', ox', ss', yy', sp', dy', ly', rfl, rfl, hq⟩ := h3
    refine ⟨_, _, fun post H => And.intro hy (br_f c0 (h1 _ H)), fun post H => ?_, fd_Rel_0 ⟨rc', cc', sl', nw', no', ops', o1', o2', o3', sz', st', pr', pc', rg', wk', jn', sd', br', io', cp', cl', hd', ct', wt', wc', rr', ab', dx', ox', ss', yy', sp', dy', ly', rfl, rfl, hq⟩ _ _ (Nat.le_refl B) (by omega)⟩
    unfold wpY_send
    exact fY _ ⟨hy, br_f c0 (h2 _ H)⟩
/-- a number is taken at once -/
theorem fd_rcvT {x y c r : Int32} (hr : fd_run k0 st ab x) (hpc : vp_in (pc x.toNatClampNeg) 12) (hc : vp_in c 3) (hy : vp_in y 4) (hm : 0 ≤ r ↔ ¬ r = -1) (hf : ∀ post : Int32 → Prop, post r → wpY_first post (cc, sl, nw, no, ss, yy, ops, o1, o2, o3, sz, st, pr, pc, rg, wk, sp, cp, cl, hd, ct, ab, dy, ly) y 1) (gv : fd_gv (ct y.toNatClampNeg) (cl y.toNatClampNeg) r) (hs : s + 200 < 2 ^ 62) (h : fd_K B s k0 rc cc sl nw no ops o1 o2 o3 sz st pr pc rg wk jn sd br io cp cl hd ct wt wc rr ab dx ox ss yy sp dy ly) : fd_Do (fun post => wX_receive_41 post x y (x * 3 + c) rc cc sl nw no ops o1 o2 o3 sz st pr pc rg wk jn sd br io cp cl hd ct wt wc rr ab dx ox) (fun post => wpY_receive post (cc, sl, nw, no, ss, yy, ops, o1, o2, o3, sz, st, pr, pc, rg, wk, sp, cp, cl, hd, ct, ab, dy, ly) x y (3 * x + c)) (fd_RS B (s + 200) k0 ab yy) := by
  have hx := hr.1
  have i1 := fd_3' hx hc
  have i2 := fd_3 hx hc
  obtain ⟨n, u, v, h1, h2, ⟨rc', cc', sl', nw', no', ops', o1', o2', o3', sz', st', pr', pc', rg', wk', jn', sd', br', io', cp', cl', hd', ct', wt', wc', rr', ab', dx', ox', ss', yy', sp', dy', ly', rfl, rfl, K1, _, fr, eab, eyy⟩⟩ := fd_take hy (by omega) h
  have f := fr x.toNatClampNeg hr.2.1
  have K2 := fd_K_own (rg' := upd rg' (3 * x.toNatClampNeg + c.toNatClampNeg) n) (pc' := upd pc' x.toNatClampNeg (pc' x.toNatClampNeg + 1)) K1 hx f.1 (fd_agr_u (fd_lt hc)) fd_ag_u (by rw [pk_us, f.2]; exact (fd_inc hpc (by omega)).1)
  refine ⟨_, _, fun post H => ?_, fun post H => ?_, by rw [← eab, ← eyy]; exact fd_K_Rel0 K2 _ _ (Nat.le_refl B) (by omega)⟩
  · unfold wX_receive_41
    exact h1 _ ⟨i1.1, nm_r (by rw [i1.2]) ⟨hx, hx, nm_e H⟩⟩
  · unfold wpY_receive
    exact fd_Y_ww hf hm hy (fun _ => br_t rfl (h2 _ ⟨i2.1, nm_r (by rw [i2.2]) ⟨hx, hx, nm_e H⟩⟩)) (fun z => absurd gv z)
theorem fd_rcv7 {x y c : Int32} (hr : fd_run k0 st ab x) (hpc : vp_in (pc x.toNatClampNeg) 12) (hg : fd_gd (ops (fd_k pr pc x.toNatClampNeg)) (o1 (fd_k pr pc x.toNatClampNeg)) (o2 (fd_k pr pc x.toNatClampNeg)) (o3 (fd_k pr pc x.toNatClampNeg))) (op : ops (fd_k pr pc x.toNatClampNeg) = 7) (ea : o1 (fd_k pr pc x.toNatClampNeg) = y) (ec : o2 (fd_k pr pc x.toNatClampNeg) = c) (hs : s + 200 < 2 ^ 62) (h : fd_K B s k0 rc cc sl nw no ops o1 o2 o3 sz st pr pc rg wk jn sd br io cp cl hd ct wt wc rr ab dx ox ss yy sp dy ly) : fd_Do (fun post => wpX_receive post (rc, cc, sl, nw, no, ops, o1, o2, o3, sz, st, pr, pc, rg, wk, jn, sd, br, io, cp, cl, hd, ct, wt, wc, rr, ab, dx, ox) x y y c) (fun post => wpY_receive post (cc, sl, nw, no, ss, yy, ops, o1, o2, o3, sz, st, pr, pc, rg, wk, sp, cp, cl, hd, ct, ab, dy, ly) x y (3 * x + c)) (fd_RS B (s + 200) k0 ab yy) := by
  have hx := hr.1
  have hy : vp_in y 4 := by rw [← ea]; exact (hg.2.2.2.2.2.1 (Or.inr op)).1
  have hc : vp_in c 3 := by rw [← ec]; exact (hg.2.2.2.2.2.1 (Or.inr op)).2
  obtain ⟨r, m1, fX, fY⟩ := fd_firsts1 hy h
  have hct := (h.2.2.2.2.2.1 y hy).2
  rcases Classical.em (fd_gv (ct y.toNatClampNeg) (cl y.toNatClampNeg) r) with gv | gv
  · obtain ⟨u, v, h1, h2, h3⟩ := fd_rcvT hr hpc hc hy (fd_M_ge m1) fY gv hs h
    refine ⟨u, v, fun post H => ?_, h2, h3⟩
    unfold wpX_receive
    exact fd_X_ga fX hy hct (fun _ => br_f (by decide) (br_f (by decide) (h1 post H))) (fun z => absurd gv z)
  · obtain ⟨w1, w2⟩ := fd_V_1 h (by omega) hx hr.2.1 hy (fun y' => by
      rw [op, ea]
      exact ⟨fun z => z.elim (fun q => q.2.symm) (fun q => absurd q.1 (by decide)), fun z => Or.inl ⟨Or.inr (Or.inl rfl), z.symm⟩⟩)
    have K1 := fd_K_rest (jn' := upd jn x.toNatClampNeg (-1)) (sd' := upd sd x.toNatClampNeg (vp_nar .boolean 0)) (io' := upd io x.toNatClampNeg c) h (by omega) hr hpc hg fd_ag_u fd_ag_u fd_ag_r fd_ag_u (Or.inr (Or.inl ⟨op, pk_us, by rw [pk_us]; exact fd_nar0, by rw [pk_us]; exact ec.symm⟩)) w2
    refine ⟨_, _, fun post H => ?_, fun post H => ?_, fd_K_Rel0 K1 _ _ (Nat.le_refl B) (by omega)⟩
    · unfold wpX_receive
      exact fd_X_ga fX hy hct (fun z => absurd z gv) (fun _ => br_t rfl (fd_X_ga fX hy hct (fun z => absurd z gv) (fun _ => br_t rfl ⟨hx, nm_e ⟨hx, nm_e (fd_X_waitAt hx hy w1 (br_t rfl H))⟩⟩)))
    · unfold wpY_receive
      exact fd_Y_ww fY (fd_M_ge m1) hy (fun z => absurd z gv) (fun _ => br_f (by decide) (fd_Y_rest hx H))
theorem fd_at8 {a b y : Int32} : fd_at 8 a b y ↔ (y = a ∨ y = b) := by
  unfold fd_at
  exact ⟨fun z => z.elim (fun q => Or.inl q.2.symm) (fun q => Or.inr q.2.symm), fun z => z.elim (fun q => Or.inl ⟨Or.inr (Or.inr rfl), q.symm⟩) (fun q => Or.inr ⟨rfl, q.symm⟩)⟩
/-- the part of the reference's step that chooses -/
def fd_Y8 (post : SY → Prop) (x k a b : Int32) (cc sl nw no : Int32) (ss : Int64) (yy : Int32) (ops o1 o2 o3 sz st pr pc rg wk : Nat → Int32) (sp : Nat → Int64) (cp cl hd ct ab dy ly : Nat → Int32) : Prop := wpY_wouldWait (fun r => (r = 0 → wY_step_167 post x k a b cc sl nw no ss yy ops o1 o2 o3 sz st pr pc rg wk sp cp cl hd ct ab dy ly) ∧ (¬ r = 0 → wpY_wouldWait (fun r' => (r' = 0 → wY_step_168 post x k a b 1 cc sl nw no ss yy ops o1 o2 o3 sz st pr pc rg wk sp cp cl hd ct ab dy ly) ∧ (¬ r' = 0 → wY_step_167 post x k a b cc sl nw no ss yy ops o1 o2 o3 sz st pr pc rg wk sp cp cl hd ct ab dy ly)) (cc, sl, nw, no, ss, yy, ops, o1, o2, o3, sz, st, pr, pc, rg, wk, sp, cp, cl, hd, ct, ab, dy, ly) b)) (cc, sl, nw, no, ss, yy, ops, o1, o2, o3, sz, st, pr, pc, rg, wk, sp, cp, cl, hd, ct, ab, dy, ly) a
theorem fd_rcv8 {x y z c k : Int32} (hr : fd_run k0 st ab x) (hpc : vp_in (pc x.toNatClampNeg) 12) (hg : fd_gd (ops (fd_k pr pc x.toNatClampNeg)) (o1 (fd_k pr pc x.toNatClampNeg)) (o2 (fd_k pr pc x.toNatClampNeg)) (o3 (fd_k pr pc x.toNatClampNeg))) (op : ops (fd_k pr pc x.toNatClampNeg) = 8) (ea : o1 (fd_k pr pc x.toNatClampNeg) = y) (eb : o2 (fd_k pr pc x.toNatClampNeg) = z) (ec : o3 (fd_k pr pc x.toNatClampNeg) = c) (hk : vp_in k 84) (ek : fd_k pr pc x.toNatClampNeg = k.toNatClampNeg) (hs : s + 200 < 2 ^ 62) (h : fd_K B s k0 rc cc sl nw no ops o1 o2 o3 sz st pr pc rg wk jn sd br io cp cl hd ct wt wc rr ab dx ox ss yy sp dy ly) : fd_Do (fun post => wpX_receive post (rc, cc, sl, nw, no, ops, o1, o2, o3, sz, st, pr, pc, rg, wk, jn, sd, br, io, cp, cl, hd, ct, wt, wc, rr, ab, dx, ox) x y z c) (fun post => fd_Y8 post x k y z cc sl nw no ss yy ops o1 o2 o3 sz st pr pc rg wk sp cp cl hd ct ab dy ly) (fd_RS B (s + 200) k0 ab yy) := by
  have hx := hr.1
  obtain ⟨hy, hz, hc⟩ := hg.2.2.2.2.2.2.1 op
  have ec' : o3 k.toNatClampNeg = c := by rw [← ek]; exact ec
  rw [ea] at hy
  rw [eb] at hz
  rw [ec] at hc
  obtain ⟨r, m1, fX, fY⟩ := fd_firsts1 hy h
  obtain ⟨r', m1', fX', fY'⟩ := fd_firsts1 hz h
  have hct := (h.2.2.2.2.2.1 y hy).2
  have hct' := (h.2.2.2.2.2.1 z hz).2
  rcases Classical.em (fd_gv (ct y.toNatClampNeg) (cl y.toNatClampNeg) r) with gv | gv
  · obtain ⟨u, v, h1, h2, h3⟩ := fd_rcvT hr hpc hc hy (fd_M_ge m1) fY gv hs h
    obtain ⟨rc', cc', sl', nw', no', ops', o1', o2', o3', sz', st', pr', pc', rg', wk', jn', sd', br', io', cp', cl', hd', ct', wt', wc', rr', ab', dx', ox', ss', yy', sp', dy', ly', rfl, rfl, hq⟩ := h3
    refine ⟨_, _, fun post H => ?_, fun post H => ?_, ⟨rc', cc', sl', nw', no', ops', o1', o2', o3', sz', st', pr', pc', rg', wk', jn', sd', br', io', cp', cl', hd', ct', wt', wc', rr', ab', dx', ox', ss', yy', sp', dy', ly', rfl, rfl, hq⟩⟩
    · unfold wpX_receive
      exact fd_X_ga fX hy hct (fun _ => br_f (by decide) (br_f (by decide) (h1 post H))) (fun w => absurd gv w)
    · unfold fd_Y8
      refine fd_Y_ww fY (fd_M_ge m1) hy (fun _ => br_t rfl (br_t rfl (And.intro hk ?_))) (fun w => absurd gv w)
      rw [ec']
      exact h2 _ H
  · rcases Classical.em (fd_gv (ct z.toNatClampNeg) (cl z.toNatClampNeg) r') with gv' | gv'
    · obtain ⟨u, v, h1, h2, h3⟩ := fd_rcvT hr hpc hc hz (fd_M_ge m1') fY' gv' hs h
      obtain ⟨rc', cc', sl', nw', no', ops', o1', o2', o3', sz', st', pr', pc', rg', wk', jn', sd', br', io', cp', cl', hd', ct', wt', wc', rr', ab', dx', ox', ss', yy', sp', dy', ly', rfl, rfl, hq⟩ := h3
      refine ⟨_, _, fun post H => ?_, fun post H => ?_, ⟨rc', cc', sl', nw', no', ops', o1', o2', o3', sz', st', pr', pc', rg', wk', jn', sd', br', io', cp', cl', hd', ct', wt', wc', rr', ab', dx', ox', ss', yy', sp', dy', ly', rfl, rfl, hq⟩⟩
      · unfold wpX_receive
        exact fd_X_ga fX hy hct (fun w => absurd w gv) (fun _ => br_t rfl (fd_X_ga fX' hz hct' (fun _ => br_f (by decide) (br_t rfl (h1 post H))) (fun w => absurd gv' w)))
      · unfold fd_Y8
        refine fd_Y_ww fY (fd_M_ge m1) hy (fun w => absurd w gv) (fun _ => br_f (by decide) (fd_Y_ww fY' (fd_M_ge m1') hz (fun _ => br_t rfl (br_f (by decide) (And.intro hk ?_))) (fun w => absurd gv' w)))
        rw [ec']
        exact h2 _ H
    · have yres : ∀ post : SY → Prop, wpY_rest post (cc, sl, nw, no, ss, yy, ops, o1, o2, o3, sz, st, pr, pc, rg, wk, sp, cp, cl, hd, ct, ab, dy, ly) x → fd_Y8 post x k y z cc sl nw no ss yy ops o1 o2 o3 sz st pr pc rg wk sp cp cl hd ct ab dy ly := fun post H => by
        unfold fd_Y8
        refine fd_Y_ww fY (fd_M_ge m1) hy (fun w => absurd w gv) (fun _ => br_f (by decide) (fd_Y_ww fY' (fd_M_ge m1') hz (fun w => absurd w gv') (fun _ => br_f (by decide) (br_t rfl (And.intro hk ?_)))))
        unfold wpY_receive
        exact fd_Y_ww fY (fd_M_ge m1) hy (fun z => absurd z gv) (fun _ => br_f (by decide) H)
      by_cases ne : z = y
      · obtain ⟨w1, w2⟩ := fd_V_1 h (by omega) hx hr.2.1 hy (fun y' => by
          rw [op, ea, eb, ne, fd_at8]
          exact ⟨fun q => q.elim id id, Or.inl⟩)
        have K1 := fd_K_rest (jn' := upd jn x.toNatClampNeg (-1)) (sd' := upd sd x.toNatClampNeg (vp_nar .boolean 0)) (io' := upd io x.toNatClampNeg c) h (by omega) hr hpc hg fd_ag_u fd_ag_u fd_ag_r fd_ag_u (Or.inr (Or.inr (Or.inl ⟨op, pk_us, by rw [pk_us]; exact fd_nar0, by rw [pk_us]; exact ec.symm⟩))) w2
        refine ⟨_, _, fun post H => ?_, fun post H => yres post (fd_Y_rest hx H), fd_K_Rel0 K1 _ _ (Nat.le_refl B) (by omega)⟩
        unfold wpX_receive
        exact fd_X_ga fX hy hct (fun z => absurd z gv) (fun _ => br_t rfl (fd_X_ga fX' hz hct' (fun z => absurd z gv') (fun _ => br_t rfl ⟨hx, nm_e ⟨hx, nm_e (fd_X_waitAt hx hy w1 (br_t ne H))⟩⟩)))
      · obtain ⟨w1, w2, w3⟩ := fd_V_2 h (by omega) hx hr.2.1 hy hz ne (fun y' => by
          rw [op, ea, eb, fd_at8])
        have us : upd (upd st x.toNatClampNeg 3) x.toNatClampNeg 3 = upd st x.toNatClampNeg 3 := by
          funext j; unfold upd; by_cases e : j = x.toNatClampNeg
          · rw [if_pos e, if_pos e]
          · rw [if_neg e]
        have uj : upd (upd jn x.toNatClampNeg (-1)) x.toNatClampNeg (-1) = upd jn x.toNatClampNeg (-1) := by
          funext j; unfold upd; by_cases e : j = x.toNatClampNeg
          · rw [if_pos e, if_pos e]
          · rw [if_neg e]
        have K1 := fd_K_rest (jn' := upd jn x.toNatClampNeg (-1)) (sd' := upd sd x.toNatClampNeg (vp_nar .boolean 0)) (io' := upd io x.toNatClampNeg c) h (by omega) hr hpc hg fd_ag_u fd_ag_u fd_ag_r fd_ag_u (Or.inr (Or.inr (Or.inl ⟨op, pk_us, by rw [pk_us]; exact fd_nar0, by rw [pk_us]; exact ec.symm⟩))) w3
        refine ⟨_, _, fun post H => ?_, fun post H => yres post (fd_Y_rest hx H), fd_K_Rel0 K1 _ _ (Nat.le_refl B) (by omega)⟩
        unfold wpX_receive
        refine fd_X_ga fX hy hct (fun z => absurd z gv) (fun _ => br_t rfl (fd_X_ga fX' hz hct' (fun z => absurd z gv') (fun _ => br_t rfl ⟨hx, nm_e ⟨hx, nm_e (fd_X_waitAt hx hy w1 (br_f ne (fd_X_waitAt hx hz w2 ?_)))⟩⟩)))
        rw [us, uj]
        exact H
theorem fd_join {x t b : Int32} (hr : fd_run k0 st ab x) (hpc : vp_in (pc x.toNatClampNeg) 12) (hg : fd_gd (ops (fd_k pr pc x.toNatClampNeg)) (o1 (fd_k pr pc x.toNatClampNeg)) (o2 (fd_k pr pc x.toNatClampNeg)) (o3 (fd_k pr pc x.toNatClampNeg))) (op : ops (fd_k pr pc x.toNatClampNeg) = 10) (et : t = rg (3 * x.toNatClampNeg + (o1 (fd_k pr pc x.toNatClampNeg)).toNatClampNeg)) (eb : o2 (fd_k pr pc x.toNatClampNeg) = b) (hs : s + 200 < 2 ^ 62) (h : fd_K B s k0 rc cc sl nw no ops o1 o2 o3 sz st pr pc rg wk jn sd br io cp cl hd ct wt wc rr ab dx ox ss yy sp dy ly) : fd_Do (fun post => wpX_join post (rc, cc, sl, nw, no, ops, o1, o2, o3, sz, st, pr, pc, rg, wk, jn, sd, br, io, cp, cl, hd, ct, wt, wc, rr, ab, dx, ox) x t b) (fun post => wpY_join post (cc, sl, nw, no, ss, yy, ops, o1, o2, o3, sz, st, pr, pc, rg, wk, sp, cp, cl, hd, ct, ab, dy, ly) x t (3 * x + b)) (fd_RS B (s + 200) k0 ab yy) := by
  have hx := hr.1
  have hb : vp_in b 3 := by rw [← eb]; exact (hg.2.2.1 (Or.inr op)).2
  have i1 := fd_3' hx hb
  have i2 := fd_3 hx hb
  have hpi := (fd_inc hpc (by omega)).1
  have KV : ∀ n : Int32, fd_K B s k0 rc cc sl nw no ops o1 o2 o3 sz st pr (upd pc x.toNatClampNeg (pc x.toNatClampNeg + 1)) (upd rg (3 * x.toNatClampNeg + b.toNatClampNeg) n) wk jn sd br io cp cl hd ct wt wc rr ab dx ox ss yy sp dy ly := fun n => fd_K_own h hx hr.2.1 (fd_agr_u (fd_lt hb)) fd_ag_u (by rw [pk_us]; exact hpi)
  have x105 : ∀ (n : Int32) (post : SX → Prop), post (rc, cc, sl, nw, no, ops, o1, o2, o3, sz, st, pr, upd pc x.toNatClampNeg (pc x.toNatClampNeg + 1), upd rg (3 * x.toNatClampNeg + b.toNatClampNeg) n, wk, jn, sd, br, io, cp, cl, hd, ct, wt, wc, rr, ab, dx, ox) → wX_join_105 post x n (x * 3 + b) rc cc sl nw no ops o1 o2 o3 sz st pr pc rg wk jn sd br io cp cl hd ct wt wc rr ab dx ox := fun n post H => And.intro i1.1 (nm_r (by rw [i1.2]) ⟨hx, hx, nm_e H⟩)
  have y85 : ∀ (n : Int32) (post : SY → Prop), post (cc, sl, nw, no, ss, yy, ops, o1, o2, o3, sz, st, pr, upd pc x.toNatClampNeg (pc x.toNatClampNeg + 1), upd rg (3 * x.toNatClampNeg + b.toNatClampNeg) n, wk, sp, cp, cl, hd, ct, ab, dy, ly) → wY_join_85 post x n (3 * x + b) cc sl nw no ss yy ops o1 o2 o3 sz st pr pc rg wk sp cp cl hd ct ab dy ly := fun n post H => And.intro i2.1 (nm_r (by rw [i2.2]) ⟨hx, hx, nm_e H⟩)
  have x18 : ∀ post : SX → Prop, post (rc, cc, sl, nw, no, ops, o1, o2, o3, sz, st, pr, upd pc x.toNatClampNeg (pc x.toNatClampNeg + 1), upd rg (3 * x.toNatClampNeg + b.toNatClampNeg) (-1000000), wk, jn, sd, br, io, cp, cl, hd, ct, wt, wc, rr, ab, dx, ox) → wX_join_18 post x t b rc cc sl nw no ops o1 o2 o3 sz st pr pc rg wk jn sd br io cp cl hd ct wt wc rr ab dx ox := fun post H => br_t rfl (br_t rfl (br_t rfl (x105 _ post H)))
  have y28 : ∀ post : SY → Prop, post (cc, sl, nw, no, ss, yy, ops, o1, o2, o3, sz, st, pr, upd pc x.toNatClampNeg (pc x.toNatClampNeg + 1), upd rg (3 * x.toNatClampNeg + b.toNatClampNeg) (-1000000), wk, sp, cp, cl, hd, ct, ab, dy, ly) → wY_join_28 post x t (3 * x + b) cc sl nw no ss yy ops o1 o2 o3 sz st pr pc rg wk sp cp cl hd ct ab dy ly := fun post H => br_t rfl (br_t rfl (y85 _ post H))
  rcases Classical.em (vp_in t 12) with ht | ht
  · by_cases e : t = x
    · exact ⟨_, _, fun post H => (by unfold wpX_join; exact fd_X_bl 12 (by omega) rfl (fun _ => br_f (by decide) (br_t e (x18 post H))) (fun z => absurd ht z)), fun post H => (by unfold wpY_join; exact fd_Y_wi 11 (by omega) rfl (fun _ => br_f (by decide) (br_t e (y28 post H))) (fun z => absurd ht z)), fd_K_Rel0 (KV (-1000000)) _ _ (Nat.le_refl B) (by omega)⟩
    · have j1 := fd_30' ht
      have j2 := fd_30 ht
      rcases Classical.em (fd_aw (st t.toNatClampNeg)) with aw | aw
      · have n0 : ¬ st t.toNatClampNeg = 0 := by
          rcases aw with q | q | q | q <;> rw [q] <;> decide
        have w2 := fd_V_0 h hr.2.1 (fun y' z => by
          rw [op] at z
          rcases z with q | q
          · exact absurd q.1 (by decide)
          · exact absurd q.1 (by decide))
        have K1 := fd_K_rest (jn' := upd jn x.toNatClampNeg t) (io' := upd io x.toNatClampNeg b) h (by omega) hr hpc hg fd_ag_u fd_ag_r fd_ag_r fd_ag_u (Or.inr (Or.inr (Or.inr ⟨op, by rw [pk_us]; exact et, by rw [pk_us]; exact eb.symm⟩))) w2
        exact ⟨_, _, fun post H => (by unfold wpX_join; exact fd_X_bl 12 (by omega) rfl (fun _ => br_f (by decide) (br_f e (br_f (by decide) (fd_X_aw ht (fun _ => br_f (by decide) ⟨hx, nm_e ⟨hx, nm_e ⟨hx, nm_e H⟩⟩⟩) (fun z => absurd aw z))))) (fun z => absurd ht z)), fun post H => (by unfold wpY_join; exact fd_Y_wi 11 (by omega) rfl (fun _ => br_f (by decide) (br_f e ⟨ht, br_f n0 (br_f (by decide) (fd_Y_aw ht (fun _ => br_f (by decide) (fd_Y_rest hx H)) (fun z => absurd aw z)))⟩)) (fun z => absurd ht z)), fd_K_Rel0 K1 _ _ (Nat.le_refl B) (by omega)⟩
      · by_cases s5 : st t.toNatClampNeg = 5
        · have n0 : ¬ st t.toNatClampNeg = 0 := by rw [s5]; decide
          refine ⟨_, _, fun post H => (by unfold wpX_join; exact fd_X_bl 12 (by omega) rfl (fun _ => br_f (by decide) (br_f e (br_f (by decide) (fd_X_aw ht (fun z => absurd z aw) (fun _ => br_t rfl (br_f (by decide) ⟨ht, br_t s5 (br_f (by decide) ⟨j1.1, by rw [j1.2]; exact x105 _ post H⟩)⟩)))))) (fun z => absurd ht z)), fun post H => (by unfold wpY_join; exact fd_Y_wi 11 (by omega) rfl (fun _ => br_f (by decide) (br_f e ⟨ht, br_f n0 (br_f (by decide) (fd_Y_aw ht (fun z => absurd z aw) (fun _ => br_t rfl (br_f (by decide) ⟨ht, br_t s5 ⟨j2.1, by rw [j2.2]; exact y85 _ post H⟩⟩))))⟩)) (fun z => absurd ht z)), fd_K_Rel0 (KV (rg (3 * t.toNatClampNeg))) _ _ (Nat.le_refl B) (by omega)⟩
        · refine ⟨_, _, fun post H => (by unfold wpX_join; exact fd_X_bl 12 (by omega) rfl (fun _ => br_f (by decide) (br_f e (br_f (by decide) (fd_X_aw ht (fun z => absurd z aw) (fun _ => br_t rfl (br_f (by decide) ⟨ht, br_f s5 (br_t rfl (x105 _ post H))⟩)))))) (fun z => absurd ht z)), fun post H => (by unfold wpY_join; exact fd_Y_wi 11 (by omega) rfl (fun _ => br_f (by decide) (br_f e ⟨ht, br_c (fun _ => y28 post H) (fun _ => br_f (by decide) (fd_Y_aw ht (fun z => absurd z aw) (fun _ => br_t rfl (br_f (by decide) ⟨ht, br_f s5 (y85 _ post H)⟩))))⟩)) (fun z => absurd ht z)), fd_K_Rel0 (KV (-1000000)) _ _ (Nat.le_refl B) (by omega)⟩
  · exact ⟨_, _, fun post H => (by unfold wpX_join; exact fd_X_bl 12 (by omega) rfl (fun z => absurd z ht) (fun _ => br_t rfl (x18 post H))), fun post H => (by unfold wpY_join; exact fd_Y_wi 11 (by omega) rfl (fun z => absurd z ht) (fun _ => br_t rfl (y28 post H))), fd_K_Rel0 (KV (-1000000)) _ _ (Nat.le_refl B) (by omega)⟩
end
