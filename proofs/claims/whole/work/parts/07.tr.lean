def fd_run (k0 : Nat) (st ab : Nat → Int32) (x : Int32) : Prop := vp_in x 12 ∧ st x.toNatClampNeg = 2 ∧ k0 < 3 ∧ ab k0 = x
def fd_e (e : Int32) : Prop := e = 5 ∨ e = 6
theorem fd_e_n {e : Int32} (h : fd_e e) : ¬ (e = 1 ∨ e = 2 ∨ e = 3 ∨ e = 4) := by
  rcases h with h | h <;> subst h <;> decide
theorem fd_e_1 {e : Int32} (h : fd_e e) : e ≠ 1 := fun z => fd_e_n h (Or.inl z)
theorem fd_e_3 {e : Int32} (h : fd_e e) : e ≠ 3 := fun z => fd_e_n h (Or.inr (Or.inr (Or.inl z)))
theorem fd_Rel_m {B B' s s' k0 : Nat} {W0 W0' : Int32 → Nat → Prop} {st0 pc0 st1 pc1 ab0 : Nat → Int32} {yy0 : Int32} {u : SX} {v : SY} (h : fd_Rel B s k0 W0 st0 pc0 ab0 yy0 u v) (hB : B ≤ B') (hs : s ≤ s') (hW : ∀ y g, W0 y g → W0' y g) (hf : ∀ g, st1 g = 2 → st0 g = 2 ∧ pc0 g = pc1 g) : fd_Rel B' s' k0 W0' st1 pc1 ab0 yy0 u v := by
  obtain ⟨rc, cc, sl, nw, no, ops, o1, o2, o3, sz, st, pr, pc, rg, wk, jn, sd, br, io, cp, cl, hd, ct, wt, wc, rr, ab, dx, ox, ss, yy, sp, dy, ly, e1, e2, ⟨hG, hF, hR, hV, hS, hC, ⟨n, hO1, hO2⟩, hN⟩, h2, h3, h4⟩ := h
  exact ⟨rc, cc, sl, nw, no, ops, o1, o2, o3, sz, st, pr, pc, rg, wk, jn, sd, br, io, cp, cl, hd, ct, wt, wc, rr, ab, dx, ox, ss, yy, sp, dy, ly, e1, e2, ⟨hG, hF, hR, hV, fd_S_m hS hs, hC, ⟨n, by omega, hO2⟩, hN⟩, fun y g z => hW y g (h2 y g z), fun g z => ⟨(h3 g (hf g z).1).1, ((h3 g (hf g z).1).2).trans (hf g z).2⟩, h4⟩
theorem fd_Rel_0 {B s k0 : Nat} {W0 : Int32 → Nat → Prop} {st0 pc0 ab0 : Nat → Int32} {yy0 : Int32} {u : SX} {v : SY} (h : fd_Rel B s k0 W0 st0 pc0 ab0 yy0 u v) (B' s' : Nat) (hB : B ≤ B') (hs : s ≤ s') : fd_Rel B' s' k0 (fun _ _ => True) (fun _ => 0) (fun _ => 0) ab0 yy0 u v :=
  fd_Rel_m h hB hs (fun _ _ _ => trivial) (fun g z => absurd (z : (0 : Int32) = 2) (by decide))
section
variable {rc cc sl nw no : Int32} {ops o1 o2 o3 sz st pr pc rg wk jn sd br io cp cl hd ct wt wc rr ab dx ox : Nat → Int32} {ss : Int64} {yy : Int32} {sp : Nat → Int64} {dy ly : Nat → Int32} {B s k0 : Nat}
theorem fd_K_Rel (h : fd_K B s k0 rc cc sl nw no ops o1 o2 o3 sz st pr pc rg wk jn sd br io cp cl hd ct wt wc rr ab dx ox ss yy sp dy ly) : fd_Rel B s k0 (fd_wa ops o1 o2 st pr pc) st pc ab yy (rc, cc, sl, nw, no, ops, o1, o2, o3, sz, st, pr, pc, rg, wk, jn, sd, br, io, cp, cl, hd, ct, wt, wc, rr, ab, dx, ox) (cc, sl, nw, no, ss, yy, ops, o1, o2, o3, sz, st, pr, pc, rg, wk, sp, cp, cl, hd, ct, ab, dy, ly) := ⟨rc, cc, sl, nw, no, ops, o1, o2, o3, sz, st, pr, pc, rg, wk, jn, sd, br, io, cp, cl, hd, ct, wt, wc, rr, ab, dx, ox, ss, yy, sp, dy, ly, rfl, rfl, h, fun _ _ z => z, fun _ z => ⟨z, rfl⟩, rfl, rfl⟩
theorem fd_K_Rel0 (h : fd_K B s k0 rc cc sl nw no ops o1 o2 o3 sz st pr pc rg wk jn sd br io cp cl hd ct wt wc rr ab dx ox ss yy sp dy ly) (B' s' : Nat) (hB : B ≤ B') (hs : s ≤ s') : fd_Rel B' s' k0 (fun _ _ => True) (fun _ => 0) (fun _ => 0) ab yy (rc, cc, sl, nw, no, ops, o1, o2, o3, sz, st, pr, pc, rg, wk, jn, sd, br, io, cp, cl, hd, ct, wt, wc, rr, ab, dx, ox) (cc, sl, nw, no, ss, yy, ops, o1, o2, o3, sz, st, pr, pc, rg, wk, sp, cp, cl, hd, ct, ab, dy, ly) := fd_Rel_0 (fd_K_Rel h) B' s' hB hs
theorem fd_run_N {x : Int32} (h : fd_run k0 st ab x) : st x.toNatClampNeg ≠ 2 ∨ (k0 < 3 ∧ ab k0 = nI x.toNatClampNeg ∧ x.toNatClampNeg < 12) := Or.inr ⟨h.2.2.1, h.2.2.2.trans (fd_eq h.1), fd_lt h.1⟩
theorem fd_K_rel {x : Int32} {rg' wt' wc' : Nat → Int32} (h : fd_K B s k0 rc cc sl nw no ops o1 o2 o3 sz st pr pc rg wk jn sd br io cp cl hd ct wt wc rr ab dx ox ss yy sp dy ly) (hs : s < 2 ^ 62) (hx : vp_in x 12) (s3 : st x.toNatClampNeg = 3) (ar : fd_agr x.toNatClampNeg rg rg') (hl : fd_lv wt wc wt' wc' x.toNatClampNeg) : fd_K B (s + 1) k0 (rc + 1) cc sl nw no ops o1 o2 o3 sz (upd st x.toNatClampNeg 1) pr (upd pc x.toNatClampNeg (pc x.toNatClampNeg + 1)) rg' wk jn sd br io cp cl hd ct wt' wc' (upd rr rc.toNatClampNeg x) ab dx ox (ss + 1) yy (vp_updL sp x.toNatClampNeg (ss + 1)) dy ly := by
  obtain ⟨hG, hF, hR, hV, hS, hC, hO, hN⟩ := h
  have hf := fd_lt hx
  have n1 : st x.toNatClampNeg ≠ 1 := by rw [s3]; decide
  have n2 : st x.toNatClampNeg ≠ 2 := by rw [s3]; decide
  have m3 : upd st x.toNatClampNeg 1 x.toNatClampNeg ≠ 3 := by rw [pk_us]; decide
  have hp := (hF x.toNatClampNeg hf).1 (Or.inr (Or.inr (Or.inl s3)))
  have hc := ((hF x.toNatClampNeg hf).2 s3).1
  exact ⟨hG, fd_Fs hF fd_ag_u fd_ag_r fd_ag_u fd_ag_r fd_ag_r fd_ag_r fd_ag_r ar (fd_F_n m3 ⟨hp.1, by rw [pk_us]; exact (fd_inc hc (by omega)).1⟩), (fd_R_a hR hS hs hf fd_ag_u n1 pk_us (fd_eq hx)).2, fd_V_r hV hl fd_ag_u fd_ag_r fd_ag_u fd_agL_u m3, fd_S_u hS hs, hC, hO, fd_N_s hN fd_ag_u (Or.inl n2)⟩
theorem fd_K_rc {x : Int32} (h : fd_K B s k0 rc cc sl nw no ops o1 o2 o3 sz st pr pc rg wk jn sd br io cp cl hd ct wt wc rr ab dx ox ss yy sp dy ly) (hx : vp_in x 12) (n1 : st x.toNatClampNeg ≠ 1) : vp_in rc 12 := by
  obtain ⟨L, hQ, _, hc⟩ := h.2.2.1
  rw [hc]
  exact vp_in_nI (fd_Q_lt hQ (fd_lt hx) n1) (by omega)
theorem fd_fr_u {x v w : Int32} (n2 : st x.toNatClampNeg ≠ 2) : ∀ g, st g = 2 → upd st x.toNatClampNeg v g = 2 ∧ upd pc x.toNatClampNeg w g = pc g := fun g z => by
  have e : g ≠ x.toNatClampNeg := fun q => n2 (q ▸ z)
  exact ⟨(pk_un e).trans z, pk_un e⟩
theorem fd_fr_u' {x v : Int32} (n2 : st x.toNatClampNeg ≠ 2) : ∀ g, st g = 2 → upd st x.toNatClampNeg v g = 2 ∧ pc g = pc g := fun g z => by
  have e : g ≠ x.toNatClampNeg := fun q => n2 (q ▸ z)
  exact ⟨(pk_un e).trans z, rfl⟩
theorem fd_wa_u {x y : Int32} {g : Nat} {w w' : Int32} (n3 : w ≠ 3) (h : fd_wa ops o1 o2 (upd st x.toNatClampNeg w) pr (upd pc x.toNatClampNeg w') y g) : fd_wa ops o1 o2 st pr pc y g ∧ g ≠ x.toNatClampNeg := by
  by_cases e : g = x.toNatClampNeg
  · rw [e] at h; exact absurd (pk_us.symm.trans h.1) n3
  · exact ⟨(fd_wa_c (pk_un e) rfl (pk_un e)).mp h, e⟩
theorem fd_wa_u' {x y : Int32} {g : Nat} {w : Int32} (n3 : w ≠ 3) (h : fd_wa ops o1 o2 (upd st x.toNatClampNeg w) pr pc y g) : fd_wa ops o1 o2 st pr pc y g ∧ g ≠ x.toNatClampNeg := by
  by_cases e : g = x.toNatClampNeg
  · rw [e] at h; exact absurd (pk_us.symm.trans h.1) n3
  · exact ⟨(fd_wa_c (pk_un e) rfl rfl).mp h, e⟩
/-- the running fibre ends -/
theorem fd_K_end {x e : Int32} (h : fd_K B s k0 rc cc sl nw no ops o1 o2 o3 sz st pr pc rg wk jn sd br io cp cl hd ct wt wc rr ab dx ox ss yy sp dy ly) (hr : fd_run k0 st ab x) (he : fd_e e) : fd_K B s k0 rc cc sl nw no ops o1 o2 o3 sz (upd st x.toNatClampNeg e) pr pc rg wk jn sd br io cp cl hd ct wt wc rr ab dx ox ss yy sp dy ly := by
  obtain ⟨hG, hF, hR, hV, hS, hC, hO, hN⟩ := h
  have n1 : st x.toNatClampNeg ≠ 1 := by rw [hr.2.1]; decide
  have n3 : st x.toNatClampNeg ≠ 3 := by rw [hr.2.1]; decide
  have m1 : upd st x.toNatClampNeg e x.toNatClampNeg ≠ 1 := by rw [pk_us]; exact fd_e_1 he
  have m3 : upd st x.toNatClampNeg e x.toNatClampNeg ≠ 3 := by rw [pk_us]; exact fd_e_3 he
  exact ⟨hG, fd_Fs hF fd_ag_u fd_ag_r fd_ag_r fd_ag_r fd_ag_r fd_ag_r fd_ag_r fd_agr_r (fd_F_o (by rw [pk_us]; exact fd_e_n he)), fd_R_s hR fd_ag_u fd_agL_r n1 m1, fd_V_s hV fd_ag_u fd_ag_r fd_ag_r fd_agL_r n3 m3, hS, hC, hO, fd_N_s hN fd_ag_u (fd_run_N hr)⟩
/-- a waiting fibre ends -/
theorem fd_K_end3 {x e : Int32} {wt' wc' : Nat → Int32} (h : fd_K B s k0 rc cc sl nw no ops o1 o2 o3 sz st pr pc rg wk jn sd br io cp cl hd ct wt wc rr ab dx ox ss yy sp dy ly) (s3 : st x.toNatClampNeg = 3) (he : fd_e e) (hl : fd_lv wt wc wt' wc' x.toNatClampNeg) : fd_K B s k0 rc cc sl nw no ops o1 o2 o3 sz (upd st x.toNatClampNeg e) pr pc rg wk jn sd br io cp cl hd ct wt' wc' rr ab dx ox ss yy sp dy ly := by
  obtain ⟨hG, hF, hR, hV, hS, hC, hO, hN⟩ := h
  have n1 : st x.toNatClampNeg ≠ 1 := by rw [s3]; decide
  have n2 : st x.toNatClampNeg ≠ 2 := by rw [s3]; decide
  have m1 : upd st x.toNatClampNeg e x.toNatClampNeg ≠ 1 := by rw [pk_us]; exact fd_e_1 he
  have m3 : upd st x.toNatClampNeg e x.toNatClampNeg ≠ 3 := by rw [pk_us]; exact fd_e_3 he
  exact ⟨hG, fd_Fs hF fd_ag_u fd_ag_r fd_ag_r fd_ag_r fd_ag_r fd_ag_r fd_ag_r fd_agr_r (fd_F_o (by rw [pk_us]; exact fd_e_n he)), fd_R_s hR fd_ag_u fd_agL_r n1 m1, fd_V_r hV hl fd_ag_u fd_ag_r fd_ag_r fd_agL_r m3, hS, hC, hO, fd_N_s hN fd_ag_u (Or.inl n2)⟩
/-- the running fibre's own registers and place -/
theorem fd_K_own {x : Int32} {rg' pc' : Nat → Int32} (h : fd_K B s k0 rc cc sl nw no ops o1 o2 o3 sz st pr pc rg wk jn sd br io cp cl hd ct wt wc rr ab dx ox ss yy sp dy ly) (hx : vp_in x 12) (h2 : st x.toNatClampNeg = 2) (ar : fd_agr x.toNatClampNeg rg rg') (ap : fd_ag x.toNatClampNeg pc pc') (hp : vp_in (pc' x.toNatClampNeg) 13) : fd_K B s k0 rc cc sl nw no ops o1 o2 o3 sz st pr pc' rg' wk jn sd br io cp cl hd ct wt wc rr ab dx ox ss yy sp dy ly := by
  obtain ⟨hG, hF, hR, hV, hS, hC, hO, hN⟩ := h
  have n3 : st x.toNatClampNeg ≠ 3 := by rw [h2]; decide
  have hp0 := (hF x.toNatClampNeg (fd_lt hx)).1 (Or.inr (Or.inl h2))
  exact ⟨hG, fd_Fs hF fd_ag_r fd_ag_r ap fd_ag_r fd_ag_r fd_ag_r fd_ag_r ar (fd_F_n n3 ⟨hp0.1, hp⟩), hR, fd_V_s hV fd_ag_r fd_ag_r ap fd_agL_r n3 n3, hS, hC, hO, hN⟩
/-- a fibre that ran or slept comes to the row -/
theorem fd_K_row {x : Int32} {pc' : Nat → Int32} (h : fd_K B s k0 rc cc sl nw no ops o1 o2 o3 sz st pr pc rg wk jn sd br io cp cl hd ct wt wc rr ab dx ox ss yy sp dy ly) (hs : s < 2 ^ 62) (hx : vp_in x 12) (h2 : fd_run k0 st ab x ∨ st x.toNatClampNeg = 4) (ap : fd_ag x.toNatClampNeg pc pc') (hp : vp_in (pc' x.toNatClampNeg) 13) : fd_K B (s + 1) k0 (rc + 1) cc sl nw no ops o1 o2 o3 sz (upd st x.toNatClampNeg 1) pr pc' rg wk jn sd br io cp cl hd ct wt wc (upd rr rc.toNatClampNeg x) ab dx ox (ss + 1) yy (vp_updL sp x.toNatClampNeg (ss + 1)) dy ly := by
  obtain ⟨hG, hF, hR, hV, hS, hC, hO, hN⟩ := h
  have hf := fd_lt hx
  have n1 : st x.toNatClampNeg ≠ 1 := by
    rcases h2 with q | q
    · rw [q.2.1]; decide
    · rw [q]; decide
  have n3 : st x.toNatClampNeg ≠ 3 := by
    rcases h2 with q | q
    · rw [q.2.1]; decide
    · rw [q]; decide
  have hk : st x.toNatClampNeg ≠ 2 ∨ (k0 < 3 ∧ ab k0 = nI x.toNatClampNeg ∧ x.toNatClampNeg < 12) := by
    rcases h2 with q | q
    · exact fd_run_N q
    · exact Or.inl (by rw [q]; decide)
  have m3 : upd st x.toNatClampNeg 1 x.toNatClampNeg ≠ 3 := by rw [pk_us]; decide
  have hp0 : vp_in (pr x.toNatClampNeg) 6 := by
    rcases h2 with q | q
    · exact ((hF x.toNatClampNeg hf).1 (Or.inr (Or.inl q.2.1))).1
    · exact ((hF x.toNatClampNeg hf).1 (Or.inr (Or.inr (Or.inr q)))).1
  exact ⟨hG, fd_Fs hF fd_ag_u fd_ag_r ap fd_ag_r fd_ag_r fd_ag_r fd_ag_r fd_agr_r (fd_F_n m3 ⟨hp0, hp⟩), (fd_R_a hR hS hs hf fd_ag_u n1 pk_us (fd_eq hx)).2, fd_V_s hV fd_ag_u fd_ag_r ap fd_agL_u n3 m3, fd_S_u hS hs, hC, hO, fd_N_s hN fd_ag_u hk⟩
/-- the running fibre falls asleep -/
theorem fd_K_sleep {x : Int32} {pc' wk' : Nat → Int32} (h : fd_K B s k0 rc cc sl nw no ops o1 o2 o3 sz st pr pc rg wk jn sd br io cp cl hd ct wt wc rr ab dx ox ss yy sp dy ly) (hr : fd_run k0 st ab x) (ap : fd_ag x.toNatClampNeg pc pc') (hp : vp_in (pc' x.toNatClampNeg) 13) : fd_K B s k0 rc cc sl nw no ops o1 o2 o3 sz (upd st x.toNatClampNeg 4) pr pc' rg wk' jn sd br io cp cl hd ct wt wc rr ab dx ox ss yy sp dy ly := by
  obtain ⟨hG, hF, hR, hV, hS, hC, hO, hN⟩ := h
  have n1 : st x.toNatClampNeg ≠ 1 := by rw [hr.2.1]; decide
  have n3 : st x.toNatClampNeg ≠ 3 := by rw [hr.2.1]; decide
  have m1 : upd st x.toNatClampNeg 4 x.toNatClampNeg ≠ 1 := by rw [pk_us]; decide
  have m3 : upd st x.toNatClampNeg 4 x.toNatClampNeg ≠ 3 := by rw [pk_us]; decide
  have hp0 := (hF x.toNatClampNeg (fd_lt hr.1)).1 (Or.inr (Or.inl hr.2.1))
  exact ⟨hG, fd_Fs hF fd_ag_u fd_ag_r ap fd_ag_r fd_ag_r fd_ag_r fd_ag_r fd_agr_r (fd_F_n m3 ⟨hp0.1, hp⟩), fd_R_s hR fd_ag_u fd_agL_r n1 m1, fd_V_s hV fd_ag_u fd_ag_r ap fd_agL_r n3 m3, hS, hC, hO, fd_N_s hN fd_ag_u (fd_run_N hr)⟩
/-- a fibre that isn't at work is begun -/
theorem fd_K_new {x : Int32} {pr' pc' rg' : Nat → Int32} (h : fd_K B s k0 rc cc sl nw no ops o1 o2 o3 sz st pr pc rg wk jn sd br io cp cl hd ct wt wc rr ab dx ox ss yy sp dy ly) (hs : s < 2 ^ 62) (hx : vp_in x 12) (hn : ¬ fd_aw (st x.toNatClampNeg)) (ap : fd_ag x.toNatClampNeg pr pr') (ac : fd_ag x.toNatClampNeg pc pc') (ar : fd_agr x.toNatClampNeg rg rg') (hp : vp_in (pr' x.toNatClampNeg) 6) (hc : vp_in (pc' x.toNatClampNeg) 13) : fd_K B (s + 1) k0 (rc + 1) cc sl nw no ops o1 o2 o3 sz (upd st x.toNatClampNeg 1) pr' pc' rg' wk jn sd br io cp cl hd ct wt wc (upd rr rc.toNatClampNeg x) ab dx ox (ss + 1) yy (vp_updL sp x.toNatClampNeg (ss + 1)) dy ly := by
  obtain ⟨hG, hF, hR, hV, hS, hC, hO, hN⟩ := h
  have n1 : st x.toNatClampNeg ≠ 1 := fun z => hn (Or.inl z)
  have n2 : st x.toNatClampNeg ≠ 2 := fun z => hn (Or.inr (Or.inl z))
  have n3 : st x.toNatClampNeg ≠ 3 := fun z => hn (Or.inr (Or.inr (Or.inl z)))
  have m3 : upd st x.toNatClampNeg 1 x.toNatClampNeg ≠ 3 := by rw [pk_us]; decide
  exact ⟨hG, fd_Fs hF fd_ag_u ap ac fd_ag_r fd_ag_r fd_ag_r fd_ag_r ar (fd_F_n m3 ⟨hp, hc⟩), (fd_R_a hR hS hs (fd_lt hx) fd_ag_u n1 pk_us (fd_eq hx)).2, fd_V_s hV fd_ag_u ap ac fd_agL_u n3 m3, fd_S_u hS hs, hC, hO, fd_N_s hN fd_ag_u (Or.inl n2)⟩
/-- the running fibre comes to wait -/
theorem fd_K_rest {x : Int32} {jn' sd' br' io' wt' wc' : Nat → Int32} (h : fd_K B s k0 rc cc sl nw no ops o1 o2 o3 sz st pr pc rg wk jn sd br io cp cl hd ct wt wc rr ab dx ox ss yy sp dy ly) (hs : s < 2 ^ 62) (hr : fd_run k0 st ab x) (hc : vp_in (pc x.toNatClampNeg) 12) (hg : fd_gd (ops (fd_k pr pc x.toNatClampNeg)) (o1 (fd_k pr pc x.toNatClampNeg)) (o2 (fd_k pr pc x.toNatClampNeg)) (o3 (fd_k pr pc x.toNatClampNeg))) (a4 : fd_ag x.toNatClampNeg jn jn') (a5 : fd_ag x.toNatClampNeg sd sd') (a6 : fd_ag x.toNatClampNeg br br') (a7 : fd_ag x.toNatClampNeg io io') (hW : fd_Wt (ops (fd_k pr pc x.toNatClampNeg)) (o1 (fd_k pr pc x.toNatClampNeg)) (o2 (fd_k pr pc x.toNatClampNeg)) (o3 (fd_k pr pc x.toNatClampNeg)) (jn' x.toNatClampNeg) (sd' x.toNatClampNeg) (br' x.toNatClampNeg) (io' x.toNatClampNeg) rg x.toNatClampNeg) (hV' : fd_V (fd_wa ops o1 o2 (upd st x.toNatClampNeg 3) pr pc) (vp_updL sp x.toNatClampNeg (ss + 1)) wt' wc') : fd_K B (s + 1) k0 rc cc sl nw no ops o1 o2 o3 sz (upd st x.toNatClampNeg 3) pr pc rg wk jn' sd' br' io' cp cl hd ct wt' wc' rr ab dx ox (ss + 1) yy (vp_updL sp x.toNatClampNeg (ss + 1)) dy ly := by
  obtain ⟨hG, hF, hR, hV, hS, hC, hO, hN⟩ := h
  have n1 : st x.toNatClampNeg ≠ 1 := by rw [hr.2.1]; decide
  have m1 : upd st x.toNatClampNeg 3 x.toNatClampNeg ≠ 1 := by rw [pk_us]; decide
  have hp0 := (hF x.toNatClampNeg (fd_lt hr.1)).1 (Or.inr (Or.inl hr.2.1))
  exact ⟨hG, fd_Fs hF fd_ag_u fd_ag_r fd_ag_r a4 a5 a6 a7 fd_agr_r ⟨fun _ => hp0, fun _ => ⟨hc, hg, hW⟩⟩, fd_R_s hR fd_ag_u fd_agL_u n1 m1, hV', fd_S_u hS hs, hC, hO, fd_N_s hN fd_ag_u (fd_run_N hr)⟩
theorem fd_sp_m {x : Int32} (hS : fd_S sp ss s) (hs : s < 2 ^ 62) : ∀ g, g < 12 → g ≠ x.toNatClampNeg → vp_updL sp x.toNatClampNeg (ss + 1) g < vp_updL sp x.toNatClampNeg (ss + 1) x.toNatClampNeg := fun g hg e => by
  rw [pk_uLn e, pk_uLs]; exact fd_S_lt hS hs hg
/-- one channel -/
theorem fd_V_1 {x y : Int32} (h : fd_K B s k0 rc cc sl nw no ops o1 o2 o3 sz st pr pc rg wk jn sd br io cp cl hd ct wt wc rr ab dx ox ss yy sp dy ly) (hs : s < 2 ^ 62) (hx : vp_in x 12) (h2 : st x.toNatClampNeg = 2) (hy : vp_in y 4) (hat : ∀ y', fd_at (ops (fd_k pr pc x.toNatClampNeg)) (o1 (fd_k pr pc x.toNatClampNeg)) (o2 (fd_k pr pc x.toNatClampNeg)) y' ↔ y' = y) : vp_in (wc y.toNatClampNeg) 12 ∧ fd_V (fd_wa ops o1 o2 (upd st x.toNatClampNeg 3) pr pc) (vp_updL sp x.toNatClampNeg (ss + 1)) (upd wt (12 * y.toNatClampNeg + (wc y.toNatClampNeg).toNatClampNeg) x) (upd wc y.toNatClampNeg (wc y.toNatClampNeg + 1)) := by
  have n3 : st x.toNatClampNeg ≠ 3 := by rw [h2]; decide
  refine fd_V_a (fd_V_sp h.2.2.2.1 (fd_agL_u (f := x.toNatClampNeg)) (fun y' => fd_wa_n n3)) hy (fd_lt hx) (fd_eq hx) (fd_wa_n n3) (fun y' hy' g hg => ?_) (fd_sp_m h.2.2.2.2.1 hs)
  by_cases e : g = x.toNatClampNeg
  · subst e
    exact ⟨fun z => Or.inr ⟨(hat y').mp z.2, rfl⟩, fun z => ⟨pk_us, (hat y').mpr (z.elim (fun q => absurd q.1 n3) (fun q => q.1))⟩⟩
  · rw [fd_wa_c (st := st) (pr := pr) (pc := pc) (pk_un e) rfl rfl]
    exact ⟨Or.inl, fun z => z.elim id (fun q => absurd q.2 e)⟩
/-- two channels -/
theorem fd_V_2 {x y z : Int32} (h : fd_K B s k0 rc cc sl nw no ops o1 o2 o3 sz st pr pc rg wk jn sd br io cp cl hd ct wt wc rr ab dx ox ss yy sp dy ly) (hs : s < 2 ^ 62) (hx : vp_in x 12) (h2 : st x.toNatClampNeg = 2) (hy : vp_in y 4) (hz : vp_in z 4) (ne : z ≠ y) (hat : ∀ y', fd_at (ops (fd_k pr pc x.toNatClampNeg)) (o1 (fd_k pr pc x.toNatClampNeg)) (o2 (fd_k pr pc x.toNatClampNeg)) y' ↔ (y' = y ∨ y' = z)) : vp_in (wc y.toNatClampNeg) 12 ∧ vp_in (upd wc y.toNatClampNeg (wc y.toNatClampNeg + 1) z.toNatClampNeg) 12 ∧ fd_V (fd_wa ops o1 o2 (upd st x.toNatClampNeg 3) pr pc) (vp_updL sp x.toNatClampNeg (ss + 1)) (upd (upd wt (12 * y.toNatClampNeg + (wc y.toNatClampNeg).toNatClampNeg) x) (12 * z.toNatClampNeg + (upd wc y.toNatClampNeg (wc y.toNatClampNeg + 1) z.toNatClampNeg).toNatClampNeg) x) (upd (upd wc y.toNatClampNeg (wc y.toNatClampNeg + 1)) z.toNatClampNeg (upd wc y.toNatClampNeg (wc y.toNatClampNeg + 1) z.toNatClampNeg + 1)) := by
  have n3 : st x.toNatClampNeg ≠ 3 := by rw [h2]; decide
  obtain ⟨q1, q2⟩ := fd_V_a (W' := fun y' g => fd_wa ops o1 o2 st pr pc y' g ∨ (y' = y ∧ g = x.toNatClampNeg)) (fd_V_sp h.2.2.2.1 (fd_agL_u (f := x.toNatClampNeg)) (fun y' => fd_wa_n n3)) hy (fd_lt hx) (fd_eq hx) (fd_wa_n n3) (fun y' hy' g hg => Iff.rfl) (fd_sp_m h.2.2.2.2.1 hs)
  have q3 := fd_V_a (W' := fd_wa ops o1 o2 (upd st x.toNatClampNeg 3) pr pc) q2 hz (fd_lt hx) (fd_eq hx) (fun w => w.elim (fun q => n3 q.1) (fun q => ne q.1)) (fun y' hy' g hg => by
    by_cases e : g = x.toNatClampNeg
    · subst e
      exact ⟨fun w => ((hat y').mp w.2).elim (fun q => Or.inl (Or.inr ⟨q, rfl⟩)) (fun q => Or.inr ⟨q, rfl⟩), fun w => ⟨pk_us, (hat y').mpr (w.elim (fun q => q.elim (fun q => absurd q.1 n3) (fun q => Or.inl q.1)) (fun q => Or.inr q.1))⟩⟩
    · rw [fd_wa_c (st := st) (pr := pr) (pc := pc) (pk_un e) rfl rfl]
      exact ⟨fun w => Or.inl (Or.inl w), fun w => w.elim (fun q => q.elim id (fun q => absurd q.2 e)) (fun q => absurd q.2 e)⟩) (fd_sp_m h.2.2.2.2.1 hs)
  exact ⟨q1, q3⟩
/-- no channel -/
theorem fd_V_0 {x : Int32} (h : fd_K B s k0 rc cc sl nw no ops o1 o2 o3 sz st pr pc rg wk jn sd br io cp cl hd ct wt wc rr ab dx ox ss yy sp dy ly) (h2 : st x.toNatClampNeg = 2) (hat : ∀ y', ¬ fd_at (ops (fd_k pr pc x.toNatClampNeg)) (o1 (fd_k pr pc x.toNatClampNeg)) (o2 (fd_k pr pc x.toNatClampNeg)) y') : fd_V (fd_wa ops o1 o2 (upd st x.toNatClampNeg 3) pr pc) (vp_updL sp x.toNatClampNeg (ss + 1)) wt wc := by
  have n3 : st x.toNatClampNeg ≠ 3 := by rw [h2]; decide
  refine fd_V_c (fd_V_sp h.2.2.2.1 (fd_agL_u (f := x.toNatClampNeg)) (fun y' => fd_wa_n n3)) (fun y' hy' g hg => ?_)
  by_cases e : g = x.toNatClampNeg
  · subst e
    exact ⟨fun z => absurd z.2 (hat y'), fun z => absurd z.1 n3⟩
  · exact fd_wa_c (pk_un e) rfl rfl
end
