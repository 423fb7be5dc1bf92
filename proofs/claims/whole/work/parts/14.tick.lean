section
variable {rc cc sl nw no : Int32} {ops o1 o2 o3 sz st pr pc rg wk jn sd br io cp cl hd ct wt wc rr ab dx ox : Nat → Int32} {ss : Int64} {yy : Int32} {sp : Nat → Int64} {dy ly : Nat → Int32} {B s : Nat}
/-- one carrier -/
theorem fd_car {x : Int32} (hx : vp_in x 3) (hc : ¬ cc ≤ x) (hs : s + 201 < 2 ^ 62) (hB : B < 2 ^ 30) (h : fd_K B s 3 rc cc sl nw no ops o1 o2 o3 sz st pr pc rg wk jn sd br io cp cl hd ct wt wc rr ab dx ox ss yy sp dy ly) : (∃ u' v', (∀ (post : Int32 → SX → Prop) (p x3 x2 : Int32) (m n : Nat), (match u' with | (rc', cc', sl', nw', no', ops', o1', o2', o3', sz', st', pr', pc', rg', wk', jn', sd', br', io', cp', cl', hd', ct', wt', wc', rr', ab', dx', ox') => wX_run_57 post (wX_run_28 post p m) p x3 n (x2 + 1) (x + 1) rc' cc' sl' nw' no' ops' o1' o2' o3' sz' st' pr' pc' rg' wk' jn' sd' br' io' cp' cl' hd' ct' wt' wc' rr' ab' dx' ox') → wX_run_57 post (wX_run_28 post p m) p x3 (n + 1) x2 x rc cc sl nw no ops o1 o2 o3 sz st pr pc rg wk jn sd br io cp cl hd ct wt wc rr ab dx ox) ∧ (∀ (post : Int32 → SY → Prop) (n : Nat) (x1 : Int32), fd_C56 post n (x1 + 1) (x + 1) v' → wY_tick_56 post (n + 1) x1 x cc sl nw no ss yy ops o1 o2 o3 sz st pr pc rg wk sp cp cl hd ct ab dy ly) ∧ fd_RR (B + 1) (s + 201) u' v') ∨
    (∃ u' v', (∀ (post : Int32 → SX → Prop) (p x3 x2 : Int32) (m n : Nat), (match u' with | (rc', cc', sl', nw', no', ops', o1', o2', o3', sz', st', pr', pc', rg', wk', jn', sd', br', io', cp', cl', hd', ct', wt', wc', rr', ab', dx', ox') => wX_run_57 post (wX_run_28 post p m) p x3 n x2 (x + 1) rc' cc' sl' nw' no' ops' o1' o2' o3' sz' st' pr' pc' rg' wk' jn' sd' br' io' cp' cl' hd' ct' wt' wc' rr' ab' dx' ox') → wX_run_57 post (wX_run_28 post p m) p x3 (n + 1) x2 x rc cc sl nw no ops o1 o2 o3 sz st pr pc rg wk jn sd br io cp cl hd ct wt wc rr ab dx ox) ∧ (∀ (post : Int32 → SY → Prop) (n : Nat) (x1 : Int32), fd_C56 post n x1 (x + 1) v' → wY_tick_56 post (n + 1) x1 x cc sl nw no ss yy ops o1 o2 o3 sz st pr pc rg wk sp cp cl hd ct ab dy ly) ∧ fd_RR (B + 1) (s + 201) u' v') := by
  have hN := h.2.2.2.2.2.2.2
  by_cases ha : ab x.toNatClampNeg = -1
  · have na : ¬ 0 ≤ ab x.toNatClampNeg := by rw [ha]; decide
    obtain ⟨L, hQ, hH, ec⟩ := h.2.2.1
    obtain ⟨r, m1, fr⟩ := fd_Y_fr (cc := cc) (sl := sl) (nw := nw) (no := no) (ss := ss) (yy := yy) (ops := ops) (o1 := o1) (o2 := o2) (o3 := o3) (sz := sz) (st := st) (pr := pr) (pc := pc) (rg := rg) (wk := wk) (sp := sp) (cp := cp) (cl := cl) (hd := hd) (ct := ct) (ab := ab) (dy := dy) (ly := ly)
    cases L with
    | nil =>
      right
      have er : r = -1 := by
        by_cases e : r = -1
        · exact e
        · have q := fd_M_yes m1 e
          exact absurd ((hQ.1 _).mpr ⟨fd_lt q.1, q.2⟩) List.not_mem_nil
      have eab : upd ab x.toNatClampNeg r = ab := by
        funext j
        by_cases e : j = x.toNatClampNeg
        · rw [e, pk_us, ha, er]
        · rw [pk_un e]
      have hN' : fd_N cc st ab dx (upd dy x.toNatClampNeg 0) 3 := by
        refine ⟨hN.1, fun k hk => ?_, hN.2.2⟩
        by_cases e : k = x.toNatClampNeg
        · exact Or.inl (by rw [e]; exact ha)
        · rw [pk_un e]; exact hN.2.1 k hk
      refine ⟨(rc, cc, sl, nw, no, ops, o1, o2, o3, sz, st, pr, pc, rg, wk, jn, sd, br, io, cp, cl, hd, ct, wt, wc, rr, ab, dx, ox), (cc, sl, nw, no, ss, yy, ops, o1, o2, o3, sz, st, pr, pc, rg, wk, sp, cp, cl, hd, ct, ab, upd dy x.toNatClampNeg 0, ly), fun post p x3 x2 m n H => ?_, fun post n x1 H => ?_, ⟨rc, cc, sl, nw, no, ops, o1, o2, o3, sz, st, pr, pc, rg, wk, jn, sd, br, io, cp, cl, hd, ct, wt, wc, rr, ab, dx, ox, ss, yy, sp, _, ly, rfl, rfl, fd_K_m (fd_K_N h hN') (by omega) (by omega)⟩⟩
      · exact br_f hc (And.intro hx (br_t ha (br_t (by rw [ec]; rfl) ⟨hx, br_t ha (nm_e H)⟩)))
      · refine br_f hc ⟨hx, br_f na (fr _ ⟨hx, nm_r eab ⟨hx, nm_e ⟨hx, br_f na (nm_e H)⟩⟩⟩)⟩
    | cons a l =>
      left
      have hl := fd_Q_len hQ
      have l1 : (a :: l).length = l.length + 1 := rfl
      have ma := (hQ.1 a).mp List.mem_cons_self
      have hz : vp_in (nI a) 12 := vp_in_nI ma.1 (by omega)
      have g1 : fd_Mi (fun g => st g = 1) sp 12 (nI a) := fd_Mi_c (P := fun g => st g = 1 ∧ True) (fd_M_first (K := fun _ => True) hQ 0 (by omega) trivial (fun j hj l => absurd l (Nat.not_lt_zero j))) (fun g hg => ⟨fun z => ⟨z, trivial⟩, fun z => z.1⟩)
      have er : r = nI a := fd_M_u (K := fun g => st g = 1) hQ (fun g z => z) m1 g1
      subst er
      obtain ⟨K1, hr⟩ := fd_K_board hx ha hQ hH h
      obtain ⟨u1, u', v', f1, f2, f3, ⟨rc', cc', sl', nw', no', ops', o1', o2', o3', sz', st', pr', pc', rg', wk', jn', sd', br', io', cp', cl', hd', ct', wt', wc', rr', ab', dx', ox', ss', yy', sp', dy', ly', rfl, rfl, K2⟩⟩ := fd_go hx hr hs hB K1
      have e0 : rr 0 = nI a := hH 0 (by omega)
      refine ⟨_, _, fun post p x3 x2 m n H => ?_, fun post n x1 H => ?_, ⟨rc', cc', sl', nw', no', ops', o1', o2', o3', sz', st', pr', pc', rg', wk', jn', sd', br', io', cp', cl', hd', ct', wt', wc', rr', ab', dx', ox', ss', yy', sp', dy', ly', rfl, rfl, K2⟩⟩
      · refine br_f hc (fd_X_board hx hz ha e0 (m := l.length) (by omega) ec ⟨hx, br_f ?_ ⟨hx, ?_⟩⟩)
        · rw [pk_us]; exact fd_m1 hz
        · rw [pk_us]
          refine f1 _ ?_
          obtain ⟨rc'', cc'', sl'', nw'', no'', ops'', o1'', o2'', o3'', sz'', st'', pr'', pc'', rg'', wk'', jn'', sd'', br'', io'', cp'', cl'', hd'', ct'', wt'', wc'', rr'', ab'', dx'', ox''⟩ := u1
          exact nm_e (f2 _ (nm_e H))
      · refine br_f hc ⟨hx, br_f na (fr _ ⟨hx, nm_e ⟨hx, nm_e ⟨hx, br_t ?_ ⟨hx, ?_, nm_r (e' := upd st (nI a).toNatClampNeg 2) ?_ (f3 post n x1 H)⟩⟩⟩⟩)⟩
        · rw [pk_us]; exact fd_ge0 hz
        · rw [pk_us]; exact hz
        · rw [pk_us]
  · left
    obtain ⟨hz, s2, _⟩ := (hN.2.1 x.toNatClampNeg (fd_lt hx)).resolve_left ha
    have x3 := fd_lt hx
    have hr : fd_run x.toNatClampNeg st ab (ab x.toNatClampNeg) := ⟨hz, s2 (by omega), x3, rfl⟩
    have K1 := fd_K_N h (fd_N_w (k := x.toNatClampNeg) hN)
    obtain ⟨u1, u', v', f1, f2, f3, ⟨rc', cc', sl', nw', no', ops', o1', o2', o3', sz', st', pr', pc', rg', wk', jn', sd', br', io', cp', cl', hd', ct', wt', wc', rr', ab', dx', ox', ss', yy', sp', dy', ly', rfl, rfl, K2⟩⟩ := fd_go hx hr hs hB K1
    refine ⟨_, _, fun post p x3 x2 m n H => ?_, fun post n x1 H => ?_, ⟨rc', cc', sl', nw', no', ops', o1', o2', o3', sz', st', pr', pc', rg', wk', jn', sd', br', io', cp', cl', hd', ct', wt', wc', rr', ab', dx', ox', ss', yy', sp', dy', ly', rfl, rfl, K2⟩⟩
    · refine br_f hc (And.intro hx (br_f ha ⟨hx, br_f ha ⟨hx, f1 _ ?_⟩⟩))
      obtain ⟨rc'', cc'', sl'', nw'', no'', ops'', o1'', o2'', o3'', sz'', st'', pr'', pc'', rg'', wk'', jn'', sd'', br'', io'', cp'', cl'', hd'', ct'', wt'', wc'', rr'', ab'', dx'', ox''⟩ := u1
      exact nm_e (f2 _ (nm_e H))
    · exact br_f hc ⟨hx, br_t (fd_ge0 hz) (f3 post n x1 H)⟩
end
theorem fd_cars : ∀ (d c B s : Nat) (rc cc sl nw no : Int32) (ops o1 o2 o3 sz st pr pc rg wk jn sd br io cp cl hd ct wt wc rr ab dx ox : Nat → Int32) (ss : Int64) (yy : Int32) (sp : Nat → Int64) (dy ly : Nat → Int32), c + d = 3 → s + 201 * d < 2 ^ 62 → B + d < 2 ^ 30 → fd_K B s 3 rc cc sl nw no ops o1 o2 o3 sz st pr pc rg wk jn sd br io cp cl hd ct wt wc rr ab dx ox ss yy sp dy ly → ∃ (q : Int32) (u' : SX) (v' : SY), (∀ (post : Int32 → SX → Prop) (p x3 x2 : Int32) (m : Nat), fd_C28 post p m (x2 + q) (x3 + 1) u' → wX_run_57 post (wX_run_28 post p m) p x3 (d + 1) x2 (nI c) rc cc sl nw no ops o1 o2 o3 sz st pr pc rg wk jn sd br io cp cl hd ct wt wc rr ab dx ox) ∧ (∀ (post : Int32 → SY → Prop) (x1 : Int32), post (x1 + q) v' → wY_tick_56 post (d + 1) x1 (nI c) cc sl nw no ss yy ops o1 o2 o3 sz st pr pc rg wk sp cp cl hd ct ab dy ly) ∧ fd_RR (B + d) (s + 201 * d) u' v' := by
  intro d
  induction d with
  | zero =>
    intro c B s rc cc sl nw no ops o1 o2 o3 sz st pr pc rg wk jn sd br io cp cl hd ct wt wc rr ab dx ox ss yy sp dy ly hc hs hB h
    obtain ⟨n, n1, n2, e⟩ := h.2.2.2.2.2.2.2.1
    have le : cc ≤ nI c := by rw [e]; exact nI_le (by omega) (by omega)
    refine ⟨0, (rc, cc, sl, nw, no, ops, o1, o2, o3, sz, st, pr, pc, rg, wk, jn, sd, br, io, cp, cl, hd, ct, wt, wc, rr, ab, dx, ox), (cc, sl, nw, no, ss, yy, ops, o1, o2, o3, sz, st, pr, pc, rg, wk, sp, cp, cl, hd, ct, ab, dy, ly), fun post p x3 x2 m H => br_t le (nm_e ?_), fun post x1 H => br_t le ?_, ⟨rc, cc, sl, nw, no, ops, o1, o2, o3, sz, st, pr, pc, rg, wk, jn, sd, br, io, cp, cl, hd, ct, wt, wc, rr, ab, dx, ox, ss, yy, sp, dy, ly, rfl, rfl, h⟩⟩
    · rw [Int32.add_zero] at H; exact H
    · rw [Int32.add_zero] at H; exact H
  | succ d ih =>
    intro c B s rc cc sl nw no ops o1 o2 o3 sz st pr pc rg wk jn sd br io cp cl hd ct wt wc rr ab dx ox ss yy sp dy ly hc hs hB h
    by_cases le : cc ≤ nI c
    · refine ⟨0, (rc, cc, sl, nw, no, ops, o1, o2, o3, sz, st, pr, pc, rg, wk, jn, sd, br, io, cp, cl, hd, ct, wt, wc, rr, ab, dx, ox), (cc, sl, nw, no, ss, yy, ops, o1, o2, o3, sz, st, pr, pc, rg, wk, sp, cp, cl, hd, ct, ab, dy, ly), fun post p x3 x2 m H => br_t le (nm_e ?_), fun post x1 H => br_t le ?_, ⟨rc, cc, sl, nw, no, ops, o1, o2, o3, sz, st, pr, pc, rg, wk, jn, sd, br, io, cp, cl, hd, ct, wt, wc, rr, ab, dx, ox, ss, yy, sp, dy, ly, rfl, rfl, fd_K_m h (by omega) (by omega)⟩⟩
      · rw [Int32.add_zero] at H; exact H
      · rw [Int32.add_zero] at H; exact H
    · have hx : vp_in (nI c) 3 := vp_in_nI (by omega) (by omega)
      rcases fd_car hx le (by omega) (by omega) h with ⟨u1, v1, h1, h2, ⟨rc', cc', sl', nw', no', ops', o1', o2', o3', sz', st', pr', pc', rg', wk', jn', sd', br', io', cp', cl', hd', ct', wt', wc', rr', ab', dx', ox', ss', yy', sp', dy', ly', rfl, rfl, K1⟩⟩ | ⟨u1, v1, h1, h2, ⟨rc', cc', sl', nw', no', ops', o1', o2', o3', sz', st', pr', pc', rg', wk', jn', sd', br', io', cp', cl', hd', ct', wt', wc', rr', ab', dx', ox', ss', yy', sp', dy', ly', rfl, rfl, K1⟩⟩
      · obtain ⟨q, u', v', g1, g2, ⟨rc'', cc'', sl'', nw'', no'', ops'', o1'', o2'', o3'', sz'', st'', pr'', pc'', rg'', wk'', jn'', sd'', br'', io'', cp'', cl'', hd'', ct'', wt'', wc'', rr'', ab'', dx'', ox'', ss'', yy'', sp'', dy'', ly'', e1, e2, K2⟩⟩ := ih (c + 1) (B + 1) (s + 201) _ _ _ _ _ _ _ _ _ _ _ _ _ _ _ _ _ _ _ _ _ _ _ _ _ _ _ _ _ _ _ _ _ _ (by omega) (by omega) (by omega) K1
        refine ⟨1 + q, u', v', fun post p x3 x2 m H => h1 post p x3 x2 m (d + 1) ?_, fun post x1 H => h2 post (d + 1) x1 ?_, ⟨rc'', cc'', sl'', nw'', no'', ops'', o1'', o2'', o3'', sz'', st'', pr'', pc'', rg'', wk'', jn'', sd'', br'', io'', cp'', cl'', hd'', ct'', wt'', wc'', rr'', ab'', dx'', ox'', ss'', yy'', sp'', dy'', ly'', e1, e2, fd_K_m K2 (by omega) (by omega)⟩⟩
        · rw [nI_1]
          rw [← Int32.add_assoc] at H
          exact g1 post p x3 (x2 + 1) m H
        · rw [nI_1]
          rw [← Int32.add_assoc] at H
          exact g2 post (x1 + 1) H
      · obtain ⟨q, u', v', g1, g2, ⟨rc'', cc'', sl'', nw'', no'', ops'', o1'', o2'', o3'', sz'', st'', pr'', pc'', rg'', wk'', jn'', sd'', br'', io'', cp'', cl'', hd'', ct'', wt'', wc'', rr'', ab'', dx'', ox'', ss'', yy'', sp'', dy'', ly'', e1, e2, K2⟩⟩ := ih (c + 1) (B + 1) (s + 201) _ _ _ _ _ _ _ _ _ _ _ _ _ _ _ _ _ _ _ _ _ _ _ _ _ _ _ _ _ _ _ _ _ _ (by omega) (by omega) (by omega) K1
        refine ⟨q, u', v', fun post p x3 x2 m H => h1 post p x3 x2 m (d + 1) ?_, fun post x1 H => h2 post (d + 1) x1 ?_, ⟨rc'', cc'', sl'', nw'', no'', ops'', o1'', o2'', o3'', sz'', st'', pr'', pc'', rg'', wk'', jn'', sd'', br'', io'', cp'', cl'', hd'', ct'', wt'', wc'', rr'', ab'', dx'', ox'', ss'', yy'', sp'', dy'', ly'', e1, e2, fd_K_m K2 (by omega) (by omega)⟩⟩
        · rw [nI_1]
          exact g1 post p x3 x2 m H
        · rw [nI_1]
          exact g2 post x1 H
theorem fd_wake : ∀ (d i B s : Nat) (rc cc sl nw no : Int32) (ops o1 o2 o3 sz st pr pc rg wk jn sd br io cp cl hd ct wt wc rr ab dx ox : Nat → Int32) (ss : Int64) (yy : Int32) (sp : Nat → Int64) (dy ly : Nat → Int32), i + d = 12 → s + d < 2 ^ 62 → fd_K B s 3 rc cc sl nw no ops o1 o2 o3 sz st pr pc rg wk jn sd br io cp cl hd ct wt wc rr ab dx ox ss yy sp dy ly → ∃ (u' : SX) (v' : SY), (∀ post : SX → Prop, post u' → wX_wakeSleepers_2 post (d + 1) (nI i) rc cc sl nw no ops o1 o2 o3 sz st pr pc rg wk jn sd br io cp cl hd ct wt wc rr ab dx ox) ∧ (∀ (post : Int32 → SY → Prop) (x1 : Int32), fd_T56 post x1 v' → wY_tick_14 post x1 (d + 1) (nI i) cc sl nw no ss yy ops o1 o2 o3 sz st pr pc rg wk sp cp cl hd ct ab dy ly) ∧ fd_RR B (s + d) u' v' := by
  intro d
  induction d with
  | zero =>
    intro i B s rc cc sl nw no ops o1 o2 o3 sz st pr pc rg wk jn sd br io cp cl hd ct wt wc rr ab dx ox ss yy sp dy ly hi hs h
    have e : i = 12 := by omega
    subst e
    exact ⟨(rc, cc, sl, nw, no, ops, o1, o2, o3, sz, st, pr, pc, rg, wk, jn, sd, br, io, cp, cl, hd, ct, wt, wc, rr, ab, dx, ox), (cc, sl, nw, no, ss, yy, ops, o1, o2, o3, sz, st, pr, pc, rg, wk, sp, cp, cl, hd, ct, ab, dy, ly), fun post H => br_t (by decide) H, fun post x1 H => br_t (by decide) H, ⟨rc, cc, sl, nw, no, ops, o1, o2, o3, sz, st, pr, pc, rg, wk, jn, sd, br, io, cp, cl, hd, ct, wt, wc, rr, ab, dx, ox, ss, yy, sp, dy, ly, rfl, rfl, h⟩⟩
  | succ d ih =>
    intro i B s rc cc sl nw no ops o1 o2 o3 sz st pr pc rg wk jn sd br io cp cl hd ct wt wc rr ab dx ox ss yy sp dy ly hi hs h
    have hx : vp_in (nI i) 12 := vp_in_nI (by omega) (by omega)
    have n12 : ¬ (12 : Int32) ≤ nI i := nI_ge (b := 12) (by omega) (by decide)
    have hi1 : nI i + 1 = nI (i + 1) := nI_1 i
    generalize nI i = x at hx n12 hi1
    have skip : ∃ (u' : SX) (v' : SY), (∀ post : SX → Prop, post u' → wX_wakeSleepers_2 post (d + 1) (nI (i + 1)) rc cc sl nw no ops o1 o2 o3 sz st pr pc rg wk jn sd br io cp cl hd ct wt wc rr ab dx ox) ∧ (∀ (post : Int32 → SY → Prop) (x1 : Int32), fd_T56 post x1 v' → wY_tick_14 post x1 (d + 1) (nI (i + 1)) cc sl nw no ss yy ops o1 o2 o3 sz st pr pc rg wk sp cp cl hd ct ab dy ly) ∧ fd_RR B (s + (d + 1)) u' v' := by
      obtain ⟨u', v', h1, h2, ⟨rc'', cc'', sl'', nw'', no'', ops'', o1'', o2'', o3'', sz'', st'', pr'', pc'', rg'', wk'', jn'', sd'', br'', io'', cp'', cl'', hd'', ct'', wt'', wc'', rr'', ab'', dx'', ox'', ss'', yy'', sp'', dy'', ly'', e1, e2, K2⟩⟩ := ih (i + 1) B s rc cc sl nw no ops o1 o2 o3 sz st pr pc rg wk jn sd br io cp cl hd ct wt wc rr ab dx ox ss yy sp dy ly (by omega) (by omega) h
      exact ⟨u', v', h1, h2, ⟨rc'', cc'', sl'', nw'', no'', ops'', o1'', o2'', o3'', sz'', st'', pr'', pc'', rg'', wk'', jn'', sd'', br'', io'', cp'', cl'', hd'', ct'', wt'', wc'', rr'', ab'', dx'', ox'', ss'', yy'', sp'', dy'', ly'', e1, e2, fd_K_m K2 (by omega) (by omega)⟩⟩
    by_cases s4 : st x.toNatClampNeg = 4
    · by_cases w : wk x.toNatClampNeg = nw
      · have hrc := fd_K_rc h hx (by rw [s4]; decide)
        have hp0 := ((h.2.1 x.toNatClampNeg (fd_lt hx)).1 (Or.inr (Or.inr (Or.inr s4)))).2
        have K1 := fd_K_row (pc' := pc) h (by omega) hx (Or.inr s4) fd_ag_r hp0
        obtain ⟨u', v', h1, h2, ⟨rc'', cc'', sl'', nw'', no'', ops'', o1'', o2'', o3'', sz'', st'', pr'', pc'', rg'', wk'', jn'', sd'', br'', io'', cp'', cl'', hd'', ct'', wt'', wc'', rr'', ab'', dx'', ox'', ss'', yy'', sp'', dy'', ly'', e1, e2, K2⟩⟩ := ih (i + 1) B (s + 1) _ _ _ _ _ _ _ _ _ _ _ _ _ _ _ _ _ _ _ _ _ _ _ _ _ _ _ _ _ _ _ _ _ _ (by omega) (by omega) K1
        refine ⟨u', v', fun post H => br_f n12 ⟨hx, br_t s4 ⟨hx, br_t w (fd_X_toRow hx hrc (nm_r hi1 (h1 post H)))⟩⟩, fun post x1 H => br_f n12 ⟨hx, br_t s4 ⟨hx, br_t w (fd_Y_ready hx (nm_r hi1 (h2 post x1 H)))⟩⟩, ⟨rc'', cc'', sl'', nw'', no'', ops'', o1'', o2'', o3'', sz'', st'', pr'', pc'', rg'', wk'', jn'', sd'', br'', io'', cp'', cl'', hd'', ct'', wt'', wc'', rr'', ab'', dx'', ox'', ss'', yy'', sp'', dy'', ly'', e1, e2, fd_K_m K2 (by omega) (by omega)⟩⟩
      · obtain ⟨u', v', h1, h2, h3⟩ := skip
        exact ⟨u', v', fun post H => br_f n12 ⟨hx, br_t s4 ⟨hx, br_f w (nm_r hi1 (h1 post H))⟩⟩, fun post x1 H => br_f n12 ⟨hx, br_t s4 ⟨hx, br_f w (nm_r hi1 (h2 post x1 H))⟩⟩, h3⟩
    · obtain ⟨u', v', h1, h2, h3⟩ := skip
      exact ⟨u', v', fun post H => br_f n12 ⟨hx, br_f s4 (nm_r hi1 (h1 post H))⟩, fun post x1 H => br_f n12 ⟨hx, br_f s4 (nm_r hi1 (h2 post x1 H))⟩, h3⟩
def fd_ac (z : Int32) : Prop := z = 1 ∨ z = 2 ∨ z = 4
theorem fd_ac_d (st : Nat → Int32) : (∀ g, g < 12 → ¬ fd_ac (st g)) ∨ ∃ b, b < 12 ∧ fd_ac (st b) ∧ ∀ g, g < b → ¬ fd_ac (st g) := by
  have key : ∀ n, n ≤ 12 → (∀ g, g < n → ¬ fd_ac (st g)) ∨ ∃ b, b < 12 ∧ fd_ac (st b) ∧ ∀ g, g < b → ¬ fd_ac (st g) := by
    intro n
    induction n with
    | zero => intro _; exact Or.inl (fun g hg => absurd hg (Nat.not_lt_zero g))
    | succ n ih =>
      intro hn
      rcases ih (by omega) with h | h
      · rcases Classical.em (fd_ac (st n)) with q | q
        · exact Or.inr ⟨n, by omega, q, h⟩
        · exact Or.inl (lt_s h q)
      · exact Or.inr h
  exact key 12 (Nat.le_refl 12)
section
variable {rc cc sl nw no : Int32} {ops o1 o2 o3 sz st pr pc rg wk jn sd br io cp cl hd ct wt wc rr ab dx ox : Nat → Int32} {ss : Int64} {yy : Int32} {sp : Nat → Int64} {dy ly : Nat → Int32} {B s : Nat}
theorem fd_X_cs {post : Int32 → Prop} {x : Int32} {n : Nat} (hx : vp_in x 12) (n12 : ¬ (12 : Int32) ≤ x) (na : ¬ fd_ac (st x.toNatClampNeg)) (H : wX_canGoOn_2 post rc cc sl nw no ops o1 o2 o3 sz st pr pc rg wk jn sd br io cp cl hd ct wt wc rr ab dx ox n (x + 1)) : wX_canGoOn_2 post rc cc sl nw no ops o1 o2 o3 sz st pr pc rg wk jn sd br io cp cl hd ct wt wc rr ab dx ox (n + 1) x := by
  refine br_f n12 (fd_X_aw hx (fun aw => br_f (by decide) ⟨hx, br_c (fun _ => nm_e H) (fun q => ?_)⟩) (fun _ => br_t rfl (nm_e H)))
  rcases aw with w | w | w | w
  · exact absurd (Or.inl w) na
  · exact absurd (Or.inr (Or.inl w)) na
  · exact absurd w q
  · exact absurd (Or.inr (Or.inr w)) na
theorem fd_Y_cs {post : Int32 → Prop} {x : Int32} {n : Nat} (hx : vp_in x 12) (n12 : ¬ (12 : Int32) ≤ x) (na : ¬ fd_ac (st x.toNatClampNeg)) (H : wY_isIdle_2 post cc sl nw no ss yy ops o1 o2 o3 sz st pr pc rg wk sp cp cl hd ct ab dy ly n (x + 1)) : wY_isIdle_2 post cc sl nw no ss yy ops o1 o2 o3 sz st pr pc rg wk sp cp cl hd ct ab dy ly (n + 1) x :=
  br_f n12 ⟨hx, br_f (fun z => na (Or.inl z)) ⟨hx, br_f (fun z => na (Or.inr (Or.inl z))) ⟨hx, br_f (fun z => na (Or.inr (Or.inr z))) (nm_e H)⟩⟩⟩
theorem fd_X_c1 {post : Int32 → Prop} {x : Int32} {n : Nat} (hx : vp_in x 12) (n12 : ¬ (12 : Int32) ≤ x) (ac : fd_ac (st x.toNatClampNeg)) (H : post 1) : wX_canGoOn_2 post rc cc sl nw no ops o1 o2 o3 sz st pr pc rg wk jn sd br io cp cl hd ct wt wc rr ab dx ox (n + 1) x := by
  have aw : fd_aw (st x.toNatClampNeg) := by
    rcases ac with w | w | w
    · exact Or.inl w
    · exact Or.inr (Or.inl w)
    · exact Or.inr (Or.inr (Or.inr w))
  have n3 : ¬ st x.toNatClampNeg = 3 := by
    rcases ac with w | w | w <;> rw [w] <;> decide
  exact br_f n12 (fd_X_aw hx (fun _ => br_f (by decide) ⟨hx, br_f n3 H⟩) (fun z => absurd aw z))
theorem fd_Y_c1 {post : Int32 → Prop} {x : Int32} {n : Nat} (hx : vp_in x 12) (n12 : ¬ (12 : Int32) ≤ x) (ac : fd_ac (st x.toNatClampNeg)) (H : post 0) : wY_isIdle_2 post cc sl nw no ss yy ops o1 o2 o3 sz st pr pc rg wk sp cp cl hd ct ab dy ly (n + 1) x :=
  br_f n12 ⟨hx, br_c (fun _ => H) (fun a1 => ⟨hx, br_c (fun _ => H) (fun a2 => ⟨hx, br_c (fun _ => H) (fun a3 => absurd (ac.elim a1 (fun q => q.elim a2 a3)) id)⟩)⟩)⟩
theorem fd_cgo : (∃ b : Nat, True ∧ (∀ post : Int32 → Prop, post 1 → wpX_canGoOn post (rc, cc, sl, nw, no, ops, o1, o2, o3, sz, st, pr, pc, rg, wk, jn, sd, br, io, cp, cl, hd, ct, wt, wc, rr, ab, dx, ox)) ∧ (∀ post : Int32 → Prop, post 0 → wpY_isIdle post (cc, sl, nw, no, ss, yy, ops, o1, o2, o3, sz, st, pr, pc, rg, wk, sp, cp, cl, hd, ct, ab, dy, ly))) ∨ ((∀ post : Int32 → Prop, post 0 → wpX_canGoOn post (rc, cc, sl, nw, no, ops, o1, o2, o3, sz, st, pr, pc, rg, wk, jn, sd, br, io, cp, cl, hd, ct, wt, wc, rr, ab, dx, ox)) ∧ (∀ post : Int32 → Prop, post 1 → wpY_isIdle post (cc, sl, nw, no, ss, yy, ops, o1, o2, o3, sz, st, pr, pc, rg, wk, sp, cp, cl, hd, ct, ab, dy, ly))) := by
  rcases fd_ac_d st with ha | ⟨b, hb, hb1, hb2⟩
  · right
    have key : ∀ d i : Nat, i + d = 12 → (∀ post : Int32 → Prop, post 0 → wX_canGoOn_2 post rc cc sl nw no ops o1 o2 o3 sz st pr pc rg wk jn sd br io cp cl hd ct wt wc rr ab dx ox (d + 1) (nI i)) ∧ (∀ post : Int32 → Prop, post 1 → wY_isIdle_2 post cc sl nw no ss yy ops o1 o2 o3 sz st pr pc rg wk sp cp cl hd ct ab dy ly (d + 1) (nI i)) := by
      intro d
      induction d with
      | zero =>
        intro i hi
        have e : i = 12 := by omega
        subst e
        exact ⟨fun post H => br_t (by decide) H, fun post H => br_t (by decide) H⟩
      | succ d ih =>
        intro i hi
        have hx : vp_in (nI i) 12 := vp_in_nI (by omega) (by omega)
        have n12 : ¬ (12 : Int32) ≤ nI i := nI_ge (b := 12) (by omega) (by decide)
        have na : ¬ fd_ac (st (nI i).toNatClampNeg) := by rw [nI_clamp (by omega)]; exact ha i (by omega)
        obtain ⟨q1, q2⟩ := ih (i + 1) (by omega)
        exact ⟨fun post H => fd_X_cs hx n12 na (by rw [nI_1]; exact q1 post H), fun post H => fd_Y_cs hx n12 na (by rw [nI_1]; exact q2 post H)⟩
    obtain ⟨q1, q2⟩ := key 12 0 rfl
    refine ⟨fun post H => ?_, fun post H => ?_⟩
    · unfold wpX_canGoOn; exact ⟨13, q1 post H⟩
    · unfold wpY_isIdle; exact ⟨13, q2 post H⟩
  · left
    have key : ∀ d i : Nat, i + d = b → (∀ post : Int32 → Prop, post 1 → wX_canGoOn_2 post rc cc sl nw no ops o1 o2 o3 sz st pr pc rg wk jn sd br io cp cl hd ct wt wc rr ab dx ox (d + 1) (nI i)) ∧ (∀ post : Int32 → Prop, post 0 → wY_isIdle_2 post cc sl nw no ss yy ops o1 o2 o3 sz st pr pc rg wk sp cp cl hd ct ab dy ly (d + 1) (nI i)) := by
      intro d
      induction d with
      | zero =>
        intro i hi
        have e : i = b := by omega
        subst e
        have hx : vp_in (nI i) 12 := vp_in_nI (by omega) (by omega)
        have n12 : ¬ (12 : Int32) ≤ nI i := nI_ge (b := 12) (by omega) (by decide)
        have ac : fd_ac (st (nI i).toNatClampNeg) := by rw [nI_clamp (by omega)]; exact hb1
        exact ⟨fun post H => fd_X_c1 hx n12 ac H, fun post H => fd_Y_c1 hx n12 ac H⟩
      | succ d ih =>
        intro i hi
        have hx : vp_in (nI i) 12 := vp_in_nI (by omega) (by omega)
        have n12 : ¬ (12 : Int32) ≤ nI i := nI_ge (b := 12) (by omega) (by decide)
        have na : ¬ fd_ac (st (nI i).toNatClampNeg) := by rw [nI_clamp (by omega)]; exact hb2 i (by omega)
        obtain ⟨q1, q2⟩ := ih (i + 1) (by omega)
        exact ⟨fun post H => fd_X_cs hx n12 na (by rw [nI_1]; exact q1 post H), fun post H => fd_Y_cs hx n12 na (by rw [nI_1]; exact q2 post H)⟩
    obtain ⟨q1, q2⟩ := key b 0 (Nat.zero_add b)
    refine ⟨b, trivial, fun post H => ?_, fun post H => ?_⟩
    · unfold wpX_canGoOn; exact ⟨b + 1, q1 post H⟩
    · unfold wpY_isIdle; exact ⟨b + 1, q2 post H⟩
end
theorem fd_ticks {n : Nat} (hn : n ≤ 2000) : ∀ (d i B s : Nat) (x2 : Int32) (rc cc sl nw no : Int32) (ops o1 o2 o3 sz st pr pc rg wk jn sd br io cp cl hd ct wt wc rr ab dx ox : Nat → Int32) (ss : Int64) (yy : Int32) (sp : Nat → Int64) (dy ly : Nat → Int32), i + d = n → s + 1000 * d < 2 ^ 62 → B + 3 * d < 2 ^ 30 → fd_K B s 3 rc cc sl nw no ops o1 o2 o3 sz st pr pc rg wk jn sd br io cp cl hd ct wt wc rr ab dx ox ss yy sp dy ly → ∃ (r : Int32) (u' : SX) (v' : SY), (∀ post : Int32 → SX → Prop, post r u' → wX_run_28 post (nI n) (d + 1) x2 (nI i) rc cc sl nw no ops o1 o2 o3 sz st pr pc rg wk jn sd br io cp cl hd ct wt wc rr ab dx ox) ∧ (∀ post : Int32 → SY → Prop, post r v' → wY_run_28 post (nI n) (d + 1) x2 (nI i) cc sl nw no ss yy ops o1 o2 o3 sz st pr pc rg wk sp cp cl hd ct ab dy ly) ∧ fd_RR (B + 3 * d) (s + 1000 * d) u' v' := by
  intro d
  induction d with
  | zero =>
    intro i B s x2 rc cc sl nw no ops o1 o2 o3 sz st pr pc rg wk jn sd br io cp cl hd ct wt wc rr ab dx ox ss yy sp dy ly hi hs hB h
    have le : nI n ≤ nI i := nI_le (by omega) (by omega)
    exact ⟨x2, (rc, cc, sl, nw, no, ops, o1, o2, o3, sz, st, pr, pc, rg, wk, jn, sd, br, io, cp, cl, hd, ct, wt, wc, rr, ab, dx, ox), (cc, sl, nw, no, ss, yy, ops, o1, o2, o3, sz, st, pr, pc, rg, wk, sp, cp, cl, hd, ct, ab, dy, ly), fun post H => br_t le H, fun post H => br_t le H, ⟨rc, cc, sl, nw, no, ops, o1, o2, o3, sz, st, pr, pc, rg, wk, jn, sd, br, io, cp, cl, hd, ct, wt, wc, rr, ab, dx, ox, ss, yy, sp, dy, ly, rfl, rfl, h⟩⟩
  | succ d ih =>
    intro i B s x2 rc cc sl nw no ops o1 o2 o3 sz st pr pc rg wk jn sd br io cp cl hd ct wt wc rr ab dx ox ss yy sp dy ly hi hs hB h
    have le : ¬ nI n ≤ nI i := nI_ge (by omega) (by omega)
    rcases fd_cgo (rc := rc) (cc := cc) (sl := sl) (nw := nw) (no := no) (ops := ops) (o1 := o1) (o2 := o2) (o3 := o3) (sz := sz) (st := st) (pr := pr) (pc := pc) (rg := rg) (wk := wk) (jn := jn) (sd := sd) (br := br) (io := io) (cp := cp) (cl := cl) (hd := hd) (ct := ct) (wt := wt) (wc := wc) (rr := rr) (ab := ab) (dx := dx) (ox := ox) (ss := ss) (yy := yy) (sp := sp) (dy := dy) (ly := ly) with ⟨_, _, c1, c2⟩ | ⟨c1, c2⟩
    · have h0 : fd_K B s 3 rc cc sl (nw + 1) no ops o1 o2 o3 sz st pr pc rg wk jn sd br io cp cl hd ct wt wc rr ab dx ox ss yy sp dy ly := h
      obtain ⟨u1, v1, w1, w2, ⟨rc', cc', sl', nw', no', ops', o1', o2', o3', sz', st', pr', pc', rg', wk', jn', sd', br', io', cp', cl', hd', ct', wt', wc', rr', ab', dx', ox', ss', yy', sp', dy', ly', rfl, rfl, K1⟩⟩ := fd_wake 12 0 B s _ _ _ _ _ _ _ _ _ _ _ _ _ _ _ _ _ _ _ _ _ _ _ _ _ _ _ _ _ _ _ _ _ _ rfl (by omega) h0
      obtain ⟨q, u2, v2, g1, g2, ⟨rc'', cc'', sl'', nw'', no'', ops'', o1'', o2'', o3'', sz'', st'', pr'', pc'', rg'', wk'', jn'', sd'', br'', io'', cp'', cl'', hd'', ct'', wt'', wc'', rr'', ab'', dx'', ox'', ss'', yy'', sp'', dy'', ly'', rfl, rfl, K2⟩⟩ := fd_cars 3 0 B (s + 12) _ _ _ _ _ _ _ _ _ _ _ _ _ _ _ _ _ _ _ _ _ _ _ _ _ _ _ _ _ _ _ _ _ _ rfl (by omega) (by omega) K1
      obtain ⟨r, u3, v3, f1, f2, ⟨rc''', cc''', sl''', nw''', no''', ops''', o1''', o2''', o3''', sz''', st''', pr''', pc''', rg''', wk''', jn''', sd''', br''', io''', cp''', cl''', hd''', ct''', wt''', wc''', rr''', ab''', dx''', ox''', ss''', yy''', sp''', dy''', ly''', e1, e2, K3⟩⟩ := ih (i + 1) (B + 3) (s + 12 + 201 * 3) (x2 + q) _ _ _ _ _ _ _ _ _ _ _ _ _ _ _ _ _ _ _ _ _ _ _ _ _ _ _ _ _ _ _ _ _ _ (by omega) (by omega) (by omega) K2
      refine ⟨r, u3, v3, fun post H => br_f le (c1 _ (br_f (by decide) (nm_e ?_))), fun post H => br_f le (c2 _ (br_t rfl ?_)), ⟨rc''', cc''', sl''', nw''', no''', ops''', o1''', o2''', o3''', sz''', st''', pr''', pc''', rg''', wk''', jn''', sd''', br''', io''', cp''', cl''', hd''', ct''', wt''', wc''', rr''', ab''', dx''', ox''', ss''', yy''', sp''', dy''', ly''', e1, e2, fd_K_m K3 (by omega) (by omega)⟩⟩
      · unfold wpX_wakeSleepers
        refine ⟨13, w1 _ ⟨4, g1 post (nI n) (nI i) x2 (d + 1) ?_⟩⟩
        rw [nI_1]
        exact f1 post H
      · unfold wpY_tick
        refine nm_e ⟨13, w2 _ 0 ⟨4, g2 _ 0 ?_⟩⟩
        rw [Int32.zero_add]
        exact nm_e (nm_r (nI_1 i) (f2 post H))
    · exact ⟨x2, (rc, cc, sl, nw, no, ops, o1, o2, o3, sz, st, pr, pc, rg, wk, jn, sd, br, io, cp, cl, hd, ct, wt, wc, rr, ab, dx, ox), (cc, sl, nw, no, ss, yy, ops, o1, o2, o3, sz, st, pr, pc, rg, wk, sp, cp, cl, hd, ct, ab, dy, ly), fun post H => br_f le (c1 _ (br_t rfl H)), fun post H => br_f le (c2 _ (br_f (by decide) H)), ⟨rc, cc, sl, nw, no, ops, o1, o2, o3, sz, st, pr, pc, rg, wk, jn, sd, br, io, cp, cl, hd, ct, wt, wc, rr, ab, dx, ox, ss, yy, sp, dy, ly, rfl, rfl, fd_K_m h (by omega) (by omega)⟩⟩
