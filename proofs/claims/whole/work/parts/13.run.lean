def fd_RR (B s : Nat) (u : SX) (v : SY) : Prop := ∃ (rc cc sl nw no : Int32) (ops o1 o2 o3 sz st pr pc rg wk jn sd br io cp cl hd ct wt wc rr ab dx ox : Nat → Int32) (ss : Int64) (yy : Int32) (sp : Nat → Int64) (dy ly : Nat → Int32), u = (rc, cc, sl, nw, no, ops, o1, o2, o3, sz, st, pr, pc, rg, wk, jn, sd, br, io, cp, cl, hd, ct, wt, wc, rr, ab, dx, ox) ∧ v = (cc, sl, nw, no, ss, yy, ops, o1, o2, o3, sz, st, pr, pc, rg, wk, sp, cp, cl, hd, ct, ab, dy, ly) ∧ fd_K B s 3 rc cc sl nw no ops o1 o2 o3 sz st pr pc rg wk jn sd br io cp cl hd ct wt wc rr ab dx ox ss yy sp dy ly
def fd_C56 (post : Int32 → SY → Prop) (n : Nat) (x1 x2 : Int32) (v : SY) : Prop := match v with | (cc, sl, nw, no, ss, yy, ops, o1, o2, o3, sz, st, pr, pc, rg, wk, sp, cp, cl, hd, ct, ab, dy, ly) => wY_tick_56 post n x1 x2 cc sl nw no ss yy ops o1 o2 o3 sz st pr pc rg wk sp cp cl hd ct ab dy ly
def fd_T56 (post : Int32 → SY → Prop) (x1 : Int32) (v : SY) : Prop := match v with | (cc, sl, nw, no, ss, yy, ops, o1, o2, o3, sz, st, pr, pc, rg, wk, sp, cp, cl, hd, ct, ab, dy, ly) => ∃ n, wY_tick_56 post n x1 0 cc sl nw no ss yy ops o1 o2 o3 sz st pr pc rg wk sp cp cl hd ct ab dy ly
def fd_C28 (post : Int32 → SX → Prop) (p : Int32) (m : Nat) (x2 x3 : Int32) (u : SX) : Prop := match u with | (rc, cc, sl, nw, no, ops, o1, o2, o3, sz, st, pr, pc, rg, wk, jn, sd, br, io, cp, cl, hd, ct, wt, wc, rr, ab, dx, ox) => wX_run_28 post p m x2 x3 rc cc sl nw no ops o1 o2 o3 sz st pr pc rg wk jn sd br io cp cl hd ct wt wc rr ab dx ox
def fd_Yt (post : Int32 → SY → Prop) (n : Nat) (x1 x2 x3 : Int32) (cc sl nw no : Int32) (ss : Int64) (yy : Int32) (ops o1 o2 o3 sz st pr pc rg wk : Nat → Int32) (sp : Nat → Int64) (cp cl hd ct ab dy ly : Nat → Int32) : Prop := vp_in x2 3 ∧ (vp_in x2 3 ∧ ∀ dy' : Nat → Int32, dy' = upd dy x2.toNatClampNeg (dy x2.toNatClampNeg + 1) → (vp_in x3 12 ∧ ((st x3.toNatClampNeg = 2 → ((yy = 0 → (vp_in x2 3 ∧ ((dy' x2.toNatClampNeg < sl → wY_tick_174 post (wY_tick_56 post n) x1 x2 x3 cc sl nw no ss yy ops o1 o2 o3 sz st pr pc rg wk sp cp cl hd ct ab dy' ly) ∧ (¬ dy' x2.toNatClampNeg < sl → wY_tick_169 post (wY_tick_56 post n) x1 x2 x3 cc sl nw no ss yy ops o1 o2 o3 sz st pr pc rg wk sp cp cl hd ct ab dy' ly)))) ∧ (¬ yy = 0 → wY_tick_169 post (wY_tick_56 post n) x1 x2 x3 cc sl nw no ss yy ops o1 o2 o3 sz st pr pc rg wk sp cp cl hd ct ab dy' ly))) ∧ (¬ st x3.toNatClampNeg = 2 → wY_tick_174 post (wY_tick_56 post n) x1 x2 x3 cc sl nw no ss yy ops o1 o2 o3 sz st pr pc rg wk sp cp cl hd ct ab dy' ly))))
section
variable {cc : Int32} {st ab dx dy : Nat → Int32}
theorem fd_N_w {k : Nat} (h : fd_N cc st ab dx dy 3) : fd_N cc st ab dx dy k := ⟨h.1, fun j hj => (h.2.1 j hj).imp id (fun q => ⟨q.1, fun _ => q.2.1 (by omega), q.2.2⟩), h.2.2⟩
theorem fd_N_in {k : Nat} (h : fd_N cc st ab dx dy k) (hk : st (ab k).toNatClampNeg = 2) : fd_N cc st ab dx dy 3 := ⟨h.1, fun j hj => (h.2.1 j hj).imp id (fun q => ⟨q.1, fun _ => by
  by_cases e : j = k
  · rw [e]; exact hk
  · exact q.2.1 e, q.2.2⟩), h.2.2⟩
theorem fd_N_out {k : Nat} (h : fd_N cc st ab dx dy k) : fd_N cc st (upd ab k (-1)) dx dy 3 := by
  refine ⟨h.1, fun j hj => ?_, fun i j hi hj q n1 => ?_⟩
  · by_cases e : j = k
    · rw [e, pk_us]; exact Or.inl rfl
    · rw [pk_un e]; exact (h.2.1 j hj).imp id (fun q => ⟨q.1, fun _ => q.2.1 e, q.2.2⟩)
  · by_cases e : i = k
    · rw [e, pk_us] at n1; exact absurd rfl n1
    · rw [pk_un e] at q n1
      by_cases e' : j = k
      · rw [e', pk_us] at q; exact absurd q n1
      · rw [pk_un e'] at q; exact h.2.2 i j hi hj q n1
theorem fd_N_d {k i : Nat} (h : fd_N cc st ab dx dy k) (hi : i < 3) : fd_N cc st ab (upd dx i (dx i + 1)) (upd dy i (dy i + 1)) k := by
  refine ⟨h.1, fun j hj => (h.2.1 j hj).imp id (fun q => ⟨q.1, q.2.1, ?_⟩), h.2.2⟩
  by_cases e : j = i
  · subst e; rw [pk_us, pk_us, q.2.2]
  · rw [pk_un e, pk_un e]; exact q.2.2
end
section
variable {rc cc sl nw no : Int32} {ops o1 o2 o3 sz st pr pc rg wk jn sd br io cp cl hd ct wt wc rr ab dx ox : Nat → Int32} {ss : Int64} {yy : Int32} {sp : Nat → Int64} {dy ly : Nat → Int32} {B s k0 : Nat}
theorem fd_K_N {ab' dx' dy' : Nat → Int32} {k1 : Nat} (h : fd_K B s k0 rc cc sl nw no ops o1 o2 o3 sz st pr pc rg wk jn sd br io cp cl hd ct wt wc rr ab dx ox ss yy sp dy ly) (hN : fd_N cc st ab' dx' dy' k1) : fd_K B s k1 rc cc sl nw no ops o1 o2 o3 sz st pr pc rg wk jn sd br io cp cl hd ct wt wc rr ab' dx' ox ss yy sp dy' ly := ⟨h.1, h.2.1, h.2.2.1, h.2.2.2.1, h.2.2.2.2.1, h.2.2.2.2.2.1, h.2.2.2.2.2.2.1, hN⟩
theorem fd_K_m {B' s' : Nat} (h : fd_K B s k0 rc cc sl nw no ops o1 o2 o3 sz st pr pc rg wk jn sd br io cp cl hd ct wt wc rr ab dx ox ss yy sp dy ly) (hB : B ≤ B') (hs : s ≤ s') : fd_K B' s' k0 rc cc sl nw no ops o1 o2 o3 sz st pr pc rg wk jn sd br io cp cl hd ct wt wc rr ab dx ox ss yy sp dy ly := by
  obtain ⟨hG, hF, hR, hV, hS, hC, ⟨n, hO1, hO2⟩, hN⟩ := h
  exact ⟨hG, hF, hR, hV, fd_S_m hS hs, hC, ⟨n, by omega, hO2⟩, hN⟩
theorem fd_lvR {x z : Int32} (hx : vp_in x 3) (hz : vp_in z 12) (ez : ab x.toNatClampNeg = z) (hy : yy = 0) (hs : s < 2 ^ 62) (h : fd_K B s x.toNatClampNeg rc cc sl nw no ops o1 o2 o3 sz st pr pc rg wk jn sd br io cp cl hd ct wt wc rr ab dx ox ss yy sp dy ly) : ∃ u' v', (∀ post : SX → Prop, post u' → wpX_leaveIfDue post (rc, cc, sl, nw, no, ops, o1, o2, o3, sz, st, pr, pc, rg, wk, jn, sd, br, io, cp, cl, hd, ct, wt, wc, rr, ab, dx, ox) x) ∧ (∀ (post : Int32 → SY → Prop) (n : Nat) (x1 : Int32), fd_C56 post n x1 (x + 1) v' → fd_Yt post n x1 x z cc sl nw no ss yy ops o1 o2 o3 sz st pr pc rg wk sp cp cl hd ct ab dy ly) ∧ fd_RR B (s + 1) u' v' := by
  have K1 := fd_K_N h (fd_N_d h.2.2.2.2.2.2.2 (fd_lt hx))
  have hN1 := K1.2.2.2.2.2.2.2
  by_cases s2 : st z.toNatClampNeg = 2
  · have hr : fd_run x.toNatClampNeg st ab z := ⟨hz, s2, fd_lt hx, ez⟩
    have hrc := fd_K_rc h hz (by rw [s2]; decide)
    have exy : upd dx x.toNatClampNeg (dx x.toNatClampNeg + 1) x.toNatClampNeg = upd dy x.toNatClampNeg (dy x.toNatClampNeg + 1) x.toNatClampNeg := by
      rcases hN1.2.1 x.toNatClampNeg (fd_lt hx) with q | q
      · exact absurd (ez.symm.trans q) (fd_m1 hz)
      · exact q.2.2
    by_cases lt : upd dx x.toNatClampNeg (dx x.toNatClampNeg + 1) x.toNatClampNeg < sl
    · have K2 := fd_K_N K1 (fd_N_in hN1 (by rw [ez]; exact s2))
      refine ⟨(rc, cc, sl, nw, no, ops, o1, o2, o3, sz, st, pr, pc, rg, wk, jn, sd, br, io, cp, cl, hd, ct, wt, wc, rr, ab, upd dx x.toNatClampNeg (dx x.toNatClampNeg + 1), ox), (cc, sl, nw, no, ss, yy, ops, o1, o2, o3, sz, st, pr, pc, rg, wk, sp, cp, cl, hd, ct, ab, upd dy x.toNatClampNeg (dy x.toNatClampNeg + 1), ly), fun post H => ?_, fun post n x1 H => ?_, ⟨rc, cc, sl, nw, no, ops, o1, o2, o3, sz, st, pr, pc, rg, wk, jn, sd, br, io, cp, cl, hd, ct, wt, wc, rr, ab, _, ox, ss, yy, sp, _, ly, rfl, rfl, fd_K_m K2 (Nat.le_refl B) (by omega)⟩⟩
      · exact And.intro hx (nm_r ez ⟨hx, hx, nm_e ⟨hz, br_t s2 ⟨hx, br_t lt (And.intro hz (br_t s2 H))⟩⟩⟩)
      · exact ⟨hx, hx, nm_e ⟨hz, br_t s2 (br_t hy ⟨hx, br_t (by rw [← exy]; exact lt) (And.intro hz (br_t s2 (nm_e H)))⟩)⟩⟩
    · have hp0 := ((h.2.1 z.toNatClampNeg (fd_lt hz)).1 (Or.inr (Or.inl s2))).2
      have K2 := fd_K_row (pc' := pc) K1 hs hz (Or.inl hr) fd_ag_r hp0
      have K3 := fd_K_N K2 (fd_N_out K2.2.2.2.2.2.2.2)
      have m2 : ¬ upd st z.toNatClampNeg 1 z.toNatClampNeg = 2 := by rw [pk_us]; decide
      refine ⟨(rc + 1, cc, sl, nw, no, ops, o1, o2, o3, sz, upd st z.toNatClampNeg 1, pr, pc, rg, wk, jn, sd, br, io, cp, cl, hd, ct, wt, wc, upd rr rc.toNatClampNeg z, upd ab x.toNatClampNeg (-1), upd dx x.toNatClampNeg (dx x.toNatClampNeg + 1), ox), (cc, sl, nw, no, ss + 1, yy, ops, o1, o2, o3, sz, upd st z.toNatClampNeg 1, pr, pc, rg, wk, vp_updL sp z.toNatClampNeg (ss + 1), cp, cl, hd, ct, upd ab x.toNatClampNeg (-1), upd dy x.toNatClampNeg (dy x.toNatClampNeg + 1), ly), fun post H => ?_, fun post n x1 H => ?_, ⟨_, cc, sl, nw, no, ops, o1, o2, o3, sz, _, pr, pc, rg, wk, jn, sd, br, io, cp, cl, hd, ct, wt, wc, _, _, _, ox, _, yy, _, _, ly, rfl, rfl, K3⟩⟩
      · exact And.intro hx (nm_r ez ⟨hx, hx, nm_e ⟨hz, br_t s2 ⟨hx, br_f lt (fd_X_toRow hz hrc (And.intro hz (br_f m2 ⟨hx, nm_e H⟩)))⟩⟩⟩)
      · exact ⟨hx, hx, nm_e ⟨hz, br_t s2 (br_t hy ⟨hx, br_f (by rw [← exy]; exact lt) (fd_Y_ready hz (And.intro hz (br_f m2 ⟨hx, nm_e (nm_e H)⟩)))⟩)⟩⟩
  · have K2 := fd_K_N K1 (fd_N_out hN1)
    refine ⟨(rc, cc, sl, nw, no, ops, o1, o2, o3, sz, st, pr, pc, rg, wk, jn, sd, br, io, cp, cl, hd, ct, wt, wc, rr, upd ab x.toNatClampNeg (-1), upd dx x.toNatClampNeg (dx x.toNatClampNeg + 1), ox), (cc, sl, nw, no, ss, yy, ops, o1, o2, o3, sz, st, pr, pc, rg, wk, sp, cp, cl, hd, ct, upd ab x.toNatClampNeg (-1), upd dy x.toNatClampNeg (dy x.toNatClampNeg + 1), ly), fun post H => ?_, fun post n x1 H => ?_, ⟨rc, cc, sl, nw, no, ops, o1, o2, o3, sz, st, pr, pc, rg, wk, jn, sd, br, io, cp, cl, hd, ct, wt, wc, rr, _, _, ox, ss, yy, sp, _, ly, rfl, rfl, fd_K_m K2 (Nat.le_refl B) (by omega)⟩⟩
    · exact And.intro hx (nm_r ez ⟨hx, hx, nm_e ⟨hz, br_f s2 (And.intro hz (br_f s2 ⟨hx, nm_e H⟩))⟩⟩)
    · exact ⟨hx, hx, nm_e ⟨hz, br_f s2 (And.intro hz (br_f s2 ⟨hx, nm_e (nm_e H)⟩))⟩⟩
theorem fd_lvD {x z : Int32} (hx : vp_in x 3) (hr : fd_run x.toNatClampNeg st ab z) (hy : ¬ yy = 0) (hs : s < 2 ^ 62) (h : fd_K B s x.toNatClampNeg rc cc sl nw no ops o1 o2 o3 sz st pr pc rg wk jn sd br io cp cl hd ct wt wc rr ab dx ox ss yy sp dy ly) : ∃ u' v', (∀ post : SX → Prop, post u' → wpX_leaveIfDue post (rc + 1, cc, sl, nw, no, ops, o1, o2, o3, sz, upd st z.toNatClampNeg 1, pr, pc, rg, wk, jn, sd, br, io, cp, cl, hd, ct, wt, wc, upd rr rc.toNatClampNeg z, ab, dx, ox) x) ∧ (∀ (post : Int32 → SY → Prop) (n : Nat) (x1 : Int32), fd_C56 post n x1 (x + 1) v' → fd_Yt post n x1 x z cc sl nw no ss yy ops o1 o2 o3 sz st pr pc rg wk sp cp cl hd ct ab dy ly) ∧ fd_RR B (s + 1) u' v' := by
  obtain ⟨hz, s2, _, ez⟩ := hr
  have hr : fd_run x.toNatClampNeg st ab z := ⟨hz, s2, fd_lt hx, ez⟩
  have K1 := fd_K_N h (fd_N_d h.2.2.2.2.2.2.2 (fd_lt hx))
  have hp0 := ((h.2.1 z.toNatClampNeg (fd_lt hz)).1 (Or.inr (Or.inl s2))).2
  have K2 := fd_K_row (pc' := pc) K1 hs hz (Or.inl hr) fd_ag_r hp0
  have K3 := fd_K_N K2 (fd_N_out K2.2.2.2.2.2.2.2)
  have m2 : ¬ upd st z.toNatClampNeg 1 z.toNatClampNeg = 2 := by rw [pk_us]; decide
  refine ⟨(rc + 1, cc, sl, nw, no, ops, o1, o2, o3, sz, upd st z.toNatClampNeg 1, pr, pc, rg, wk, jn, sd, br, io, cp, cl, hd, ct, wt, wc, upd rr rc.toNatClampNeg z, upd ab x.toNatClampNeg (-1), upd dx x.toNatClampNeg (dx x.toNatClampNeg + 1), ox), (cc, sl, nw, no, ss + 1, yy, ops, o1, o2, o3, sz, upd st z.toNatClampNeg 1, pr, pc, rg, wk, vp_updL sp z.toNatClampNeg (ss + 1), cp, cl, hd, ct, upd ab x.toNatClampNeg (-1), upd dy x.toNatClampNeg (dy x.toNatClampNeg + 1), ly), fun post H => ?_, fun post n x1 H => ?_, ⟨_, cc, sl, nw, no, ops, o1, o2, o3, sz, _, pr, pc, rg, wk, jn, sd, br, io, cp, cl, hd, ct, wt, wc, _, _, _, ox, _, yy, _, _, ly, rfl, rfl, K3⟩⟩
  · exact And.intro hx (nm_r ez ⟨hx, hx, nm_e ⟨hz, br_f m2 (And.intro hz (br_f m2 ⟨hx, nm_e H⟩))⟩⟩)
  · exact ⟨hx, hx, nm_e ⟨hz, br_t s2 (br_f hy (fd_Y_ready hz (And.intro hz (br_f m2 ⟨hx, nm_e (nm_e H)⟩))))⟩⟩
/-- a fibre is aboard: it does its step and leaves or stays -/
theorem fd_go {x z : Int32} (hx : vp_in x 3) (hr : fd_run x.toNatClampNeg st ab z) (hs : s + 201 < 2 ^ 62) (hB : B < 2 ^ 30) (h : fd_K B s x.toNatClampNeg rc cc sl nw no ops o1 o2 o3 sz st pr pc rg wk jn sd br io cp cl hd ct wt wc rr ab dx ox ss yy sp dy ly) : ∃ u1 u' v', (∀ post : SX → Prop, post u1 → wpX_perform post (rc, cc, sl, nw, no, ops, o1, o2, o3, sz, st, pr, pc, rg, wk, jn, sd, br, io, cp, cl, hd, ct, wt, wc, rr, ab, dx, ox) z) ∧ (∀ post : SX → Prop, post u' → wpX_leaveIfDue post u1 x) ∧ (∀ (post : Int32 → SY → Prop) (n : Nat) (x1 : Int32), fd_C56 post n (x1 + 1) (x + 1) v' → wY_tick_114 post (wY_tick_56 post n) x1 x cc sl nw no ss yy ops o1 o2 o3 sz st pr pc rg wk sp cp cl hd ct ab dy ly) ∧ fd_RR (B + 1) (s + 201) u' v' := by
  obtain ⟨u1, v1, h1, h2, hq⟩ := fd_step hr (by omega) hB h
  have hz := hr.1
  have ez := hr.2.2.2
  rcases hq with ⟨rc', cc', sl', nw', no', ops', o1', o2', o3', sz', st', pr', pc', rg', wk', jn', sd', br', io', cp', cl', hd', ct', wt', wc', rr', ab', dx', ox', ss', yy', sp', dy', ly', rfl, rfl, K1, _, _, eab, eyy⟩ | ⟨rc', cc', sl', nw', no', ops', o1', o2', o3', sz', st', pr', pc', rg', wk', jn', sd', br', io', cp', cl', hd', ct', wt', wc', rr', ab', dx', ox', ss', yy', sp', dy', ly', rfl, rfl, hyy, K1, hr1, eab⟩
  · obtain ⟨u', v', g1, g2, g3⟩ := fd_lvR hx hz (by rw [eab]; exact ez) eyy (by omega) K1
    refine ⟨_, u', v', h1, g1, fun post n x1 H => ?_, g3⟩
    exact And.intro hx (nm_r ez (h2 _ (nm_e (g2 post n (x1 + 1) H))))
  · obtain ⟨u', v', g1, g2, ⟨rc'', cc'', sl'', nw'', no'', ops'', o1'', o2'', o3'', sz'', st'', pr'', pc'', rg'', wk'', jn'', sd'', br'', io'', cp'', cl'', hd'', ct'', wt'', wc'', rr'', ab'', dx'', ox'', ss'', yy'', sp'', dy'', ly'', e1, e2, K2⟩⟩ := fd_lvD hx hr1 hyy (by omega) K1
    refine ⟨_, u', v', h1, g1, fun post n x1 H => ?_, ⟨rc'', cc'', sl'', nw'', no'', ops'', o1'', o2'', o3'', sz'', st'', pr'', pc'', rg'', wk'', jn'', sd'', br'', io'', cp'', cl'', hd'', ct'', wt'', wc'', rr'', ab'', dx'', ox'', ss'', yy'', sp'', dy'', ly'', e1, e2, fd_K_m K2 (by omega) (by omega)⟩⟩
    exact And.intro hx (nm_r ez (h2 _ (nm_e (g2 post n (x1 + 1) H))))
theorem fd_K_board {x : Int32} {a : Nat} {l : List Nat} (hx : vp_in x 3) (ha : ab x.toNatClampNeg = -1) (hQ : fd_Q (fun f => st f = 1) sp (a :: l)) (hH : fd_H rr 0 (a :: l)) (h : fd_K B s 3 rc cc sl nw no ops o1 o2 o3 sz st pr pc rg wk jn sd br io cp cl hd ct wt wc rr ab dx ox ss yy sp dy ly) : fd_K B s x.toNatClampNeg (nI l.length) cc sl nw no ops o1 o2 o3 sz (upd st (nI a).toNatClampNeg 2) pr pc rg wk jn sd br io cp cl hd ct wt wc (fd_sh rr 0 l.length) (upd ab x.toNatClampNeg (nI a)) (upd dx x.toNatClampNeg 0) ox ss yy sp (upd dy x.toNatClampNeg 0) ly ∧ fd_run x.toNatClampNeg (upd st (nI a).toNatClampNeg 2) (upd ab x.toNatClampNeg (nI a)) (nI a) := by
  obtain ⟨hG, hF, hR, hV, hS, hC, hO, hN⟩ := h
  have ma := (hQ.1 a).mp List.mem_cons_self
  have hz : vp_in (nI a) 12 := vp_in_nI ma.1 (by omega)
  have ea : (nI a).toNatClampNeg = a := nI_clamp (by omega)
  have s1 : st (nI a).toNatClampNeg = 1 := by rw [ea]; exact ma.2
  have n3 : st (nI a).toNatClampNeg ≠ 3 := by rw [s1]; decide
  have m1 : upd st (nI a).toNatClampNeg 2 (nI a).toNatClampNeg ≠ 1 := by rw [pk_us]; decide
  have m3 : upd st (nI a).toNatClampNeg 2 (nI a).toNatClampNeg ≠ 3 := by rw [pk_us]; decide
  have hp := (hF (nI a).toNatClampNeg (fd_lt hz)).1 (Or.inl s1)
  have nd := List.nodup_cons.mp (fd_Q_nd hQ)
  refine ⟨⟨hG, fd_Fs hF fd_ag_u fd_ag_r fd_ag_r fd_ag_r fd_ag_r fd_ag_r fd_ag_r fd_agr_r (fd_F_n m3 hp), ⟨l, ?_, ?_, rfl⟩, fd_V_s hV fd_ag_u fd_ag_r fd_ag_r fd_agL_r n3 m3, hS, hC, hO, hN.1, ?_, ?_⟩, hz, pk_us, fd_lt hx, pk_us⟩
  · have q := fd_Qrem (P' := fun f => upd st (nI a).toNatClampNeg 2 f = 1) (sp' := sp) (f := a) hQ (by show ¬ upd st (nI a).toNatClampNeg 2 a = 1; rw [ea, pk_us]; decide) (fun g hg e => by show upd st (nI a).toNatClampNeg 2 g = 1 ↔ st g = 1; rw [pk_un (by rw [ea]; exact e)]) (fun g hg e => rfl)
    have ef : (a :: l).filter (fun g => decide (g ≠ a)) = l := by
      rw [List.filter_cons, if_neg (by simp), List.filter_eq_self]
      intro g hg
      exact decide_eq_true (fun e => nd.1 (e ▸ hg))
    rw [ef] at q
    exact q
  · intro i hi
    have q := hH (i + 1) (by show i + 1 < l.length + 1; omega)
    rw [Nat.zero_add] at q ⊢
    have e : fd_sh rr 0 l.length i = rr (i + 1) := if_pos (by omega)
    rw [e]; exact q
  · intro k hk
    by_cases e : k = x.toNatClampNeg
    · rw [e, pk_us, pk_us, pk_us]; exact Or.inr ⟨hz, fun n => absurd rfl n, pk_us.symm⟩
    · rw [pk_un e, pk_un e, pk_un e]
      refine (hN.2.1 k hk).imp id (fun q => ⟨q.1, fun _ => ?_, q.2.2⟩)
      have q2 := q.2.1 (by omega)
      rw [pk_un (fun w => by rw [w, s1] at q2; exact absurd q2 (by decide))]; exact q2
  · have nz : ∀ j, j < 3 → ab j ≠ nI a := fun j hj w => by
      rcases hN.2.1 j hj with q | q
      · exact fd_m1 hz (w.symm.trans q)
      · have q2 := q.2.1 (by omega)
        rw [w, s1] at q2; exact absurd q2 (by decide)
    intro i j hi hj q n1
    by_cases e : i = x.toNatClampNeg
    · by_cases e' : j = x.toNatClampNeg
      · rw [e, e']
      · rw [e, pk_us, pk_un e'] at q; exact absurd q.symm (nz j hj)
    · by_cases e' : j = x.toNatClampNeg
      · rw [e', pk_us, pk_un e] at q; exact absurd q (nz i hi)
      · rw [pk_un e, pk_un e'] at q
        rw [pk_un e] at n1
        exact hN.2.2 i j hi hj q n1
end
