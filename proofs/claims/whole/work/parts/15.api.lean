theorem fd_Y_wi1 {x : Int32} {post : Int32 → Prop} {m : Nat} (hm : m < 2 ^ 31) (h1 : vp_in x m → post 1) (h0 : ¬ vp_in x m → post 0) : wpY_within post x 0 (nI m - 1) := by
  cases m with
  | zero =>
    have nv : ¬ vp_in x 0 := fun z => absurd (fd_lt z) (Nat.not_lt_zero _)
    have e : nI 0 - 1 = -1 := by decide
    rw [e]
    refine And.intro (fun _ => h0 nv) (fun q => ⟨fun _ => h0 nv, fun q' => absurd ?_ q'⟩)
    obtain ⟨j, hj, rfl⟩ := nI_of q
    exact Int32.lt_of_lt_of_le (by decide : (-1 : Int32) < 0) (nI_pos' hj)
  | succ m =>
    rw [nI_pred]
    exact fd_Y_wi m hm rfl h1 h0
theorem fd_RR_m {B B' s s' : Nat} {u : SX} {v : SY} (h : fd_RR B s u v) (hB : B ≤ B') (hs : s ≤ s') : fd_RR B' s' u v := by
  obtain ⟨rc, cc, sl, nw, no, ops, o1, o2, o3, sz, st, pr, pc, rg, wk, jn, sd, br, io, cp, cl, hd, ct, wt, wc, rr, ab, dx, ox, ss, yy, sp, dy, ly, e1, e2, K⟩ := h
  exact ⟨rc, cc, sl, nw, no, ops, o1, o2, o3, sz, st, pr, pc, rg, wk, jn, sd, br, io, cp, cl, hd, ct, wt, wc, rr, ab, dx, ox, ss, yy, sp, dy, ly, e1, e2, fd_K_m K hB hs⟩
theorem fd_Rel_RR {B s : Nat} {W0 : Int32 → Nat → Prop} {st0 pc0 ab0 : Nat → Int32} {yy0 : Int32} {u : SX} {v : SY} (h : fd_Rel B s 3 W0 st0 pc0 ab0 yy0 u v) : fd_RR B s u v := by
  obtain ⟨rc, cc, sl, nw, no, ops, o1, o2, o3, sz, st, pr, pc, rg, wk, jn, sd, br, io, cp, cl, hd, ct, wt, wc, rr, ab, dx, ox, ss, yy, sp, dy, ly, e1, e2, K, _⟩ := h
  exact ⟨rc, cc, sl, nw, no, ops, o1, o2, o3, sz, st, pr, pc, rg, wk, jn, sd, br, io, cp, cl, hd, ct, wt, wc, rr, ab, dx, ox, ss, yy, sp, dy, ly, e1, e2, K⟩
def fd_ai (c : Nat) : Nat → Int32 := fun j => if j < c then -1 else 0
theorem fd_ai_0 : fd_ai 0 = fun _ => 0 := by
  funext j
  exact if_neg (Nat.not_lt_zero j)
theorem fd_ai_s (c : Nat) : upd (fd_ai c) c (-1) = fd_ai (c + 1) := by
  funext j
  unfold fd_ai upd
  by_cases e : j = c
  · rw [if_pos e, if_pos (by omega)]
  · rw [if_neg e]
    dsimp only
    by_cases l : j < c
    · rw [if_pos l, if_pos (by omega)]
    · rw [if_neg l, if_neg (by omega)]
section
variable {rc cc sl nw no : Int32} {ops o1 o2 o3 sz st pr pc rg wk jn sd br io cp cl hd ct wt wc rr ab dx ox : Nat → Int32} {ss : Int64} {yy : Int32} {sp : Nat → Int64} {dy ly : Nat → Int32} {B s : Nat}
theorem fd_X_il {post : SX → Prop} (H : post (rc, cc, sl, nw, no, ops, o1, o2, o3, sz, st, pr, pc, rg, wk, jn, sd, br, io, cp, cl, hd, ct, wt, wc, rr, fd_ai 3, dx, ox)) : ∀ d c : Nat, c + d = 3 → wX_init_235 post rc cc sl nw no (d + 1) (nI c) ops o1 o2 o3 sz st pr pc rg wk jn sd br io cp cl hd ct wt wc rr (fd_ai c) dx ox := by
  intro d
  induction d with
  | zero =>
    intro c hc
    have e : c = 3 := by omega
    subst e
    exact br_t (by decide) H
  | succ d ih =>
    intro c hc
    exact br_f (nI_ge (b := 3) (by omega) (by decide)) ⟨vp_in_nI (by omega) (by omega), nm_r (by rw [nI_clamp (by omega)]; exact fd_ai_s c) (nm_r (nI_1 c) (ih (c + 1) (by omega)))⟩
theorem fd_Y_il {post : SY → Prop} (H : post (cc, sl, nw, no, ss, yy, ops, o1, o2, o3, sz, st, pr, pc, rg, wk, sp, cp, cl, hd, ct, fd_ai 3, dy, ly)) : ∀ d c : Nat, c + d = 3 → wY_init_173 post cc sl nw no ss yy (d + 1) (nI c) ops o1 o2 o3 sz st pr pc rg wk sp cp cl hd ct (fd_ai c) dy ly := by
  intro d
  induction d with
  | zero =>
    intro c hc
    have e : c = 3 := by omega
    subst e
    exact br_t (by decide) H
  | succ d ih =>
    intro c hc
    exact br_f (nI_ge (b := 3) (by omega) (by decide)) ⟨vp_in_nI (by omega) (by omega), nm_r (by rw [nI_clamp (by omega)]; exact fd_ai_s c) (nm_r (nI_1 c) (ih (c + 1) (by omega)))⟩
end
def fd_z : Nat → Int32 := fun _ => 0
theorem fd_K_0 {cc : Int32} {n : Nat} (h1 : 1 ≤ n) (h3 : n ≤ 3) (e : cc = nI n) (B s : Nat) : fd_K B s 3 0 cc 4 0 0 fd_z fd_z fd_z fd_z fd_z fd_z fd_z fd_z fd_z fd_z fd_z fd_z fd_z fd_z fd_z fd_z fd_z fd_z fd_z fd_z fd_z (fd_ai 3) fd_z fd_z 0 0 (fun _ => 0) fd_z fd_z := by
  have z : ∀ f, fd_z f = 0 := fun _ => rfl
  refine ⟨fun p hp => ⟨fd_0in (by omega), fun i hi => absurd hi ?_⟩, fun f hf => fd_F_o ?_, ⟨[], ⟨fun f => ⟨fun m => absurd m List.not_mem_nil, fun m => absurd m.2 ?_⟩, List.Pairwise.nil⟩, fun i hi => absurd hi (Nat.not_lt_zero i), rfl⟩, fun y hy => ⟨[], ⟨fun f => ⟨fun m => absurd m List.not_mem_nil, fun m => absurd m.2.1 ?_⟩, List.Pairwise.nil⟩, fun i hi => absurd hi (Nat.not_lt_zero i), rfl⟩, ⟨by decide, ?_, fun f hf => Int64.le_refl _⟩, fun y hy => ⟨fd_0in (by omega), fd_0in (by omega)⟩, ⟨0, Nat.zero_le _, rfl, fun i _ hi => absurd hi (Nat.not_lt_zero i)⟩, ⟨n, h1, h3, e⟩, fun k hk => Or.inl (if_pos hk), fun i j hi hj q n1 => absurd (if_pos hi) n1⟩
  · rw [z, show (0 : Int32).toNatClampNeg = 0 from by decide]; exact Nat.not_lt_zero i
  · rw [z]; decide
  · show ¬ fd_z f = 1
    rw [z]; decide
  · rw [z]; decide
  · have : (0 : Int64).toInt = 0 := by decide
    rw [this]; omega
theorem fd_init (B s : Nat) (k0 : Int32) : ∃ u v, (∀ post : SX → Prop, post u → wpX_init post k0) ∧ (∀ post : SY → Prop, post v → wpY_init post k0) ∧ fd_RR B s u v := by
  have key : ∀ (cc : Int32) (n : Nat), 1 ≤ n → n ≤ 3 → cc = nI n → (∀ post : SX → Prop, (∃ m, wX_init_235 post 0 cc 4 0 0 m 0 fd_z fd_z fd_z fd_z fd_z fd_z fd_z fd_z fd_z fd_z fd_z fd_z fd_z fd_z fd_z fd_z fd_z fd_z fd_z fd_z fd_z fd_z fd_z fd_z) → wpX_init post k0) → (∀ post : SY → Prop, (∃ m, wY_init_173 post cc 4 0 0 0 0 m 0 fd_z fd_z fd_z fd_z fd_z fd_z fd_z fd_z fd_z fd_z (fun _ => 0) fd_z fd_z fd_z fd_z fd_z fd_z fd_z) → wpY_init post k0) → ∃ u v, (∀ post : SX → Prop, post u → wpX_init post k0) ∧ (∀ post : SY → Prop, post v → wpY_init post k0) ∧ fd_RR B s u v := by
    intro cc n n1 n3 e hX hY
    refine ⟨_, _, fun post H => hX post ⟨4, ?_⟩, fun post H => hY post ⟨4, ?_⟩, ⟨_, _, _, _, _, _, _, _, _, _, _, _, _, _, _, _, _, _, _, _, _, _, _, _, _, _, _, _, _, _, _, _, _, _, rfl, rfl, fd_K_0 n1 n3 e B s⟩⟩
    · have q := fd_X_il H 3 0 rfl
      rw [fd_ai_0] at q
      exact q
    · have q := fd_Y_il H 3 0 rfl
      rw [fd_ai_0] at q
      exact q
  by_cases h1 : 1 ≤ k0
  · by_cases h3 : k0 ≤ 3
    · have n0 : ¬ k0 < 0 := fun z => absurd (Int32.lt_of_lt_of_le z (by decide : (0 : Int32) ≤ 1)) (Int32.not_lt.mpr h1)
      obtain ⟨j, hj, rfl⟩ := nI_of2 (M := 3) (n := 3) (by decide) n0 h3
      have j1 : 1 ≤ j := by
        have q : nI 1 ≤ nI j := h1
        rw [nI_leI (by omega) (by omega)] at q
        exact q
      exact key _ j j1 hj rfl (fun post H => br_t h1 (br_t h3 H)) (fun post H => br_t h1 (br_t h3 H))
    · exact key 3 3 (by omega) (by omega) rfl (fun post H => br_t h1 (br_f h3 H)) (fun post H => br_t h1 (br_f h3 H))
  · exact key 1 1 (by omega) (by omega) rfl (fun post H => br_f h1 H) (fun post H => br_f h1 H)
section
variable {rc cc sl nw no : Int32} {ops o1 o2 o3 sz st pr pc rg wk jn sd br io cp cl hd ct wt wc rr ab dx ox : Nat → Int32} {ss : Int64} {yy : Int32} {sp : Nat → Int64} {dy ly : Nat → Int32} {B s : Nat}
theorem fd_slice {n : Int32} (h : fd_K B s 3 rc cc sl nw no ops o1 o2 o3 sz st pr pc rg wk jn sd br io cp cl hd ct wt wc rr ab dx ox ss yy sp dy ly) : ∃ r u' v', (∀ post : Int32 → SX → Prop, post r u' → wpX_slice post (rc, cc, sl, nw, no, ops, o1, o2, o3, sz, st, pr, pc, rg, wk, jn, sd, br, io, cp, cl, hd, ct, wt, wc, rr, ab, dx, ox) n) ∧ (∀ post : Int32 → SY → Prop, post r v' → wpY_slice post (cc, sl, nw, no, ss, yy, ops, o1, o2, o3, sz, st, pr, pc, rg, wk, sp, cp, cl, hd, ct, ab, dy, ly) n) ∧ fd_RR B s u' v' := by
  by_cases h1 : n < 1
  · refine ⟨0, (rc, cc, sl, nw, no, ops, o1, o2, o3, sz, st, pr, pc, rg, wk, jn, sd, br, io, cp, cl, hd, ct, wt, wc, rr, ab, dx, ox), (cc, sl, nw, no, ss, yy, ops, o1, o2, o3, sz, st, pr, pc, rg, wk, sp, cp, cl, hd, ct, ab, dy, ly), fun post H => br_t h1 H, fun post H => ?_, ⟨rc, cc, sl, nw, no, ops, o1, o2, o3, sz, st, pr, pc, rg, wk, jn, sd, br, io, cp, cl, hd, ct, wt, wc, rr, ab, dx, ox, ss, yy, sp, dy, ly, rfl, rfl, h⟩⟩
    unfold wpY_slice
    exact br_t h1 (br_t rfl H)
  · by_cases h8 : n ≤ 8
    · have h' : fd_K B s 3 rc cc n nw no ops o1 o2 o3 sz st pr pc rg wk jn sd br io cp cl hd ct wt wc rr ab dx ox ss yy sp dy ly := h
      refine ⟨1, (rc, cc, n, nw, no, ops, o1, o2, o3, sz, st, pr, pc, rg, wk, jn, sd, br, io, cp, cl, hd, ct, wt, wc, rr, ab, dx, ox), (cc, n, nw, no, ss, yy, ops, o1, o2, o3, sz, st, pr, pc, rg, wk, sp, cp, cl, hd, ct, ab, dy, ly), fun post H => br_f h1 (br_t h8 H), fun post H => ?_, ⟨rc, cc, _, nw, no, ops, o1, o2, o3, sz, st, pr, pc, rg, wk, jn, sd, br, io, cp, cl, hd, ct, wt, wc, rr, ab, dx, ox, ss, yy, sp, dy, ly, rfl, rfl, h'⟩⟩
      unfold wpY_slice
      exact br_f h1 (br_f (Int32.not_lt.mpr h8) (br_f (by decide) H))
    · refine ⟨0, (rc, cc, sl, nw, no, ops, o1, o2, o3, sz, st, pr, pc, rg, wk, jn, sd, br, io, cp, cl, hd, ct, wt, wc, rr, ab, dx, ox), (cc, sl, nw, no, ss, yy, ops, o1, o2, o3, sz, st, pr, pc, rg, wk, sp, cp, cl, hd, ct, ab, dy, ly), fun post H => br_f h1 (br_f h8 H), fun post H => ?_, ⟨rc, cc, sl, nw, no, ops, o1, o2, o3, sz, st, pr, pc, rg, wk, jn, sd, br, io, cp, cl, hd, ct, wt, wc, rr, ab, dx, ox, ss, yy, sp, dy, ly, rfl, rfl, h⟩⟩
      unfold wpY_slice
      exact br_f h1 (br_t (Int32.not_le.mp h8) (br_t rfl H))
theorem fd_channel {c p : Int32} (h : fd_K B s 3 rc cc sl nw no ops o1 o2 o3 sz st pr pc rg wk jn sd br io cp cl hd ct wt wc rr ab dx ox ss yy sp dy ly) : ∃ r u' v', (∀ post : Int32 → SX → Prop, post r u' → wpX_channel post (rc, cc, sl, nw, no, ops, o1, o2, o3, sz, st, pr, pc, rg, wk, jn, sd, br, io, cp, cl, hd, ct, wt, wc, rr, ab, dx, ox) c p) ∧ (∀ post : Int32 → SY → Prop, post r v' → wpY_channel post (cc, sl, nw, no, ss, yy, ops, o1, o2, o3, sz, st, pr, pc, rg, wk, sp, cp, cl, hd, ct, ab, dy, ly) c p) ∧ fd_RR B s u' v' := by
  rcases Classical.em (vp_in c 4) with hc | hc
  · rcases Classical.em (vp_in p 4) with hp | hp
    · have p0 : ¬ p < 0 := fd_nn hp
      have p3 : ¬ 3 < p := ((fd_wi (n := 3) (by omega)).mp hp).2
      obtain ⟨L, hQ, hH, ec⟩ := h.2.2.2.1 c hc
      obtain ⟨r, g1, g2⟩ := fd_Y_first (cc := cc) (sl := sl) (nw := nw) (no := no) (ss := ss) (yy := yy) (sz := sz) (wk := wk) (cp := cp) (cl := cl) (hd := hd) (ct := ct) (ab := ab) (dy := dy) (ly := ly) (y := c) (sp := sp) h.2.1 fd_kdT
      cases L with
      | nil =>
        have er : r = -1 := by
          by_cases e : r = -1
          · exact e
          · have q := fd_M_yes g1 e
            exact absurd ((hQ.1 _).mpr ⟨fd_lt q.1, q.2.1⟩) List.not_mem_nil
        have hC' : fd_C (upd cp c.toNatClampNeg p) (upd ct c.toNatClampNeg 0) := fun y hy => by
          have q := h.2.2.2.2.2.1 y hy
          by_cases e : y.toNatClampNeg = c.toNatClampNeg
          · rw [e, pk_us, pk_us]; exact ⟨hp, fd_0in (by omega)⟩
          · rw [pk_un e, pk_un e]; exact q
        have K1 : fd_K B s 3 rc cc sl nw no ops o1 o2 o3 sz st pr pc rg wk jn sd br io (upd cp c.toNatClampNeg p) (upd cl c.toNatClampNeg (vp_nar .boolean 0)) hd (upd ct c.toNatClampNeg 0) wt wc rr ab dx ox ss yy sp dy ly := ⟨h.1, h.2.1, h.2.2.1, h.2.2.2.1, h.2.2.2.2.1, hC', h.2.2.2.2.2.2⟩
        refine ⟨1, _, _, fun post H => ?_, fun post H => ?_, ⟨rc, cc, sl, nw, no, ops, o1, o2, o3, sz, st, pr, pc, rg, wk, jn, sd, br, io, _, _, hd, _, wt, wc, rr, ab, dx, ox, ss, yy, sp, dy, ly, rfl, rfl, K1⟩⟩
        · unfold wpX_channel
          exact fd_X_bl 4 (by omega) rfl (fun _ => br_f (by decide) (br_f p0 (br_f p3 ⟨hc, br_t (by rw [ec]; decide) ⟨hc, nm_e ⟨hc, nm_e ⟨hc, nm_e H⟩⟩⟩⟩))) (fun z => absurd hc z)
        · unfold wpY_channel
          exact fd_Y_wi 3 (by omega) rfl (fun _ => br_f (by decide) (fd_Y_wi 3 (by omega) rfl (fun _ => br_f (by decide) (g2 _ (br_t (by rw [er]; decide) ⟨hc, nm_e ⟨hc, nm_e ⟨hc, nm_e H⟩⟩⟩))) (fun z => absurd hp z))) (fun z => absurd hc z)
      | cons a l =>
        have hl := fd_Q_len hQ
        have l1 : (a :: l).length = l.length + 1 := rfl
        have ma := (hQ.1 a).mp List.mem_cons_self
        have er : ¬ r = -1 := fun e => fd_M_no g1 e a ma.1 ⟨ma.2, trivial⟩
        have er' : ¬ r < 0 := fun z => er ((fd_M_neg g1).mp z)
        refine ⟨0, (rc, cc, sl, nw, no, ops, o1, o2, o3, sz, st, pr, pc, rg, wk, jn, sd, br, io, cp, cl, hd, ct, wt, wc, rr, ab, dx, ox), (cc, sl, nw, no, ss, yy, ops, o1, o2, o3, sz, st, pr, pc, rg, wk, sp, cp, cl, hd, ct, ab, dy, ly), fun post H => ?_, fun post H => ?_, ⟨rc, cc, sl, nw, no, ops, o1, o2, o3, sz, st, pr, pc, rg, wk, jn, sd, br, io, cp, cl, hd, ct, wt, wc, rr, ab, dx, ox, ss, yy, sp, dy, ly, rfl, rfl, h⟩⟩
        · unfold wpX_channel
          exact fd_X_bl 4 (by omega) rfl (fun _ => br_f (by decide) (br_f p0 (br_f p3 ⟨hc, br_f (by rw [ec]; exact nI_nle (by omega) (by omega)) H⟩))) (fun z => absurd hc z)
        · unfold wpY_channel
          exact fd_Y_wi 3 (by omega) rfl (fun _ => br_f (by decide) (fd_Y_wi 3 (by omega) rfl (fun _ => br_f (by decide) (g2 _ (br_f er' H))) (fun z => absurd hp z))) (fun z => absurd hc z)
    · refine ⟨0, (rc, cc, sl, nw, no, ops, o1, o2, o3, sz, st, pr, pc, rg, wk, jn, sd, br, io, cp, cl, hd, ct, wt, wc, rr, ab, dx, ox), (cc, sl, nw, no, ss, yy, ops, o1, o2, o3, sz, st, pr, pc, rg, wk, sp, cp, cl, hd, ct, ab, dy, ly), fun post H => ?_, fun post H => ?_, ⟨rc, cc, sl, nw, no, ops, o1, o2, o3, sz, st, pr, pc, rg, wk, jn, sd, br, io, cp, cl, hd, ct, wt, wc, rr, ab, dx, ox, ss, yy, sp, dy, ly, rfl, rfl, h⟩⟩
      · unfold wpX_channel
        refine fd_X_bl 4 (by omega) rfl (fun _ => br_f (by decide) (br_c (fun _ => H) (fun p0 => br_c (fun _ => H) (fun p3 => absurd ((fd_wi (n := 3) (by omega)).mpr ⟨p0, p3⟩) hp)))) (fun z => absurd hc z)
      · unfold wpY_channel
        exact fd_Y_wi 3 (by omega) rfl (fun _ => br_f (by decide) (fd_Y_wi 3 (by omega) rfl (fun z => absurd z hp) (fun _ => br_t rfl H))) (fun z => absurd hc z)
  · refine ⟨0, (rc, cc, sl, nw, no, ops, o1, o2, o3, sz, st, pr, pc, rg, wk, jn, sd, br, io, cp, cl, hd, ct, wt, wc, rr, ab, dx, ox), (cc, sl, nw, no, ss, yy, ops, o1, o2, o3, sz, st, pr, pc, rg, wk, sp, cp, cl, hd, ct, ab, dy, ly), fun post H => ?_, fun post H => ?_, ⟨rc, cc, sl, nw, no, ops, o1, o2, o3, sz, st, pr, pc, rg, wk, jn, sd, br, io, cp, cl, hd, ct, wt, wc, rr, ab, dx, ox, ss, yy, sp, dy, ly, rfl, rfl, h⟩⟩
    · unfold wpX_channel
      exact fd_X_bl 4 (by omega) rfl (fun z => absurd z hc) (fun _ => br_t rfl H)
    · unfold wpY_channel
      exact fd_Y_wi 3 (by omega) rfl (fun z => absurd z hc) (fun _ => br_t rfl H)
theorem fd_start {p v : Int32} (hs : s < 2 ^ 62) (h : fd_K B s 3 rc cc sl nw no ops o1 o2 o3 sz st pr pc rg wk jn sd br io cp cl hd ct wt wc rr ab dx ox ss yy sp dy ly) : ∃ r u' v', (∀ post : Int32 → SX → Prop, post r u' → wpX_start post (rc, cc, sl, nw, no, ops, o1, o2, o3, sz, st, pr, pc, rg, wk, jn, sd, br, io, cp, cl, hd, ct, wt, wc, rr, ab, dx, ox) p v) ∧ (∀ post : Int32 → SY → Prop, post r v' → wpY_start post (cc, sl, nw, no, ss, yy, ops, o1, o2, o3, sz, st, pr, pc, rg, wk, sp, cp, cl, hd, ct, ab, dy, ly) p v) ∧ fd_RR B (s + 1) u' v' := by
  rcases Classical.em (vp_in p 6) with hp | hp
  · obtain ⟨r, u', v', h1, h2, ⟨rc', cc', sl', nw', no', ops', o1', o2', o3', sz', st', pr', pc', rg', wk', jn', sd', br', io', cp', cl', hd', ct', wt', wc', rr', ab', dx', ox', ss', yy', sp', dy', ly', rfl, rfl, K, _⟩⟩ := fd_launch (v := v) hp hs h
    refine ⟨r, _, _, fun post H => ?_, h2, ⟨rc', cc', sl', nw', no', ops', o1', o2', o3', sz', st', pr', pc', rg', wk', jn', sd', br', io', cp', cl', hd', ct', wt', wc', rr', ab', dx', ox', ss', yy', sp', dy', ly', rfl, rfl, K⟩⟩
    unfold wpX_start
    exact fd_X_bl 6 (by omega) rfl (fun _ => br_f (by decide) (h1 _ H)) (fun z => absurd hp z)
  · refine ⟨-1, (rc, cc, sl, nw, no, ops, o1, o2, o3, sz, st, pr, pc, rg, wk, jn, sd, br, io, cp, cl, hd, ct, wt, wc, rr, ab, dx, ox), (cc, sl, nw, no, ss, yy, ops, o1, o2, o3, sz, st, pr, pc, rg, wk, sp, cp, cl, hd, ct, ab, dy, ly), fun post H => ?_, fun post H => ?_, ⟨rc, cc, sl, nw, no, ops, o1, o2, o3, sz, st, pr, pc, rg, wk, jn, sd, br, io, cp, cl, hd, ct, wt, wc, rr, ab, dx, ox, ss, yy, sp, dy, ly, rfl, rfl, fd_K_m h (Nat.le_refl B) (by omega)⟩⟩
    · unfold wpX_start
      exact fd_X_bl 6 (by omega) rfl (fun z => absurd z hp) (fun _ => br_t rfl H)
    · unfold wpY_start
      rcases fd_rm st with ha | ⟨b, hb, hn, ha⟩
      · refine ⟨13, fd_Y_rl ha ?_ 12 0 rfl⟩
        exact fd_Y_wi 5 (by omega) rfl (fun z => absurd z hp) (fun _ => br_t rfl H)
      · refine ⟨b + 1, fd_Y_rlb hb hn ha ?_ b 0 (Nat.zero_add b)⟩
        exact fd_Y_wi 5 (by omega) rfl (fun z => absurd z hp) (fun _ => br_t rfl H)
theorem fd_runs {n : Int32} (hs : s + 2000000 < 2 ^ 62) (hB : B + 6000 < 2 ^ 30) (h : fd_K B s 3 rc cc sl nw no ops o1 o2 o3 sz st pr pc rg wk jn sd br io cp cl hd ct wt wc rr ab dx ox ss yy sp dy ly) : ∃ r u' v', (∀ post : Int32 → SX → Prop, post r u' → wpX_run post (rc, cc, sl, nw, no, ops, o1, o2, o3, sz, st, pr, pc, rg, wk, jn, sd, br, io, cp, cl, hd, ct, wt, wc, rr, ab, dx, ox) n) ∧ (∀ post : Int32 → SY → Prop, post r v' → wpY_run post (cc, sl, nw, no, ss, yy, ops, o1, o2, o3, sz, st, pr, pc, rg, wk, sp, cp, cl, hd, ct, ab, dy, ly) n) ∧ fd_RR (B + 6000) (s + 2000000) u' v' := by
  have R0 : fd_RR (B + 6000) (s + 2000000) (rc, cc, sl, nw, no, ops, o1, o2, o3, sz, st, pr, pc, rg, wk, jn, sd, br, io, cp, cl, hd, ct, wt, wc, rr, ab, dx, ox) (cc, sl, nw, no, ss, yy, ops, o1, o2, o3, sz, st, pr, pc, rg, wk, sp, cp, cl, hd, ct, ab, dy, ly) := ⟨rc, cc, sl, nw, no, ops, o1, o2, o3, sz, st, pr, pc, rg, wk, jn, sd, br, io, cp, cl, hd, ct, wt, wc, rr, ab, dx, ox, ss, yy, sp, dy, ly, rfl, rfl, fd_K_m h (by omega) (by omega)⟩
  rcases Classical.em (vp_in n 2001) with hn | hn
  · have n0 : ¬ n < 0 := fd_nn hn
    have n1 : ¬ 2000 < n := ((fd_wi (n := 2000) (by omega)).mp hn).2
    by_cases le : nw ≤ 100000000 - n
    · obtain ⟨j, hj, rfl⟩ := vp_in_of hn (by omega)
      obtain ⟨r, u', v', h1, h2, h3⟩ := fd_ticks (n := j) (by omega) j 0 B s 0 rc cc sl nw no ops o1 o2 o3 sz st pr pc rg wk jn sd br io cp cl hd ct wt wc rr ab dx ox ss yy sp dy ly (Nat.zero_add j) (by omega) (by omega) h
      refine ⟨r, u', v', fun post H => br_f n0 (br_f n1 (br_t le ⟨_, h1 post H⟩)), fun post H => ?_, fd_RR_m h3 (by omega) (by omega)⟩
      unfold wpY_run
      exact fd_Y_wi 2000 (by omega) rfl (fun _ => br_f (by decide) (br_t le ⟨_, h2 post H⟩)) (fun z => absurd hn z)
    · refine ⟨-1, (rc, cc, sl, nw, no, ops, o1, o2, o3, sz, st, pr, pc, rg, wk, jn, sd, br, io, cp, cl, hd, ct, wt, wc, rr, ab, dx, ox), (cc, sl, nw, no, ss, yy, ops, o1, o2, o3, sz, st, pr, pc, rg, wk, sp, cp, cl, hd, ct, ab, dy, ly), fun post H => br_f n0 (br_f n1 (br_f le H)), fun post H => ?_, R0⟩
      unfold wpY_run
      exact fd_Y_wi 2000 (by omega) rfl (fun _ => br_f (by decide) (br_f le H)) (fun z => absurd hn z)
  · refine ⟨-1, (rc, cc, sl, nw, no, ops, o1, o2, o3, sz, st, pr, pc, rg, wk, jn, sd, br, io, cp, cl, hd, ct, wt, wc, rr, ab, dx, ox), (cc, sl, nw, no, ss, yy, ops, o1, o2, o3, sz, st, pr, pc, rg, wk, sp, cp, cl, hd, ct, ab, dy, ly), fun post H => br_c (fun _ => H) (fun n0 => br_c (fun _ => H) (fun n1 => absurd ((fd_wi (n := 2000) (by omega)).mpr ⟨n0, n1⟩) hn)), fun post H => ?_, R0⟩
    unfold wpY_run
    exact fd_Y_wi 2000 (by omega) rfl (fun z => absurd z hn) (fun _ => br_t rfl H)
end
