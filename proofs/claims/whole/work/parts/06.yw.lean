def fd_kd (k : Int32) (K Z : Nat → Prop) : Prop := (k = -1 ∧ ∀ g, K g) ∨ (k = 1 ∧ ∀ g, (K g ↔ Z g)) ∨ (k = 0 ∧ ∀ g, (K g ↔ ¬ Z g))
theorem fd_rm (st : Nat → Int32) : (∀ g, g < 12 → fd_aw (st g)) ∨ ∃ b, b < 12 ∧ ¬ fd_aw (st b) ∧ ∀ g, g < b → fd_aw (st g) := by
  have key : ∀ n, n ≤ 12 → (∀ g, g < n → fd_aw (st g)) ∨ ∃ b, b < 12 ∧ ¬ fd_aw (st b) ∧ ∀ g, g < b → fd_aw (st g) := by
    intro n
    induction n with
    | zero => intro _; exact Or.inl (fun g hg => absurd hg (Nat.not_lt_zero g))
    | succ n ih =>
      intro hn
      rcases ih (by omega) with h | h
      · rcases Classical.em (fd_aw (st n)) with q | q
        · exact Or.inl (lt_s h q)
        · exact Or.inr ⟨n, by omega, q, h⟩
      · exact Or.inr h
  exact key 12 (Nat.le_refl 12)
section
variable {rc cc sl nw no : Int32} {ops o1 o2 o3 sz st pr pc rg wk jn sd br io cp cl hd ct wt wc rr ab dx ox : Nat → Int32} {ss : Int64} {yy : Int32} {sp : Nat → Int64} {dy ly : Nat → Int32}
theorem fd_Y_aw {post : Int32 → Prop} {x : Int32} (hx : vp_in x 12) (h1 : fd_aw (st x.toNatClampNeg) → post 1) (h0 : ¬ fd_aw (st x.toNatClampNeg) → post 0) : wpY_isAtWork post (cc, sl, nw, no, ss, yy, ops, o1, o2, o3, sz, st, pr, pc, rg, wk, sp, cp, cl, hd, ct, ab, dy, ly) x :=
  And.intro hx (And.intro (fun q => ⟨rfl, h0 (fun z => ((fd_aw_i _).mp z).1 q)⟩) (fun q => ⟨fun q' => ⟨rfl, h0 (fun z => ((fd_aw_i _).mp z).2 q')⟩, fun q' => ⟨rfl, h1 ((fd_aw_i _).mpr ⟨q, q'⟩)⟩⟩))
theorem fd_Y_wa {post : Int32 → Prop} {x y : Int32} (hx : vp_in x 12) (hF : fd_F ops o1 o2 o3 st pr pc rg jn sd br io x.toNatClampNeg) (h1 : fd_wa ops o1 o2 st pr pc y x.toNatClampNeg → post 1) (h0 : ¬ fd_wa ops o1 o2 st pr pc y x.toNatClampNeg → post 0) : wpY_waitsAt post (cc, sl, nw, no, ss, yy, ops, o1, o2, o3, sz, st, pr, pc, rg, wk, sp, cp, cl, hd, ct, ab, dy, ly) x y := by
  by_cases s : st x.toNatClampNeg = 3
  · have p := hF.1 (Or.inr (Or.inr (Or.inl s)))
    have ix := fd_p12 p.1 p.2
    have ek : fd_k pr pc x.toNatClampNeg = (12 * pr x.toNatClampNeg + pc x.toNatClampNeg).toNatClampNeg := ix.2.symm
    unfold fd_wa at h1 h0
    rw [ek] at h1 h0
    have hr := ix.1
    refine And.intro hx (br_t s (And.intro hx (And.intro hx ?_)))
    show vp_in (12 * pr x.toNatClampNeg + pc x.toNatClampNeg) 84 ∧ _
    generalize 12 * pr x.toNatClampNeg + pc x.toNatClampNeg = r at hr h1 h0
    have n61 : ¬ ((ops r.toNatClampNeg = 6 ∨ ops r.toNatClampNeg = 7 ∨ ops r.toNatClampNeg = 8) ∧ o1 r.toNatClampNeg = y) → wY_waitsAt_61 post y r cc sl nw no ss yy ops o1 o2 o3 sz st pr pc rg wk sp cp cl hd ct ab dy ly := fun nq =>
      And.intro hr (br_c (fun q => ⟨hr, fun q1 => h1 ⟨s, Or.inr ⟨q, q1⟩⟩, fun q1 => h0 (fun z => z.2.elim nq (fun w => q1 w.2))⟩) (fun q => h0 (fun z => z.2.elim nq (fun w => q w.1))))
    have n51 : (ops r.toNatClampNeg = 6 ∨ ops r.toNatClampNeg = 7 ∨ ops r.toNatClampNeg = 8) → wY_waitsAt_51 post y r cc sl nw no ss yy ops o1 o2 o3 sz st pr pc rg wk sp cp cl hd ct ab dy ly := fun q =>
      And.intro hr (br_c (fun q1 => h1 ⟨s, Or.inl ⟨q, q1⟩⟩) (fun q1 => n61 (fun w => q1 w.2)))
    exact ⟨hr, fun q => n51 (Or.inl q), fun a1 => ⟨hr, fun q => n51 (Or.inr (Or.inl q)), fun a2 => ⟨hr, fun q => n51 (Or.inr (Or.inr q)), fun a3 => n61 (fun w => w.1.elim a1 (fun z => z.elim a2 a3))⟩⟩⟩
  · exact And.intro hx (br_f s (h0 (fun z => s z.1)))
theorem fd_Y_sd {post : Int32 → Prop} {x : Int32} (hx : vp_in x 12) (hp : vp_in (pr x.toNatClampNeg) 6 ∧ vp_in (pc x.toNatClampNeg) 13) (h1 : ops (fd_k pr pc x.toNatClampNeg) = 6 → post 1) (h0 : ¬ ops (fd_k pr pc x.toNatClampNeg) = 6 → post 0) : wpY_sends post (cc, sl, nw, no, ss, yy, ops, o1, o2, o3, sz, st, pr, pc, rg, wk, sp, cp, cl, hd, ct, ab, dy, ly) x := by
  have ix := fd_p12 hp.1 hp.2
  have ek : fd_k pr pc x.toNatClampNeg = (12 * pr x.toNatClampNeg + pc x.toNatClampNeg).toNatClampNeg := ix.2.symm
  rw [ek] at h1 h0
  exact And.intro hx (And.intro hx ⟨ix.1, h1, h0⟩)
theorem fd_Y_55 {P : Nat → Prop} {y k r : Int32} {i : Nat} (hi : i < 12) (h : fd_Mi P sp i r) (hP : P i) : ∃ r1, fd_Mi P sp (i + 1) r1 ∧ ∀ (post : Int32 → Prop) (J : Int32 → Int32 → Prop), J r1 (nI (i + 1)) → wY_first_55 post J y k r (nI i) cc sl nw no ss yy ops o1 o2 o3 sz st pr pc rg wk sp cp cl hd ct ab dy ly := by
  have ei : (nI i).toNatClampNeg = i := nI_clamp (by omega)
  by_cases q : r < 0
  · exact ⟨nI i, fd_Mi_1 h (by omega) q hP, fun post J H => br_t q (nm_r (nI_1 i) H)⟩
  · have hr := fd_Mi_in h (by omega) q
    by_cases z : sp r.toNatClampNeg ≤ sp i
    · exact ⟨r, fd_Mi_k h (by omega) q z, fun post J H => br_f q ⟨vp_in_nI hi (by omega), hr, br_t (by rw [ei]; exact z) (nm_r (nI_1 i) H)⟩⟩
    · exact ⟨nI i, fd_Mi_n h (by omega) q z hP, fun post J H => br_f q ⟨vp_in_nI hi (by omega), hr, br_f (by rw [ei]; exact z) (nm_r (nI_1 i) H)⟩⟩
theorem fd_Y_fl {y k : Int32} {K : Nat → Prop} (hF : ∀ g, g < 12 → fd_F ops o1 o2 o3 st pr pc rg jn sd br io g) (hk : fd_kd k K (fun g => ops (fd_k pr pc g) = 6)) : ∀ (d i : Nat) (r : Int32), i + d = 12 → fd_Mi (fun g => fd_wa ops o1 o2 st pr pc y g ∧ K g) sp i r → ∃ r', fd_Mi (fun g => fd_wa ops o1 o2 st pr pc y g ∧ K g) sp 12 r' ∧ ∀ post : Int32 → Prop, post r' → wY_first_5 post y k cc sl nw no ss yy ops o1 o2 o3 sz st pr pc rg wk sp cp cl hd ct ab dy ly (d + 1) r (nI i) := by
  intro d
  induction d with
  | zero =>
    intro i r hi h
    have e : i = 12 := by omega
    subst e
    exact ⟨r, h, fun post H => br_t (by decide) H⟩
  | succ d ih =>
    intro i r hi h
    have ei : (nI i).toNatClampNeg = i := nI_clamp (by omega)
    have hi12 : vp_in (nI i) 12 := vp_in_nI (by omega) (by omega)
    have n12 : ¬ (12 : Int32) ≤ nI i := nI_ge (b := 12) (by omega) (by decide)
    have hFi : fd_F ops o1 o2 o3 st pr pc rg jn sd br io (nI i).toNatClampNeg := by rw [ei]; exact hF i (by omega)
    rcases Classical.em (fd_wa ops o1 o2 st pr pc y i) with w | w
    · have w' : fd_wa ops o1 o2 st pr pc y (nI i).toNatClampNeg := by rw [ei]; exact w
      have hp := hFi.1 (Or.inr (Or.inr (Or.inl w'.1)))
      rcases Classical.em (K i) with kk | kk
      · obtain ⟨r1, g1, g2⟩ := fd_Y_55 (cc := cc) (sl := sl) (nw := nw) (no := no) (ss := ss) (yy := yy) (ops := ops) (o1 := o1) (o2 := o2) (o3 := o3) (sz := sz) (st := st) (pr := pr) (pc := pc) (rg := rg) (wk := wk) (cp := cp) (cl := cl) (hd := hd) (ct := ct) (ab := ab) (dy := dy) (ly := ly) (y := y) (k := k) (by omega) h ⟨w, kk⟩
        obtain ⟨r', h1, h2⟩ := ih (i + 1) r1 (by omega) g1
        refine ⟨r', h1, fun post H => br_f n12 (fd_Y_wa hi12 hFi (fun _ => br_f (by decide) (fd_Y_sd hi12 hp (fun z => ?_) (fun z => ?_))) (fun z => absurd w' z))⟩
        · rw [ei] at z
          rcases hk with ⟨e, _⟩ | ⟨e, e2⟩ | ⟨e, e2⟩
          · exact br_t (by rw [e]; decide) (g2 _ _ (h2 post H))
          · exact br_f (by rw [e]; decide) (br_t e (br_t rfl (g2 _ _ (h2 post H))))
          · exact absurd z ((e2 i).mp kk)
        · rw [ei] at z
          rcases hk with ⟨e, _⟩ | ⟨e, e2⟩ | ⟨e, e2⟩
          · exact br_t (by rw [e]; decide) (g2 _ _ (h2 post H))
          · exact absurd ((e2 i).mp kk) z
          · exact br_f (by rw [e]; decide) (br_f (by rw [e]; decide) (br_t rfl (g2 _ _ (h2 post H))))
      · obtain ⟨r', h1, h2⟩ := ih (i + 1) r (by omega) (fd_Mi_no h (fun z => kk z.2))
        refine ⟨r', h1, fun post H => br_f n12 (fd_Y_wa hi12 hFi (fun _ => br_f (by decide) (fd_Y_sd hi12 hp (fun z => ?_) (fun z => ?_))) (fun z => absurd w' z))⟩
        · rw [ei] at z
          rcases hk with ⟨e, e2⟩ | ⟨e, e2⟩ | ⟨e, e2⟩
          · exact absurd (e2 i) kk
          · exact absurd ((e2 i).mpr z) kk
          · exact br_f (by rw [e]; decide) (br_f (by rw [e]; decide) (br_f (by decide) (nm_r (nI_1 i) (h2 post H))))
        · rw [ei] at z
          rcases hk with ⟨e, e2⟩ | ⟨e, e2⟩ | ⟨e, e2⟩
          · exact absurd (e2 i) kk
          · exact br_f (by rw [e]; decide) (br_t e (br_f (by decide) (nm_r (nI_1 i) (h2 post H))))
          · exact absurd ((e2 i).mpr z) kk
    · have w' : ¬ fd_wa ops o1 o2 st pr pc y (nI i).toNatClampNeg := by rw [ei]; exact w
      obtain ⟨r', h1, h2⟩ := ih (i + 1) r (by omega) (fd_Mi_no h (fun z => w z.1))
      exact ⟨r', h1, fun post H => br_f n12 (fd_Y_wa hi12 hFi (fun z => absurd z w') (fun _ => br_t rfl (nm_r (nI_1 i) (h2 post H))))⟩
theorem fd_Y_first {y k : Int32} {K : Nat → Prop} (hF : ∀ g, g < 12 → fd_F ops o1 o2 o3 st pr pc rg jn sd br io g) (hk : fd_kd k K (fun g => ops (fd_k pr pc g) = 6)) : ∃ r, fd_Mi (fun g => fd_wa ops o1 o2 st pr pc y g ∧ K g) sp 12 r ∧ ∀ post : Int32 → Prop, post r → wpY_first post (cc, sl, nw, no, ss, yy, ops, o1, o2, o3, sz, st, pr, pc, rg, wk, sp, cp, cl, hd, ct, ab, dy, ly) y k := by
  obtain ⟨r, h1, h2⟩ := fd_Y_fl (cc := cc) (sl := sl) (nw := nw) (no := no) (ss := ss) (yy := yy) (sz := sz) (wk := wk) (cp := cp) (cl := cl) (hd := hd) (ct := ct) (ab := ab) (dy := dy) (ly := ly) (y := y) (sp := sp) hF hk 12 0 (-1) rfl fd_Mi_0
  refine ⟨r, h1, fun post H => ?_⟩
  unfold wpY_first
  exact ⟨_, h2 post H⟩
theorem fd_Y_frl : ∀ (d i : Nat) (r : Int32), i + d = 12 → fd_Mi (fun g => st g = 1) sp i r → ∃ r', fd_Mi (fun g => st g = 1) sp 12 r' ∧ ∀ post : Int32 → Prop, post r' → wY_firstReady_4 post cc sl nw no ss yy ops o1 o2 o3 sz st pr pc rg wk sp cp cl hd ct ab dy ly (d + 1) r (nI i) := by
  intro d
  induction d with
  | zero =>
    intro i r hi h
    have e : i = 12 := by omega
    subst e
    exact ⟨r, h, fun post H => br_t (by decide) H⟩
  | succ d ih =>
    intro i r hi h
    have ei : (nI i).toNatClampNeg = i := nI_clamp (by omega)
    have hi12 : vp_in (nI i) 12 := vp_in_nI (by omega) (by omega)
    have n12 : ¬ (12 : Int32) ≤ nI i := nI_ge (b := 12) (by omega) (by decide)
    by_cases w : st i = 1
    · have w' : st (nI i).toNatClampNeg = 1 := by rw [ei]; exact w
      by_cases q : r < 0
      · obtain ⟨r', h1, h2⟩ := ih (i + 1) (nI i) (by omega) (fd_Mi_1 h (by omega) q w)
        exact ⟨r', h1, fun post H => br_f n12 ⟨hi12, br_t w' (br_t q (nm_r (nI_1 i) (h2 post H)))⟩⟩
      · have hr := fd_Mi_in h (by omega) q
        by_cases z : sp r.toNatClampNeg ≤ sp i
        · obtain ⟨r', h1, h2⟩ := ih (i + 1) r (by omega) (fd_Mi_k h (by omega) q z)
          exact ⟨r', h1, fun post H => br_f n12 ⟨hi12, br_t w' (br_f q ⟨hi12, hr, br_t (by rw [ei]; exact z) (nm_r (nI_1 i) (h2 post H))⟩)⟩⟩
        · obtain ⟨r', h1, h2⟩ := ih (i + 1) (nI i) (by omega) (fd_Mi_n h (by omega) q z w)
          exact ⟨r', h1, fun post H => br_f n12 ⟨hi12, br_t w' (br_f q ⟨hi12, hr, br_f (by rw [ei]; exact z) (nm_r (nI_1 i) (h2 post H))⟩)⟩⟩
    · have w' : ¬ st (nI i).toNatClampNeg = 1 := by rw [ei]; exact w
      obtain ⟨r', h1, h2⟩ := ih (i + 1) r (by omega) (fd_Mi_no h w)
      exact ⟨r', h1, fun post H => br_f n12 ⟨hi12, br_f w' (nm_r (nI_1 i) (h2 post H))⟩⟩
theorem fd_Y_fr : ∃ r, fd_Mi (fun g => st g = 1) sp 12 r ∧ ∀ post : Int32 → Prop, post r → wpY_firstReady post (cc, sl, nw, no, ss, yy, ops, o1, o2, o3, sz, st, pr, pc, rg, wk, sp, cp, cl, hd, ct, ab, dy, ly) := by
  obtain ⟨r, h1, h2⟩ := fd_Y_frl (cc := cc) (sl := sl) (nw := nw) (no := no) (ss := ss) (yy := yy) (ops := ops) (o1 := o1) (o2 := o2) (o3 := o3) (sz := sz) (st := st) (pr := pr) (pc := pc) (rg := rg) (wk := wk) (cp := cp) (cl := cl) (hd := hd) (ct := ct) (ab := ab) (dy := dy) (ly := ly) (sp := sp) 12 0 (-1) rfl fd_Mi_0
  refine ⟨r, h1, fun post H => ?_⟩
  unfold wpY_firstReady
  exact ⟨_, h2 post H⟩
theorem fd_Y_ready {post : SY → Prop} {x : Int32} (hx : vp_in x 12) (H : post (cc, sl, nw, no, ss + 1, yy, ops, o1, o2, o3, sz, upd st x.toNatClampNeg 1, pr, pc, rg, wk, vp_updL sp x.toNatClampNeg (ss + 1), cp, cl, hd, ct, ab, dy, ly)) : wpY_ready post (cc, sl, nw, no, ss, yy, ops, o1, o2, o3, sz, st, pr, pc, rg, wk, sp, cp, cl, hd, ct, ab, dy, ly) x :=
  And.intro hx (nm_e (nm_e ⟨hx, nm_e H⟩))
theorem fd_Y_rest {post : SY → Prop} {x : Int32} (hx : vp_in x 12) (H : post (cc, sl, nw, no, ss + 1, yy, ops, o1, o2, o3, sz, upd st x.toNatClampNeg 3, pr, pc, rg, wk, vp_updL sp x.toNatClampNeg (ss + 1), cp, cl, hd, ct, ab, dy, ly)) : wpY_rest post (cc, sl, nw, no, ss, yy, ops, o1, o2, o3, sz, st, pr, pc, rg, wk, sp, cp, cl, hd, ct, ab, dy, ly) x :=
  And.intro hx (nm_e (nm_e ⟨hx, nm_e H⟩))
theorem fd_Y_goOn {post : SY → Prop} {x : Int32} (hx : vp_in x 12) (H : post (cc, sl, nw, no, ss + 1, yy, ops, o1, o2, o3, sz, upd st x.toNatClampNeg 1, pr, upd pc x.toNatClampNeg (pc x.toNatClampNeg + 1), rg, wk, vp_updL sp x.toNatClampNeg (ss + 1), cp, cl, hd, ct, ab, dy, ly)) : wpY_goOn post (cc, sl, nw, no, ss, yy, ops, o1, o2, o3, sz, st, pr, pc, rg, wk, sp, cp, cl, hd, ct, ab, dy, ly) x :=
  And.intro hx ⟨hx, nm_e (fd_Y_ready hx H)⟩
theorem fd_io {f : Nat} (hF : fd_F ops o1 o2 o3 st pr pc rg jn sd br io f) (s : st f = 3) (h6 : ¬ ops (fd_k pr pc f) = 6) : vp_in (io f) 3 ∧ ((ops (fd_k pr pc f) = 8 ∧ io f = o3 (fd_k pr pc f)) ∨ (¬ ops (fd_k pr pc f) = 8 ∧ io f = o2 (fd_k pr pc f))) := by
  obtain ⟨_, hg, hw⟩ := hF.2 s
  obtain ⟨_, _, g3, _, _, g6, g7, _, _⟩ := hg
  rcases hw with q | q | q | q
  · exact absurd q.1 h6
  · exact ⟨by rw [q.2.2.2]; exact (g6 (Or.inr q.1)).2, Or.inr ⟨by rw [q.1]; decide, q.2.2.2⟩⟩
  · exact ⟨by rw [q.2.2.2]; exact (g7 q.1).2.2, Or.inl ⟨q.1, q.2.2.2⟩⟩
  · exact ⟨by rw [q.2.2]; exact (g3 (Or.inr q.1)).2, Or.inr ⟨by rw [q.1]; decide, q.2.2⟩⟩
theorem fd_Y_tg {post : Int32 → Prop} {x : Int32} (hx : vp_in x 12) (hF : fd_F ops o1 o2 o3 st pr pc rg jn sd br io x.toNatClampNeg) (s : st x.toNatClampNeg = 3) (h6 : ¬ ops (fd_k pr pc x.toNatClampNeg) = 6) (H : post (3 * x + io x.toNatClampNeg)) : wpY_target post (cc, sl, nw, no, ss, yy, ops, o1, o2, o3, sz, st, pr, pc, rg, wk, sp, cp, cl, hd, ct, ab, dy, ly) x := by
  have hp := hF.1 (Or.inr (Or.inr (Or.inl s)))
  have ix := fd_p12 hp.1 hp.2
  have ek : fd_k pr pc x.toNatClampNeg = (12 * pr x.toNatClampNeg + pc x.toNatClampNeg).toNatClampNeg := ix.2.symm
  have q := (fd_io hF s h6).2
  rw [ek] at q
  refine And.intro hx (And.intro hx ⟨ix.1, ?_⟩)
  rcases q with ⟨q1, q2⟩ | ⟨q1, q2⟩
  · exact br_t q1 ⟨ix.1, by rw [← q2]; exact H⟩
  · exact br_f q1 ⟨ix.1, by rw [← q2]; exact H⟩
theorem fd_Y_give {post : SY → Prop} {x v : Int32} (hx : vp_in x 12) (hF : fd_F ops o1 o2 o3 st pr pc rg jn sd br io x.toNatClampNeg) (s : st x.toNatClampNeg = 3) (h6 : ¬ ops (fd_k pr pc x.toNatClampNeg) = 6) (H : post (cc, sl, nw, no, ss + 1, yy, ops, o1, o2, o3, sz, upd st x.toNatClampNeg 1, pr, upd pc x.toNatClampNeg (pc x.toNatClampNeg + 1), upd rg (3 * x.toNatClampNeg + (io x.toNatClampNeg).toNatClampNeg) v, wk, vp_updL sp x.toNatClampNeg (ss + 1), cp, cl, hd, ct, ab, dy, ly)) : wpY_give post (cc, sl, nw, no, ss, yy, ops, o1, o2, o3, sz, st, pr, pc, rg, wk, sp, cp, cl, hd, ct, ab, dy, ly) x v := by
  have ii := fd_3 hx (fd_io hF s h6).1
  unfold wpY_give
  exact fd_Y_tg hx hF s h6 ⟨ii.1, nm_r (by rw [ii.2]) (fd_Y_goOn hx H)⟩
theorem fd_Y_sent {post : Int32 → Prop} {x : Int32} (hx : vp_in x 12) (hF : fd_F ops o1 o2 o3 st pr pc rg jn sd br io x.toNatClampNeg) (s : st x.toNatClampNeg = 3) (h6 : ops (fd_k pr pc x.toNatClampNeg) = 6) (H : post (br x.toNatClampNeg)) : wpY_sent post (cc, sl, nw, no, ss, yy, ops, o1, o2, o3, sz, st, pr, pc, rg, wk, sp, cp, cl, hd, ct, ab, dy, ly) x := by
  have hp := hF.1 (Or.inr (Or.inr (Or.inl s)))
  have ix := fd_p12 hp.1 hp.2
  have ek : fd_k pr pc x.toNatClampNeg = (12 * pr x.toNatClampNeg + pc x.toNatClampNeg).toNatClampNeg := ix.2.symm
  obtain ⟨_, hg, hw⟩ := hF.2 s
  have hb := (hg.2.2.2.2.2.1 (Or.inl h6)).2
  have e : br x.toNatClampNeg = rg (3 * x.toNatClampNeg + (o2 (fd_k pr pc x.toNatClampNeg)).toNatClampNeg) := by
    rcases hw with q | q | q | q
    · exact q.2.2.2
    · exact absurd (h6.symm.trans q.1) (by decide)
    · exact absurd (h6.symm.trans q.1) (by decide)
    · exact absurd (h6.symm.trans q.1) (by decide)
  rw [ek] at hb e
  have ii := fd_3 hx hb
  refine And.intro hx (And.intro hx ⟨ix.1, ii.1, ?_⟩)
  show post (rg (3 * x + o2 (12 * pr x.toNatClampNeg + pc x.toNatClampNeg).toNatClampNeg).toNatClampNeg)
  rw [ii.2, ← e]; exact H
theorem fd_Y_rl : (∀ g, g < 12 → fd_aw (st g)) → ∀ {post : Int32 → Prop}, post (-1) → ∀ d i : Nat, i + d = 12 → wY_room_2 post cc sl nw no ss yy ops o1 o2 o3 sz st pr pc rg wk sp cp cl hd ct ab dy ly (d + 1) (nI i) := by
  intro ha post H d
  induction d with
  | zero => intro i hi; have e : i = 12 := by omega
            subst e; exact br_t (by decide) H
  | succ d ih =>
    intro i hi
    have ei : (nI i).toNatClampNeg = i := nI_clamp (by omega)
    exact br_f (nI_ge (b := 12) (by omega) (by decide)) (fd_Y_aw (vp_in_nI (by omega) (by omega)) (fun _ => br_f (by decide) (nm_r (nI_1 i) (ih (i + 1) (by omega)))) (fun z => absurd (by rw [ei]; exact ha i (by omega)) z))
theorem fd_Y_rlb {b : Nat} (hb : b < 12) (hn : ¬ fd_aw (st b)) (ha : ∀ g, g < b → fd_aw (st g)) {post : Int32 → Prop} (H : post (nI b)) : ∀ d i : Nat, i + d = b → wY_room_2 post cc sl nw no ss yy ops o1 o2 o3 sz st pr pc rg wk sp cp cl hd ct ab dy ly (d + 1) (nI i) := by
  intro d
  induction d with
  | zero =>
    intro i hi
    have e : i = b := by omega
    subst e
    have ei : (nI i).toNatClampNeg = i := nI_clamp (by omega)
    exact br_f (nI_ge (b := 12) (by omega) (by decide)) (fd_Y_aw (vp_in_nI (by omega) (by omega)) (fun z => absurd (by rw [ei] at z; exact z) hn) (fun _ => br_t rfl H))
  | succ d ih =>
    intro i hi
    have ei : (nI i).toNatClampNeg = i := nI_clamp (by omega)
    exact br_f (nI_ge (b := 12) (by omega) (by decide)) (fd_Y_aw (vp_in_nI (by omega) (by omega)) (fun _ => br_f (by decide) (nm_r (nI_1 i) (ih (i + 1) (by omega)))) (fun z => absurd (by rw [ei]; exact ha i (by omega)) z))
theorem fd_Y_ww {y r : Int32} (hf : ∀ post : Int32 → Prop, post r → wpY_first post (cc, sl, nw, no, ss, yy, ops, o1, o2, o3, sz, st, pr, pc, rg, wk, sp, cp, cl, hd, ct, ab, dy, ly) y 1) (hr : 0 ≤ r ↔ ¬ r = -1) (hy : vp_in y 4) {post : Int32 → Prop} (h0 : fd_gv (ct y.toNatClampNeg) (cl y.toNatClampNeg) r → post 0) (h1 : ¬ fd_gv (ct y.toNatClampNeg) (cl y.toNatClampNeg) r → post 1) : wpY_wouldWait post (cc, sl, nw, no, ss, yy, ops, o1, o2, o3, sz, st, pr, pc, rg, wk, sp, cp, cl, hd, ct, ab, dy, ly) y := by
  refine And.intro hy (br_c (fun q => ⟨hy, fun q1 => hf _ ?_, fun q1 => h0 (Or.inr (Or.inl q1))⟩) (fun q => h0 (Or.inl q)))
  refine br_c (fun q2 => h0 (Or.inr (Or.inr (hr.mp q2)))) (fun q2 => h1 ?_)
  rintro (z | z | z)
  · exact z q
  · exact z q1
  · exact q2 (hr.mpr z)
theorem fd_Y_tl {post : Int32 → SY → Prop} {y x2 x3 x4 : Int32} (hy : vp_in y 4) {m : Nat} (hm : m < 3) (hc : ct y.toNatClampNeg = nI m) (Hn : x2 < 0 → wY_take_133 post x2 x4 cc sl nw no ss yy ops o1 o2 o3 sz st pr pc rg wk sp cp cl (fd_sh hd (3 * y.toNatClampNeg) m) ct ab dy ly) (Hp : ¬ x2 < 0 → wY_take_133 post x2 x4 cc sl nw no ss yy ops o1 o2 o3 sz st pr pc rg wk sp cp cl (upd (fd_sh hd (3 * y.toNatClampNeg) m) (3 * y.toNatClampNeg + m) x3) (upd ct y.toNatClampNeg (nI m + 1)) ab dy ly) : ∀ d i : Nat, i + d = m → wY_take_71 post y x2 x3 x4 cc sl nw no ss yy (d + 1) (nI (3 * y.toNatClampNeg + i)) ops o1 o2 o3 sz st pr pc rg wk sp cp cl (fd_sh hd (3 * y.toNatClampNeg) i) ct ab dy ly := by
  have hy4 := fd_lt hy
  have im := fd_c3 hy (vp_in_nI (n := m) (N := 3) hm (by omega))
  rw [nI_clamp (by omega)] at im
  have em : 3 * y + nI m = nI (3 * y.toNatClampNeg + m) := by rw [← im.2]; exact fd_eq im.1
  intro d
  induction d with
  | zero =>
    intro i hi
    have e : i = m := by omega
    subst e
    refine And.intro hy (br_t (by rw [hc, em]; exact Int32.le_refl _) (br_c Hn (fun q => ?_)))
    rw [hc, em, nI_clamp (by omega)]
    exact ⟨hy, hy, nm_e ⟨vp_in_nI (by omega) (by omega), nm_e (Hp q)⟩⟩
  | succ d ih =>
    intro i hi
    refine And.intro hy (br_f (by rw [hc, em]; exact nI_ge (by omega) (by omega)) ?_)
    rw [nI_1, nI_clamp (by omega), nI_clamp (by omega)]
    exact ⟨vp_in_nI (by omega) (by omega), vp_in_nI (by omega) (by omega), nm_r (fd_sh_s hd (3 * y.toNatClampNeg) i) (nm_e (ih (i + 1) (by omega)))⟩
end
