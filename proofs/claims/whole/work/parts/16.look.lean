def fd_rk (L : List Nat) (k r : Int32) : Prop := (k = -1 ∧ r = nI L.length) ∨ (∃ j, ∃ hj : j < L.length, k = nI j ∧ r = nI (L[j]'hj)) ∨ (¬ k = -1 ∧ (∀ j, j < L.length → ¬ k = nI j) ∧ r = -1)
theorem fd_rk_ex (L : List Nat) (k : Int32) : ∃ r, fd_rk L k r := by
  by_cases h : k = -1
  · exact ⟨_, Or.inl ⟨h, rfl⟩⟩
  · rcases Classical.em (∃ j, ∃ _ : j < L.length, k = nI j) with ⟨j, hj, e⟩ | n
    · exact ⟨_, Or.inr (Or.inl ⟨j, hj, e, rfl⟩)⟩
    · exact ⟨_, Or.inr (Or.inr ⟨h, fun j hj e => n ⟨j, hj, e⟩, rfl⟩)⟩
theorem fd_rk_at {L : List Nat} {k r : Int32} (h : fd_rk L k r) (hl : L.length ≤ 12) {j : Nat} (hj : j < L.length) (e : nI j = k) : r = nI (L[j]'hj) := by
  rcases h with ⟨h, _⟩ | ⟨i, hi, h, q⟩ | ⟨_, h, _⟩
  · exact absurd (e.trans h) (fd_m1 (vp_in_nI hj (by omega)))
  · have : i = j := (nI_eq (by omega) (by omega)).mp (h.symm.trans e.symm)
    subst this
    exact q
  · exact absurd e.symm (h j hj)
theorem fd_rk_end {L : List Nat} {k r : Int32} (h : fd_rk L k r) (hn : ∀ j, j < L.length → ¬ nI j = k) : (k = -1 → r = nI L.length) ∧ (¬ k = -1 → r = -1) := by
  rcases h with ⟨h, q⟩ | ⟨i, hi, h, q⟩ | ⟨n, h, q⟩
  · exact ⟨fun _ => q, fun z => absurd h z⟩
  · exact absurd h.symm (hn i hi)
  · exact ⟨fun z => absurd z n, fun _ => q⟩
theorem fd_cnt_all {L : List Nat} (hL : ∀ g, g ∈ L → g < 12) (q : Nat → Bool) : L.countP (fun g => decide (g < 12) && q g) = L.countP q := by
  refine List.countP_congr (fun g hg => ?_)
  rw [decide_eq_true (hL g hg), Bool.true_and]
theorem fd_cnt_0 {L : List Nat} (q : Nat → Bool) : L.countP (fun g => decide (g < 0) && q g) = 0 := by
  refine List.countP_eq_zero.mpr (fun g hg => ?_)
  rw [decide_eq_false (Nat.not_lt_zero g), Bool.false_and]
  exact Bool.false_ne_true
section
variable {rc cc sl nw no : Int32} {ops o1 o2 o3 sz st pr pc rg wk jn sd br io cp cl hd ct wt wc rr ab dx ox : Nat → Int32} {ss : Int64} {yy : Int32} {sp : Nat → Int64} {dy ly : Nat → Int32} {B s k0 : Nat}
theorem fd_Y_ri {L : List Nat} (hQ : fd_Q (fun g => st g = 1) sp L) {f : Nat} (hf : f < 12) {k x2 : Int32} {post : Int32 → Prop} {J : Int32 → Int32 → Prop} (H1 : nI (L.countP (fun g => decide (sp g < sp f))) = k → post (nI f)) (H2 : ¬ nI (L.countP (fun g => decide (sp g < sp f))) = k → J (x2 + 1) (nI f + 1)) : ∀ d i : Nat, i + d = 12 → wY_row_29 post J k x2 (nI f) cc sl nw no ss yy ops o1 o2 o3 sz st pr pc rg wk sp cp cl hd ct ab dy ly (d + 1) (nI (L.countP (fun g => decide (g < i) && decide (sp g < sp f)))) (nI i) := by
  have hL : ∀ g, g ∈ L → g < 12 := fun g hg => ((hQ.1 g).mp hg).1
  intro d
  induction d with
  | zero =>
    intro i hi
    have e : i = 12 := by omega
    subst e
    rw [fd_cnt_all hL]
    exact br_t (by decide) (br_c H1 (fun n => nm_e (nm_e (H2 n))))
  | succ d ih =>
    intro i hi
    have ei : (nI i).toNatClampNeg = i := nI_clamp (by omega)
    have ef : (nI f).toNatClampNeg = f := nI_clamp (by omega)
    have hx : vp_in (nI i) 12 := vp_in_nI (by omega) (by omega)
    have hf' : vp_in (nI f) 12 := vp_in_nI hf (by omega)
    have n12 : ¬ (12 : Int32) ≤ nI i := nI_ge (b := 12) (by omega) (by decide)
    have hc := fd_cnt (fd_Q_nd hQ) (fun g => decide (sp g < sp f)) i
    have IH := ih (i + 1) (by omega)
    by_cases w : st i = 1
    · by_cases z : sp f ≤ sp i
      · have e : ¬ (i ∈ L ∧ decide (sp i < sp f) = true) := fun q => absurd (of_decide_eq_true q.2) (Int64.not_lt.mpr z)
        rw [if_neg e, Nat.add_zero] at hc
        rw [hc] at IH
        exact br_f n12 ⟨hx, br_t (by rw [ei]; exact w) ⟨hx, hf', br_t (by rw [ei, ef]; exact z) (nm_r (nI_1 i) IH)⟩⟩
      · have e : i ∈ L ∧ decide (sp i < sp f) = true := ⟨(hQ.1 i).mpr ⟨by omega, w⟩, decide_eq_true (Int64.not_le.mp z)⟩
        rw [if_pos e] at hc
        rw [hc] at IH
        exact br_f n12 ⟨hx, br_t (by rw [ei]; exact w) ⟨hx, hf', br_f (by rw [ei, ef]; exact z) (nm_r (nI_1 _) (nm_r (nI_1 i) IH))⟩⟩
    · have e : ¬ (i ∈ L ∧ decide (sp i < sp f) = true) := fun q => w ((hQ.1 i).mp q.1).2
      rw [if_neg e, Nat.add_zero] at hc
      rw [hc] at IH
      exact br_f n12 ⟨hx, br_f (by rw [ei]; exact w) (nm_r (nI_1 i) IH)⟩
theorem fd_Y_ro {L : List Nat} (hQ : fd_Q (fun g => st g = 1) sp L) {k r : Int32} (hr : fd_rk L k r) {post : Int32 → Prop} (H : post r) : ∀ d i : Nat, i + d = 12 → (∀ j, (hj : j < L.length) → L[j]'hj < i → ¬ nI j = k) → wY_row_4 post k cc sl nw no ss yy ops o1 o2 o3 sz st pr pc rg wk sp cp cl hd ct ab dy ly (d + 1) (nI (L.countP (fun g => decide (g < i) && true))) (nI i) := by
  have hL : ∀ g, g ∈ L → g < 12 := fun g hg => ((hQ.1 g).mp hg).1
  have hl := fd_Q_len hQ
  intro d
  induction d with
  | zero =>
    intro i hi hn
    have e : i = 12 := by omega
    subst e
    have q := fd_rk_end hr (fun j hj => hn j hj (hL _ (List.getElem_mem hj)))
    rw [fd_cnt_all hL (fun _ => true), List.countP_true]
    exact br_t (by decide) (br_c (fun z => by rw [← q.1 z]; exact H) (fun z => by rw [← q.2 z]; exact H))
  | succ d ih =>
    intro i hi hn
    have ei : (nI i).toNatClampNeg = i := nI_clamp (by omega)
    have hx : vp_in (nI i) 12 := vp_in_nI (by omega) (by omega)
    have n12 : ¬ (12 : Int32) ≤ nI i := nI_ge (b := 12) (by omega) (by decide)
    have hc := fd_cnt (fd_Q_nd hQ) (fun _ => true) i
    by_cases w : st i = 1
    · have mi := (hQ.1 i).mpr ⟨by omega, w⟩
      obtain ⟨j, hj, ej⟩ := List.getElem_of_mem mi
      have rk := fd_rank hQ.2 j hj
      rw [ej] at rk
      rw [if_pos ⟨mi, rfl⟩] at hc
      have q := fd_Y_ri (cc := cc) (sl := sl) (nw := nw) (no := no) (ss := ss) (yy := yy) (ops := ops) (o1 := o1) (o2 := o2) (o3 := o3) (sz := sz) (pr := pr) (pc := pc) (rg := rg) (wk := wk) (cp := cp) (cl := cl) (hd := hd) (ct := ct) (ab := ab) (dy := dy) (ly := ly) hQ (f := i) (k := k) (x2 := nI (L.countP (fun g => decide (g < i) && true))) (post := post) (J := wY_row_4 post k cc sl nw no ss yy ops o1 o2 o3 sz st pr pc rg wk sp cp cl hd ct ab dy ly (d + 1)) (by omega) (fun e => by
          rw [rk] at e
          have er := fd_rk_at hr hl hj e
          rw [ej] at er
          rw [← er]; exact H) (fun n => by
          rw [rk] at n
          rw [nI_1, nI_1, ← hc]
          exact ih (i + 1) (by omega) (fun j' hj' lt => by
            by_cases e : L[j']'hj' = i
            · have : j' = j := by
                have p := List.pairwise_iff_getElem.mp hQ.2
                rcases Nat.lt_trichotomy j' j with l | l | l
                · have := p j' j hj' hj l
                  rw [e, ej] at this
                  exact absurd this Int64.lt_irrefl
                · exact l
                · have := p j j' hj hj' l
                  rw [e, ej] at this
                  exact absurd this Int64.lt_irrefl
              subst this
              exact n
            · exact hn j' hj' (by omega))) 12 0 rfl
      rw [fd_cnt_0] at q
      exact br_f n12 ⟨hx, br_t (by rw [ei]; exact w) ⟨13, q⟩⟩
    · have ni : ¬ i ∈ L := fun m => w ((hQ.1 i).mp m).2
      rw [if_neg (fun q => ni q.1), Nat.add_zero] at hc
      have IH := ih (i + 1) (by omega) (fun j' hj' lt => hn j' hj' (by
        have : L[j']'hj' ≠ i := fun e => ni (e ▸ List.getElem_mem hj')
        omega))
      rw [hc] at IH
      exact br_f n12 ⟨hx, br_f (by rw [ei]; exact w) (nm_r (nI_1 i) IH)⟩
theorem fd_row {k : Int32} (h : fd_K B s k0 rc cc sl nw no ops o1 o2 o3 sz st pr pc rg wk jn sd br io cp cl hd ct wt wc rr ab dx ox ss yy sp dy ly) : ∃ r, (∀ post : Int32 → Prop, post r → wpX_row post (rc, cc, sl, nw, no, ops, o1, o2, o3, sz, st, pr, pc, rg, wk, jn, sd, br, io, cp, cl, hd, ct, wt, wc, rr, ab, dx, ox) k) ∧ (∀ post : Int32 → Prop, post r → wpY_row post (cc, sl, nw, no, ss, yy, ops, o1, o2, o3, sz, st, pr, pc, rg, wk, sp, cp, cl, hd, ct, ab, dy, ly) k) := by
  obtain ⟨L, hQ, hH, ec⟩ := h.2.2.1
  have hl := fd_Q_len hQ
  obtain ⟨r, hr⟩ := fd_rk_ex L k
  refine ⟨r, fun post H => ?_, fun post H => ?_⟩
  · rcases hr with ⟨h1, q⟩ | ⟨j, hj, h1, q⟩ | ⟨n, h1, q⟩
    · exact br_t h1 (by rw [ec, ← q]; exact H)
    · have hk : vp_in k L.length := by rw [h1]; exact vp_in_nI hj (by omega)
      refine br_f (fd_m1 hk) (fd_X_bl L.length (by omega) ec (fun _ => br_f (by decide) ⟨fd_mono hk hl, ?_⟩) (fun z => absurd hk z))
      have e := hH j hj
      rw [Nat.zero_add] at e
      rw [h1, nI_clamp (by omega), e, ← q]; exact H
    · refine br_f n (fd_X_bl L.length (by omega) ec (fun z => ?_) (fun _ => br_t rfl (by rw [← q]; exact H)))
      obtain ⟨j, hj, e⟩ := vp_in_of z (by omega)
      exact absurd e (h1 j hj)
  · unfold wpY_row
    have q := fd_Y_ro (cc := cc) (sl := sl) (nw := nw) (no := no) (ss := ss) (yy := yy) (ops := ops) (o1 := o1) (o2 := o2) (o3 := o3) (sz := sz) (pr := pr) (pc := pc) (rg := rg) (wk := wk) (cp := cp) (cl := cl) (hd := hd) (ct := ct) (ab := ab) (dy := dy) (ly := ly) hQ hr H 12 0 rfl (fun j hj l => absurd l (Nat.not_lt_zero _))
    rw [fd_cnt_0] at q
    exact ⟨13, q⟩
theorem fd_Y_qi {L : List Nat} {c : Int32} (hF : ∀ g, g < 12 → fd_F ops o1 o2 o3 st pr pc rg jn sd br io g) (hQ : fd_Q (fd_wa ops o1 o2 st pr pc c) sp L) {f : Nat} (hf : f < 12) {k x2 : Int32} {post : Int32 → Prop} {J : Int32 → Int32 → Prop} (H1 : nI (L.countP (fun g => decide (sp g < sp f))) = k → post (nI f)) (H2 : ¬ nI (L.countP (fun g => decide (sp g < sp f))) = k → J (x2 + 1) (nI f + 1)) : ∀ d i : Nat, i + d = 12 → wY_waits_42 post J c k x2 (nI f) cc sl nw no ss yy ops o1 o2 o3 sz st pr pc rg wk sp cp cl hd ct ab dy ly (d + 1) (nI (L.countP (fun g => decide (g < i) && decide (sp g < sp f)))) (nI i) := by
  have hL : ∀ g, g ∈ L → g < 12 := fun g hg => ((hQ.1 g).mp hg).1
  intro d
  induction d with
  | zero =>
    intro i hi
    have e : i = 12 := by omega
    subst e
    rw [fd_cnt_all hL]
    exact br_t (by decide) (br_c H1 (fun n => nm_e (nm_e (H2 n))))
  | succ d ih =>
    intro i hi
    have ei : (nI i).toNatClampNeg = i := nI_clamp (by omega)
    have ef : (nI f).toNatClampNeg = f := nI_clamp (by omega)
    have hx : vp_in (nI i) 12 := vp_in_nI (by omega) (by omega)
    have hf' : vp_in (nI f) 12 := vp_in_nI hf (by omega)
    have n12 : ¬ (12 : Int32) ≤ nI i := nI_ge (b := 12) (by omega) (by decide)
    have hFi : fd_F ops o1 o2 o3 st pr pc rg jn sd br io (nI i).toNatClampNeg := by rw [ei]; exact hF i (by omega)
    have hc := fd_cnt (fd_Q_nd hQ) (fun g => decide (sp g < sp f)) i
    have IH := ih (i + 1) (by omega)
    rcases Classical.em (fd_wa ops o1 o2 st pr pc c i) with w | w
    · have w' : fd_wa ops o1 o2 st pr pc c (nI i).toNatClampNeg := by rw [ei]; exact w
      by_cases z : sp f ≤ sp i
      · have e : ¬ (i ∈ L ∧ decide (sp i < sp f) = true) := fun q => absurd (of_decide_eq_true q.2) (Int64.not_lt.mpr z)
        rw [if_neg e, Nat.add_zero] at hc
        rw [hc] at IH
        exact br_f n12 (fd_Y_wa hx hFi (fun _ => br_f (by decide) ⟨hx, hf', br_t (by rw [ei, ef]; exact z) (nm_r (nI_1 i) IH)⟩) (fun n => absurd w' n))
      · have e : i ∈ L ∧ decide (sp i < sp f) = true := ⟨(hQ.1 i).mpr ⟨by omega, w⟩, decide_eq_true (Int64.not_le.mp z)⟩
        rw [if_pos e] at hc
        rw [hc] at IH
        exact br_f n12 (fd_Y_wa hx hFi (fun _ => br_f (by decide) ⟨hx, hf', br_f (by rw [ei, ef]; exact z) (nm_r (nI_1 _) (nm_r (nI_1 i) IH))⟩) (fun n => absurd w' n))
    · have w' : ¬ fd_wa ops o1 o2 st pr pc c (nI i).toNatClampNeg := by rw [ei]; exact w
      have e : ¬ (i ∈ L ∧ decide (sp i < sp f) = true) := fun q => w ((hQ.1 i).mp q.1).2
      rw [if_neg e, Nat.add_zero] at hc
      rw [hc] at IH
      exact br_f n12 (fd_Y_wa hx hFi (fun n => absurd n w') (fun _ => br_t rfl (nm_r (nI_1 i) IH)))
theorem fd_Y_qo {L : List Nat} {c : Int32} (hF : ∀ g, g < 12 → fd_F ops o1 o2 o3 st pr pc rg jn sd br io g) (hQ : fd_Q (fd_wa ops o1 o2 st pr pc c) sp L) {k r : Int32} (hr : fd_rk L k r) {post : Int32 → Prop} (H : post r) : ∀ d i : Nat, i + d = 12 → (∀ j, (hj : j < L.length) → L[j]'hj < i → ¬ nI j = k) → wY_waits_16 post c k cc sl nw no ss yy ops o1 o2 o3 sz st pr pc rg wk sp cp cl hd ct ab dy ly (d + 1) (nI (L.countP (fun g => decide (g < i) && true))) (nI i) := by
  have hL : ∀ g, g ∈ L → g < 12 := fun g hg => ((hQ.1 g).mp hg).1
  have hl := fd_Q_len hQ
  intro d
  induction d with
  | zero =>
    intro i hi hn
    have e : i = 12 := by omega
    subst e
    have q := fd_rk_end hr (fun j hj => hn j hj (hL _ (List.getElem_mem hj)))
    rw [fd_cnt_all hL (fun _ => true), List.countP_true]
    exact br_t (by decide) (br_c (fun z => by rw [← q.1 z]; exact H) (fun z => by rw [← q.2 z]; exact H))
  | succ d ih =>
    intro i hi hn
    have ei : (nI i).toNatClampNeg = i := nI_clamp (by omega)
    have hx : vp_in (nI i) 12 := vp_in_nI (by omega) (by omega)
    have n12 : ¬ (12 : Int32) ≤ nI i := nI_ge (b := 12) (by omega) (by decide)
    have hFi : fd_F ops o1 o2 o3 st pr pc rg jn sd br io (nI i).toNatClampNeg := by rw [ei]; exact hF i (by omega)
    have hc := fd_cnt (fd_Q_nd hQ) (fun _ => true) i
    rcases Classical.em (fd_wa ops o1 o2 st pr pc c i) with w | w
    · have w' : fd_wa ops o1 o2 st pr pc c (nI i).toNatClampNeg := by rw [ei]; exact w
      have mi := (hQ.1 i).mpr ⟨by omega, w⟩
      obtain ⟨j, hj, ej⟩ := List.getElem_of_mem mi
      have rk := fd_rank hQ.2 j hj
      rw [ej] at rk
      rw [if_pos ⟨mi, rfl⟩] at hc
      have q := fd_Y_qi (cc := cc) (sl := sl) (nw := nw) (no := no) (ss := ss) (yy := yy) (sz := sz) (wk := wk) (cp := cp) (cl := cl) (hd := hd) (ct := ct) (ab := ab) (dy := dy) (ly := ly) hF hQ (f := i) (k := k) (x2 := nI (L.countP (fun g => decide (g < i) && true))) (post := post) (J := wY_waits_16 post c k cc sl nw no ss yy ops o1 o2 o3 sz st pr pc rg wk sp cp cl hd ct ab dy ly (d + 1)) (by omega) (fun e => by
          rw [rk] at e
          have er := fd_rk_at hr hl hj e
          rw [ej] at er
          rw [← er]; exact H) (fun n => by
          rw [rk] at n
          rw [nI_1, nI_1, ← hc]
          exact ih (i + 1) (by omega) (fun j' hj' lt => by
            by_cases e : L[j']'hj' = i
            · have : j' = j := by
                have p := List.pairwise_iff_getElem.mp hQ.2
                rcases Nat.lt_trichotomy j' j with l | l | l
                · have := p j' j hj' hj l
                  rw [e, ej] at this
                  exact absurd this Int64.lt_irrefl
                · exact l
                · have := p j j' hj hj' l
                  rw [e, ej] at this
                  exact absurd this Int64.lt_irrefl
              subst this
              exact n
            · exact hn j' hj' (by omega))) 12 0 rfl
      rw [fd_cnt_0] at q
      exact br_f n12 (fd_Y_wa hx hFi (fun _ => br_f (by decide) ⟨13, q⟩) (fun n => absurd w' n))
    · have w' : ¬ fd_wa ops o1 o2 st pr pc c (nI i).toNatClampNeg := by rw [ei]; exact w
      have ni : ¬ i ∈ L := fun m => w ((hQ.1 i).mp m).2
      rw [if_neg (fun q => ni q.1), Nat.add_zero] at hc
      have IH := ih (i + 1) (by omega) (fun j' hj' lt => hn j' hj' (by
        have : L[j']'hj' ≠ i := fun e => ni (e ▸ List.getElem_mem hj')
        omega))
      rw [hc] at IH
      exact br_f n12 (fd_Y_wa hx hFi (fun n => absurd n w') (fun _ => br_t rfl (nm_r (nI_1 i) IH)))
theorem fd_waits {c k : Int32} (h : fd_K B s k0 rc cc sl nw no ops o1 o2 o3 sz st pr pc rg wk jn sd br io cp cl hd ct wt wc rr ab dx ox ss yy sp dy ly) : ∃ r, (∀ post : Int32 → Prop, post r → wpX_waits post (rc, cc, sl, nw, no, ops, o1, o2, o3, sz, st, pr, pc, rg, wk, jn, sd, br, io, cp, cl, hd, ct, wt, wc, rr, ab, dx, ox) c k) ∧ (∀ post : Int32 → Prop, post r → wpY_waits post (cc, sl, nw, no, ss, yy, ops, o1, o2, o3, sz, st, pr, pc, rg, wk, sp, cp, cl, hd, ct, ab, dy, ly) c k) := by
  rcases Classical.em (vp_in c 4) with hc | hc
  · obtain ⟨L, hQ, hH, ec⟩ := h.2.2.2.1 c hc
    have hl := fd_Q_len hQ
    obtain ⟨r, hr⟩ := fd_rk_ex L k
    refine ⟨r, fun post H => ?_, fun post H => ?_⟩
    · unfold wpX_waits
      refine fd_X_bl 4 (by omega) rfl (fun _ => br_f (by decide) ?_) (fun z => absurd hc z)
      rcases hr with ⟨h1, q⟩ | ⟨j, hj, h1, q⟩ | ⟨n, h1, q⟩
      · exact br_t h1 ⟨hc, by rw [ec, ← q]; exact H⟩
      · have hk : vp_in k L.length := by rw [h1]; exact vp_in_nI hj (by omega)
        have ix := fd_c12 hc (fd_mono hk hl)
        refine br_f (fd_m1 hk) ⟨hc, fd_X_bl L.length (by omega) ec (fun _ => br_f (by decide) ⟨ix.1, ?_⟩) (fun z => absurd hk z)⟩
        have e := hH j hj
        rw [ix.2, h1, nI_clamp (by omega), e, ← q]; exact H
      · refine br_f n ⟨hc, fd_X_bl L.length (by omega) ec (fun z => ?_) (fun _ => br_t rfl (by rw [← q]; exact H))⟩
        obtain ⟨j, hj, e⟩ := vp_in_of z (by omega)
        exact absurd e (h1 j hj)
    · unfold wpY_waits
      have q := fd_Y_qo (cc := cc) (sl := sl) (nw := nw) (no := no) (ss := ss) (yy := yy) (sz := sz) (wk := wk) (cp := cp) (cl := cl) (hd := hd) (ct := ct) (ab := ab) (dy := dy) (ly := ly) h.2.1 hQ hr H 12 0 rfl (fun j hj l => absurd l (Nat.not_lt_zero _))
      rw [fd_cnt_0] at q
      exact fd_Y_wi 3 (by omega) rfl (fun _ => br_f (by decide) ⟨13, q⟩) (fun z => absurd hc z)
  · refine ⟨-1, fun post H => ?_, fun post H => ?_⟩
    · unfold wpX_waits
      exact fd_X_bl 4 (by omega) rfl (fun z => absurd z hc) (fun _ => br_t rfl H)
    · unfold wpY_waits
      exact fd_Y_wi 3 (by omega) rfl (fun z => absurd z hc) (fun _ => br_t rfl H)
theorem fd_state {f : Int32} : ∃ r, (∀ post : Int32 → Prop, post r → wpX_state post (rc, cc, sl, nw, no, ops, o1, o2, o3, sz, st, pr, pc, rg, wk, jn, sd, br, io, cp, cl, hd, ct, wt, wc, rr, ab, dx, ox) f) ∧ (∀ post : Int32 → Prop, post r → wpY_state post (cc, sl, nw, no, ss, yy, ops, o1, o2, o3, sz, st, pr, pc, rg, wk, sp, cp, cl, hd, ct, ab, dy, ly) f) := by
  rcases Classical.em (vp_in f 12) with hc | hc
  · refine ⟨st f.toNatClampNeg, fun post H => ?_, fun post H => ?_⟩
    · unfold wpX_state
      exact fd_X_bl 12 (by omega) rfl (fun _ => br_f (by decide) ⟨hc, H⟩) (fun z => absurd hc z)
    · unfold wpY_state
      exact fd_Y_wi 11 (by omega) rfl (fun _ => br_f (by decide) ⟨hc, H⟩) (fun z => absurd hc z)
  · refine ⟨-1, fun post H => ?_, fun post H => ?_⟩
    · unfold wpX_state
      exact fd_X_bl 12 (by omega) rfl (fun z => absurd z hc) (fun _ => br_t rfl H)
    · unfold wpY_state
      exact fd_Y_wi 11 (by omega) rfl (fun z => absurd z hc) (fun _ => br_t rfl H)
theorem fd_carrier {k : Int32} (h : fd_K B s k0 rc cc sl nw no ops o1 o2 o3 sz st pr pc rg wk jn sd br io cp cl hd ct wt wc rr ab dx ox ss yy sp dy ly) : ∃ r, (∀ post : Int32 → Prop, post r → wpX_carrier post (rc, cc, sl, nw, no, ops, o1, o2, o3, sz, st, pr, pc, rg, wk, jn, sd, br, io, cp, cl, hd, ct, wt, wc, rr, ab, dx, ox) k) ∧ (∀ post : Int32 → Prop, post r → wpY_carrier post (cc, sl, nw, no, ss, yy, ops, o1, o2, o3, sz, st, pr, pc, rg, wk, sp, cp, cl, hd, ct, ab, dy, ly) k) := by
  obtain ⟨n, n1, n3, e⟩ := h.2.2.2.2.2.2.2.1
  rcases Classical.em (vp_in k n) with hc | hc
  · have h3 := fd_mono hc n3
    refine ⟨ab k.toNatClampNeg, fun post H => ?_, fun post H => ?_⟩
    · unfold wpX_carrier
      exact fd_X_bl n (by omega) e (fun _ => br_f (by decide) ⟨h3, br_c (fun q => by rw [← q]; exact H) (fun _ => ⟨h3, H⟩)⟩) (fun z => absurd hc z)
    · unfold wpY_carrier
      show wpY_within _ k 0 (cc - 1)
      rw [e]
      exact fd_Y_wi1 (by omega) (fun _ => br_f (by decide) ⟨h3, H⟩) (fun z => absurd hc z)
  · refine ⟨-1, fun post H => ?_, fun post H => ?_⟩
    · unfold wpX_carrier
      exact fd_X_bl n (by omega) e (fun z => absurd z hc) (fun _ => br_t rfl H)
    · unfold wpY_carrier
      show wpY_within _ k 0 (cc - 1)
      rw [e]
      exact fd_Y_wi1 (by omega) (fun z => absurd z hc) (fun _ => br_t rfl H)
theorem fd_held {c k : Int32} (h : fd_K B s k0 rc cc sl nw no ops o1 o2 o3 sz st pr pc rg wk jn sd br io cp cl hd ct wt wc rr ab dx ox ss yy sp dy ly) : ∃ r, (∀ post : Int32 → Prop, post r → wpX_held post (rc, cc, sl, nw, no, ops, o1, o2, o3, sz, st, pr, pc, rg, wk, jn, sd, br, io, cp, cl, hd, ct, wt, wc, rr, ab, dx, ox) c k) ∧ (∀ post : Int32 → Prop, post r → wpY_held post (cc, sl, nw, no, ss, yy, ops, o1, o2, o3, sz, st, pr, pc, rg, wk, sp, cp, cl, hd, ct, ab, dy, ly) c k) := by
  rcases Classical.em (vp_in c 4) with hc | hc
  · have hC := (h.2.2.2.2.2.1 c hc).2
    have base : ∀ r : Int32, (∀ post : Int32 → Prop, post r → ((k = -1 → (vp_in c 4 ∧ post (ct c.toNatClampNeg))) ∧ (¬ k = -1 → ((k = -2 → (vp_in c 4 ∧ ((cl c.toNatClampNeg = 0 → (vp_in c 4 ∧ post (cp c.toNatClampNeg))) ∧ (¬ cl c.toNatClampNeg = 0 → (vp_in c 4 ∧ post (cp c.toNatClampNeg + 10)))))) ∧ (¬ k = -2 → (vp_in c 4 ∧ wpX_isBelow (fun r_6 => ((r_6 = 0 → post (-2)) ∧ (¬ r_6 = 0 → (vp_in (c * 3 + k) 12 ∧ post (hd (c * 3 + k).toNatClampNeg))))) k (ct c.toNatClampNeg))))))) → (∀ post : Int32 → Prop, post r → ((k = -1 → (vp_in c 4 ∧ post (ct c.toNatClampNeg))) ∧ (¬ k = -1 → ((k = -2 → (vp_in c 4 ∧ (vp_in c 4 ∧ ((cl c.toNatClampNeg = 0 → post (cp c.toNatClampNeg + 0)) ∧ (¬ cl c.toNatClampNeg = 0 → post (cp c.toNatClampNeg + 10)))))) ∧ (¬ k = -2 → (vp_in c 4 ∧ wpY_within (fun r_6 => ((r_6 = 0 → post (-2)) ∧ (¬ r_6 = 0 → (vp_in (3 * c + k) 12 ∧ post (hd (3 * c + k).toNatClampNeg))))) k 0 (ct c.toNatClampNeg - 1))))))) → ∃ r, (∀ post : Int32 → Prop, post r → wpX_held post (rc, cc, sl, nw, no, ops, o1, o2, o3, sz, st, pr, pc, rg, wk, jn, sd, br, io, cp, cl, hd, ct, wt, wc, rr, ab, dx, ox) c k) ∧ (∀ post : Int32 → Prop, post r → wpY_held post (cc, sl, nw, no, ss, yy, ops, o1, o2, o3, sz, st, pr, pc, rg, wk, sp, cp, cl, hd, ct, ab, dy, ly) c k) := by
      intro r hX hY
      refine ⟨r, fun post H => ?_, fun post H => ?_⟩
      · unfold wpX_held
        exact fd_X_bl 4 (by omega) rfl (fun _ => br_f (by decide) (hX post H)) (fun z => absurd hc z)
      · unfold wpY_held
        exact fd_Y_wi 3 (by omega) rfl (fun _ => br_f (by decide) (hY post H)) (fun z => absurd hc z)
    by_cases k1 : k = -1
    · exact base (ct c.toNatClampNeg) (fun post H => br_t k1 ⟨hc, H⟩) (fun post H => br_t k1 ⟨hc, H⟩)
    · by_cases k2 : k = -2
      · by_cases c0 : cl c.toNatClampNeg = 0
        · exact base (cp c.toNatClampNeg) (fun post H => br_f k1 (br_t k2 ⟨hc, br_t c0 ⟨hc, H⟩⟩)) (fun post H => br_f k1 (br_t k2 ⟨hc, hc, br_t c0 (by rw [Int32.add_zero]; exact H)⟩))
        · exact base (cp c.toNatClampNeg + 10) (fun post H => br_f k1 (br_t k2 ⟨hc, br_f c0 ⟨hc, H⟩⟩)) (fun post H => br_f k1 (br_t k2 ⟨hc, hc, br_f c0 H⟩))
      · obtain ⟨m, hm, em⟩ := vp_in_of hC (by omega)
        rw [em] at base
        rcases Classical.em (vp_in k m) with hk | hk
        · have i1 := fd_c3' hc (fd_mono hk (show m ≤ 3 by omega))
          have i2 := fd_c3 hc (fd_mono hk (show m ≤ 3 by omega))
          exact base (hd (3 * c.toNatClampNeg + k.toNatClampNeg)) (fun post H => br_f k1 (br_f k2 ⟨hc, fd_X_bl m (by omega) rfl (fun _ => br_f (by decide) ⟨i1.1, by rw [i1.2]; exact H⟩) (fun z => absurd hk z)⟩)) (fun post H => br_f k1 (br_f k2 ⟨hc, fd_Y_wi1 (by omega) (fun _ => br_f (by decide) ⟨i2.1, by rw [i2.2]; exact H⟩) (fun z => absurd hk z)⟩))
        · exact base (-2) (fun post H => br_f k1 (br_f k2 ⟨hc, fd_X_bl m (by omega) rfl (fun z => absurd z hk) (fun _ => br_t rfl H)⟩)) (fun post H => br_f k1 (br_f k2 ⟨hc, fd_Y_wi1 (by omega) (fun z => absurd z hk) (fun _ => br_t rfl H)⟩))
  · refine ⟨-2, fun post H => ?_, fun post H => ?_⟩
    · unfold wpX_held
      exact fd_X_bl 4 (by omega) rfl (fun z => absurd z hc) (fun _ => br_t rfl H)
    · unfold wpY_held
      exact fd_Y_wi 3 (by omega) rfl (fun z => absurd z hc) (fun _ => br_t rfl H)
theorem fd_out {k : Int32} (hB : B < 2 ^ 30) (h : fd_K B s k0 rc cc sl nw no ops o1 o2 o3 sz st pr pc rg wk jn sd br io cp cl hd ct wt wc rr ab dx ox ss yy sp dy ly) : ∃ r, (∀ post : Int32 → Prop, post r → wpX_out post (rc, cc, sl, nw, no, ops, o1, o2, o3, sz, st, pr, pc, rg, wk, jn, sd, br, io, cp, cl, hd, ct, wt, wc, rr, ab, dx, ox) k) ∧ (∀ post : Int32 → Prop, post r → wpY_out post (cc, sl, nw, no, ss, yy, ops, o1, o2, o3, sz, st, pr, pc, rg, wk, sp, cp, cl, hd, ct, ab, dy, ly) k) := by
  obtain ⟨n, hn, en, hO⟩ := h.2.2.2.2.2.2.1
  by_cases k1 : k = -1
  · exact ⟨no, fun post H => br_t k1 H, fun post H => br_t k1 H⟩
  · rcases Classical.em (vp_in k 16) with hk | hk
    · by_cases le : no ≤ k
      · exact ⟨0, fun post H => br_f k1 (fd_X_bl 16 (by omega) rfl (fun _ => br_f (by decide) (br_t le H)) (fun z => absurd hk z)), fun post H => br_f k1 (fd_Y_wi 15 (by omega) rfl (fun _ => br_f (by decide) (br_t le H)) (fun z => absurd hk z))⟩
      · obtain ⟨i, hi, rfl⟩ := vp_in_of hk (by omega)
        have lt : i < n := by
          rw [en, nI_leI (by omega) (by omega)] at le
          omega
        have e1 : no - 1 - nI i = nI (n - 1 - i) := by
          rw [en]
          have q : nI n - nI 1 = nI (n - 1) := pk_sub (by omega)
          have q' : nI n - 1 = nI (n - 1) := q
          rw [q', pk_sub (by omega)]
        have e2 : no - 1 - nI i - (no - 1 - nI i) / 16 * 16 = nI ((n - 1 - i) % 16) := by
          rw [e1]; exact pk_rem (d := 16) (by omega) (by omega) (by omega)
        refine ⟨ly i, fun post H => br_f k1 (fd_X_bl 16 (by omega) rfl (fun _ => br_f (by decide) (br_f le ⟨by decide, ?_⟩)) (fun z => absurd hk z)), fun post H => br_f k1 (fd_Y_wi 15 (by omega) rfl (fun _ => br_f (by decide) (br_f le ⟨hk, by rw [nI_clamp (by omega)]; exact H⟩)) (fun z => absurd hk z))⟩
        rw [e2, nI_clamp (by omega), hO i hi lt]
        exact ⟨vp_in_nI (Nat.mod_lt _ (by omega)) (by omega), H⟩
    · exact ⟨0, fun post H => br_f k1 (fd_X_bl 16 (by omega) rfl (fun z => absurd z hk) (fun _ => br_t rfl H)), fun post H => br_f k1 (fd_Y_wi 15 (by omega) rfl (fun z => absurd z hk) (fun _ => br_t rfl H))⟩
theorem fd_ofs {f w : Int32} : ∃ r, (∀ post : Int32 → Prop, post r → wpX_of post (rc, cc, sl, nw, no, ops, o1, o2, o3, sz, st, pr, pc, rg, wk, jn, sd, br, io, cp, cl, hd, ct, wt, wc, rr, ab, dx, ox) f w) ∧ (∀ post : Int32 → Prop, post r → wpY_of post (cc, sl, nw, no, ss, yy, ops, o1, o2, o3, sz, st, pr, pc, rg, wk, sp, cp, cl, hd, ct, ab, dy, ly) f w) := by
  rcases Classical.em (vp_in f 12) with hc | hc
  · by_cases s0 : st f.toNatClampNeg = 0
    · refine ⟨-1, fun post H => ?_, fun post H => ?_⟩
      · unfold wpX_of
        exact fd_X_bl 12 (by omega) rfl (fun _ => br_f (by decide) ⟨hc, br_t s0 H⟩) (fun z => absurd hc z)
      · unfold wpY_of
        exact fd_Y_wi 11 (by omega) rfl (fun _ => br_f (by decide) ⟨hc, br_t s0 H⟩) (fun z => absurd hc z)
    · rcases Classical.em (vp_in w 6) with hw | hw
      · have w0 := fd_nn hw
        have w5 : ¬ 5 < w := ((fd_wi (n := 5) (by omega)).mp hw).2
        rcases Classical.em (vp_in w 3) with h3 | h3
        · have i1 := fd_3' hc h3
          have i2 := fd_3 hc h3
          refine ⟨rg (3 * f.toNatClampNeg + w.toNatClampNeg), fun post H => ?_, fun post H => ?_⟩
          · unfold wpX_of
            exact fd_X_bl 12 (by omega) rfl (fun _ => br_f (by decide) ⟨hc, br_f s0 (fd_X_bl 3 (by omega) rfl (fun _ => br_f (by decide) ⟨i1.1, by rw [i1.2]; exact H⟩) (fun z => absurd h3 z))⟩) (fun z => absurd hc z)
          · unfold wpY_of
            have y60 : wY_of_60 post f w cc sl nw no ss yy ops o1 o2 o3 sz st pr pc rg wk sp cp cl hd ct ab dy ly := And.intro i2.1 (by rw [i2.2]; exact H)
            refine fd_Y_wi 11 (by omega) rfl (fun _ => br_f (by decide) ⟨hc, br_f s0 (br_f w0 (br_f w5 (br_c (fun _ => y60) (fun a0 => br_c (fun _ => y60) (fun a1 => br_c (fun _ => y60) (fun a2 => ?_))))))⟩) (fun z => absurd hc z)
            obtain ⟨j, hj, e⟩ := vp_in_of h3 (by omega)
            rcases (by omega : j = 0 ∨ j = 1 ∨ j = 2) with q | q | q <;> subst q
            · exact absurd e a0
            · exact absurd e a1
            · exact absurd e a2
        · have hX : ∀ post : Int32 → Prop, ((w = 3 → (vp_in f 12 ∧ post (pc f.toNatClampNeg))) ∧ (¬ w = 3 → ((w = 4 → (vp_in f 12 ∧ post (pr f.toNatClampNeg))) ∧ (¬ w = 4 → ((w = 5 → (vp_in f 12 ∧ ((st f.toNatClampNeg = 4 → (vp_in f 12 ∧ post (wk f.toNatClampNeg - nw))) ∧ (¬ st f.toNatClampNeg = 4 → post (-1))))) ∧ (¬ w = 5 → post (-1))))))) → wpX_of post (rc, cc, sl, nw, no, ops, o1, o2, o3, sz, st, pr, pc, rg, wk, jn, sd, br, io, cp, cl, hd, ct, wt, wc, rr, ab, dx, ox) f w := fun post H => by
            unfold wpX_of
            exact fd_X_bl 12 (by omega) rfl (fun _ => br_f (by decide) ⟨hc, br_f s0 (fd_X_bl 3 (by omega) rfl (fun z => absurd z h3) (fun _ => br_t rfl H))⟩) (fun z => absurd hc z)
          have n0 : ¬ w = 0 := fun e => h3 (by rw [e]; exact fd_0in (by omega))
          have n1 : ¬ w = 1 := fun e => h3 (by rw [e]; exact vp_in_nI (n := 1) (by omega) (by omega))
          have n2 : ¬ w = 2 := fun e => h3 (by rw [e]; exact vp_in_nI (n := 2) (by omega) (by omega))
          have hY : ∀ post : Int32 → Prop, ((w = 3 → (vp_in f 12 ∧ post (pc f.toNatClampNeg))) ∧ (¬ w = 3 → ((w = 4 → (vp_in f 12 ∧ post (pr f.toNatClampNeg))) ∧ (¬ w = 4 → ((w = 5 → (vp_in f 12 ∧ ((st f.toNatClampNeg = 4 → (vp_in f 12 ∧ post (wk f.toNatClampNeg - nw))) ∧ (¬ st f.toNatClampNeg = 4 → post (-1))))) ∧ (¬ w = 5 → True)))))) → wpY_of post (cc, sl, nw, no, ss, yy, ops, o1, o2, o3, sz, st, pr, pc, rg, wk, sp, cp, cl, hd, ct, ab, dy, ly) f w := fun post H => by
            unfold wpY_of
            exact fd_Y_wi 11 (by omega) rfl (fun _ => br_f (by decide) ⟨hc, br_f s0 (br_f w0 (br_f w5 (br_f n0 (br_f n1 (br_f n2 H)))))⟩) (fun z => absurd hc z)
          by_cases a3 : w = 3
          · exact ⟨pc f.toNatClampNeg, fun post H => hX post (br_t a3 ⟨hc, H⟩), fun post H => hY post (br_t a3 ⟨hc, H⟩)⟩
          · by_cases a4 : w = 4
            · exact ⟨pr f.toNatClampNeg, fun post H => hX post (br_f a3 (br_t a4 ⟨hc, H⟩)), fun post H => hY post (br_f a3 (br_t a4 ⟨hc, H⟩))⟩
            · have a5 : w = 5 := by
                obtain ⟨j, hj, e⟩ := vp_in_of hw (by omega)
                rcases (by omega : j = 0 ∨ j = 1 ∨ j = 2 ∨ j = 3 ∨ j = 4 ∨ j = 5) with q | q | q | q | q | q <;> subst q
                · exact absurd e n0
                · exact absurd e n1
                · exact absurd e n2
                · exact absurd e a3
                · exact absurd e a4
                · exact e
              by_cases s4 : st f.toNatClampNeg = 4
              · exact ⟨wk f.toNatClampNeg - nw, fun post H => hX post (br_f a3 (br_f a4 (br_t a5 ⟨hc, br_t s4 ⟨hc, H⟩⟩))), fun post H => hY post (br_f a3 (br_f a4 (br_t a5 ⟨hc, br_t s4 ⟨hc, H⟩⟩)))⟩
              · exact ⟨-1, fun post H => hX post (br_f a3 (br_f a4 (br_t a5 ⟨hc, br_f s4 H⟩))), fun post H => hY post (br_f a3 (br_f a4 (br_t a5 ⟨hc, br_f s4 H⟩)))⟩
      · have n3 : ¬ vp_in w 3 := fun z => hw (fd_mono z (by omega))
        have m3 : ¬ w = 3 := fun e => hw (by rw [e]; exact vp_in_nI (n := 3) (by omega) (by omega))
        have m4 : ¬ w = 4 := fun e => hw (by rw [e]; exact vp_in_nI (n := 4) (by omega) (by omega))
        have m5 : ¬ w = 5 := fun e => hw (by rw [e]; exact vp_in_nI (n := 5) (by omega) (by omega))
        refine ⟨-1, fun post H => ?_, fun post H => ?_⟩
        · unfold wpX_of
          exact fd_X_bl 12 (by omega) rfl (fun _ => br_f (by decide) ⟨hc, br_f s0 (fd_X_bl 3 (by omega) rfl (fun z => absurd z n3) (fun _ => br_t rfl (br_f m3 (br_f m4 (br_f m5 H)))))⟩) (fun z => absurd hc z)
        · unfold wpY_of
          exact fd_Y_wi 11 (by omega) rfl (fun _ => br_f (by decide) ⟨hc, br_f s0 (br_c (fun _ => H) (fun a0 => br_c (fun _ => H) (fun a5 => absurd ((fd_wi (n := 5) (by omega)).mpr ⟨a0, a5⟩) hw)))⟩) (fun z => absurd hc z)
  · refine ⟨-1, fun post H => ?_, fun post H => ?_⟩
    · unfold wpX_of
      exact fd_X_bl 12 (by omega) rfl (fun z => absurd z hc) (fun _ => br_t rfl H)
    · unfold wpY_of
      exact fd_Y_wi 11 (by omega) rfl (fun z => absurd z hc) (fun _ => br_t rfl H)
end
