def fd_hd (ops o1 o2 o3 sz st pr pc ab : Nat → Int32) (k0 : Nat) (x : Int32) : Prop := fd_run k0 st ab x ∧ vp_in (pr x.toNatClampNeg) 6 ∧ vp_in (pc x.toNatClampNeg) 12 ∧ vp_in (12 * pr x.toNatClampNeg + pc x.toNatClampNeg) 84 ∧ fd_k pr pc x.toNatClampNeg = (12 * pr x.toNatClampNeg + pc x.toNatClampNeg).toNatClampNeg ∧ pc x.toNatClampNeg < sz (pr x.toNatClampNeg).toNatClampNeg ∧ fd_gd (ops (12 * pr x.toNatClampNeg + pc x.toNatClampNeg).toNatClampNeg) (o1 (12 * pr x.toNatClampNeg + pc x.toNatClampNeg).toNatClampNeg) (o2 (12 * pr x.toNatClampNeg + pc x.toNatClampNeg).toNatClampNeg) (o3 (12 * pr x.toNatClampNeg + pc x.toNatClampNeg).toNatClampNeg)
/-- the running fibre has yielded: X has it in the row, Y has it on the carrier still -/
def fd_YD (B s k0 : Nat) (ab0 : Nat → Int32) (x : Int32) (u : SX) (v : SY) : Prop := ∃ (rc cc sl nw no : Int32) (ops o1 o2 o3 sz st pr pc rg wk jn sd br io cp cl hd ct wt wc rr ab dx ox : Nat → Int32) (ss : Int64) (yy : Int32) (sp : Nat → Int64) (dy ly : Nat → Int32), u = (rc + 1, cc, sl, nw, no, ops, o1, o2, o3, sz, upd st x.toNatClampNeg 1, pr, pc, rg, wk, jn, sd, br, io, cp, cl, hd, ct, wt, wc, upd rr rc.toNatClampNeg x, ab, dx, ox) ∧ v = (cc, sl, nw, no, ss, yy, ops, o1, o2, o3, sz, st, pr, pc, rg, wk, sp, cp, cl, hd, ct, ab, dy, ly) ∧ ¬ yy = 0 ∧ fd_K B s k0 rc cc sl nw no ops o1 o2 o3 sz st pr pc rg wk jn sd br io cp cl hd ct wt wc rr ab dx ox ss yy sp dy ly ∧ fd_run k0 st ab x ∧ ab = ab0
def fd_SQ (B s k0 : Nat) (ab0 : Nat → Int32) (x : Int32) (u : SX) (v : SY) : Prop := fd_RS (B + 1) (s + 200) k0 ab0 0 u v ∨ fd_YD B s k0 ab0 x u v
/-- the ring's other side: the cells above i have moved up by one -/
def fd_lr (ly : Nat → Int32) (i : Nat) : Nat → Int32 := fun j => if i < j ∧ j ≤ 15 then ly (j - 1) else ly j
theorem fd_lr_15 (ly : Nat → Int32) : fd_lr ly 15 = ly := by
  funext j
  exact if_neg (by omega)
theorem fd_lr_s (ly : Nat → Int32) (i : Nat) (hi : i < 15) : upd (fd_lr ly (i + 1)) (i + 1) (fd_lr ly (i + 1) i) = fd_lr ly i := by
  funext j
  unfold fd_lr upd
  by_cases e : j = i + 1
  · subst e
    rw [if_pos rfl, if_neg (by omega), if_pos (by omega)]
    rfl
  · rw [if_neg e]
    dsimp only
    by_cases q : i + 1 < j ∧ j ≤ 15
    · rw [if_pos q, if_pos (by omega)]
    · rw [if_neg q, if_neg (by omega)]
section
variable {rc cc sl nw no : Int32} {ops o1 o2 o3 sz st pr pc rg wk jn sd br io cp cl hd ct wt wc rr ab dx ox : Nat → Int32} {ss : Int64} {yy : Int32} {sp : Nat → Int64} {dy ly : Nat → Int32} {B s k0 : Nat}
theorem fd_Y_out {post : SY → Prop} {x x5 x6 : Int32} (hx : vp_in x 12) (h5 : vp_in x5 36) (H : post (cc, sl, nw, no + 1, ss, yy, ops, o1, o2, o3, sz, st, pr, upd pc x.toNatClampNeg x6, rg, wk, sp, cp, cl, hd, ct, ab, dy, upd (fd_lr ly 0) 0 (rg x5.toNatClampNeg))) : ∀ i : Nat, i ≤ 15 → wY_plain_259 post x x5 x6 cc sl nw no ss yy (i + 1) (nI i) ops o1 o2 o3 sz st pr pc rg wk sp cp cl hd ct ab dy (fd_lr ly i) := by
  intro i
  induction i with
  | zero => intro _; exact br_t (by decide) ⟨h5, nm_e (nm_e ⟨hx, nm_e H⟩)⟩
  | succ i ih =>
    intro hi
    refine br_f (nI_nle (by omega) (by omega)) ?_
    rw [nI_pred, nI_clamp (by omega), nI_clamp (by omega)]
    exact ⟨vp_in_nI (by omega) (by omega), vp_in_nI (by omega) (by omega), nm_r (fd_lr_s ly i (by omega)) (nm_r (pk_m1 i) (ih (by omega)))⟩
theorem fd_O_u {v : Int32} {n : Nat} (h : ∀ i, i < 16 → i < n → ox ((n - 1 - i) % 16) = ly i) : ∀ i, i < 16 → i < n + 1 → upd ox (n % 16) v ((n + 1 - 1 - i) % 16) = upd (fd_lr ly 0) 0 v i := by
  intro i h16 hn
  by_cases e : i = 0
  · subst e
    rw [pk_us, show n + 1 - 1 - 0 = n by omega, pk_us]
  · have q := h (i - 1) (by omega) (by omega)
    have l : fd_lr ly 0 i = ly (i - 1) := if_pos (by omega)
    rw [pk_un e, l, ← q, pk_un (by omega)]
    congr 1
    omega
theorem fd_X_out {post : SX → Prop} {v : Int32} {n : Nat} (hn : n < 2 ^ 31) (en : no = nI n) (H : post (rc, cc, sl, nw, no + 1, ops, o1, o2, o3, sz, st, pr, pc, rg, wk, jn, sd, br, io, cp, cl, hd, ct, wt, wc, rr, ab, dx, upd ox (n % 16) v)) : wpX_putOut post (rc, cc, sl, nw, no, ops, o1, o2, o3, sz, st, pr, pc, rg, wk, jn, sd, br, io, cp, cl, hd, ct, wt, wc, rr, ab, dx, ox) v := by
  have e : no - no / 16 * 16 = nI (n % 16) := by rw [en]; exact pk_rem (d := 16) hn (by omega) (by omega)
  refine And.intro (by decide) ?_
  rw [e, nI_clamp (by omega)]
  exact ⟨vp_in_nI (Nat.mod_lt _ (by omega)) (by omega), nm_e (nm_e H)⟩
theorem fd_K_out {v : Int32} {n : Nat} (en : no = nI n) (hnB : n ≤ B) (hO : ∀ i, i < 16 → i < n → ox ((n - 1 - i) % 16) = ly i) (h : fd_K B s k0 rc cc sl nw no ops o1 o2 o3 sz st pr pc rg wk jn sd br io cp cl hd ct wt wc rr ab dx ox ss yy sp dy ly) : fd_K (B + 1) s k0 rc cc sl nw (no + 1) ops o1 o2 o3 sz st pr pc rg wk jn sd br io cp cl hd ct wt wc rr ab dx (upd ox (n % 16) v) ss yy sp dy (upd (fd_lr ly 0) 0 v) := ⟨h.1, h.2.1, h.2.2.1, h.2.2.2.1, h.2.2.2.2.1, h.2.2.2.2.2.1, ⟨n + 1, by omega, by rw [en, nI_1], fd_O_u hO⟩, h.2.2.2.2.2.2.2⟩
theorem fd_op0 {x : Int32} (hh : fd_hd ops o1 o2 o3 sz st pr pc ab k0 x) (e : ops (12 * pr x.toNatClampNeg + pc x.toNatClampNeg).toNatClampNeg = 0) (hs : s + 200 < 2 ^ 62) (hB : B < 2 ^ 30) (h : fd_K B s k0 rc cc sl nw no ops o1 o2 o3 sz st pr pc rg wk jn sd br io cp cl hd ct wt wc rr ab dx ox ss yy sp dy ly) : fd_Do (fun post => wpX_perform post (rc, cc, sl, nw, no, ops, o1, o2, o3, sz, st, pr, pc, rg, wk, jn, sd, br, io, cp, cl, hd, ct, wt, wc, rr, ab, dx, ox) x) (fun post => wpY_step post (cc, sl, nw, no, ss, yy, ops, o1, o2, o3, sz, st, pr, pc, rg, wk, sp, cp, cl, hd, ct, ab, dy, ly) x) (fd_SQ B s k0 ab x) := by
  obtain ⟨hr, hp6, hpc, hk, ek, lt, hg⟩ := hh
  have hx := hr.1
  have hp7 := fd_mono hp6 (show 6 ≤ 7 by omega)
  have hpi := (fd_inc hpc (by omega)).1
  have h0 : fd_K B s k0 rc cc sl nw no ops o1 o2 o3 sz st pr pc rg wk jn sd br io cp cl hd ct wt wc rr ab dx ox ss 0 sp dy ly := h
  have ha : vp_in (o1 (12 * pr x.toNatClampNeg + pc x.toNatClampNeg).toNatClampNeg) 3 := hg.2.1 (Or.inl e)
  have i1 := fd_3' hx ha
  have i2 := fd_3 hx ha
  have K1 := fd_K_own (rg' := upd rg (3 * x.toNatClampNeg + (o1 (12 * pr x.toNatClampNeg + pc x.toNatClampNeg).toNatClampNeg).toNatClampNeg) (o2 (12 * pr x.toNatClampNeg + pc x.toNatClampNeg).toNatClampNeg)) (pc' := upd pc x.toNatClampNeg (pc x.toNatClampNeg + 1)) h0 hx hr.2.1 (fd_agr_u (fd_lt ha)) fd_ag_u (by rw [pk_us]; exact hpi)
  exact ⟨_, _, fun post H => And.intro hx ⟨hx, hp7, br_t lt ⟨hx, hx, nm_r (e' := (12 * pr x.toNatClampNeg + pc x.toNatClampNeg)) (by rw [Int32.mul_comm]) ⟨hk, nm_e ⟨hk, nm_e (nm_e ⟨hk, nm_r e (br_f (by decide) (br_f (by decide) (br_t rfl (⟨i1.1, nm_r (by rw [i1.2]) ⟨hx, hx, nm_e H⟩⟩))))⟩)⟩⟩⟩⟩, fun post H => And.intro hx (nm_e (And.intro hx (And.intro hx ⟨hx, hp7, br_t lt ⟨hk, nm_e ⟨hk, nm_e ⟨hk, nm_r e (br_t (by decide) (And.intro hk (nm_e ⟨hk, nm_e (nm_e ⟨hx, nm_e ⟨hk, nm_r e (br_f (by decide) (br_f (by decide) (br_t rfl (⟨i2.1, nm_r (by rw [i2.2]) ⟨hx, nm_e H⟩⟩))))⟩⟩)⟩)))⟩⟩⟩⟩))), Or.inl (fd_K_Rel0 K1 _ _ (by omega) (by omega))⟩
theorem fd_op1 {x : Int32} (hh : fd_hd ops o1 o2 o3 sz st pr pc ab k0 x) (e : ops (12 * pr x.toNatClampNeg + pc x.toNatClampNeg).toNatClampNeg = 1) (hs : s + 200 < 2 ^ 62) (hB : B < 2 ^ 30) (h : fd_K B s k0 rc cc sl nw no ops o1 o2 o3 sz st pr pc rg wk jn sd br io cp cl hd ct wt wc rr ab dx ox ss yy sp dy ly) : fd_Do (fun post => wpX_perform post (rc, cc, sl, nw, no, ops, o1, o2, o3, sz, st, pr, pc, rg, wk, jn, sd, br, io, cp, cl, hd, ct, wt, wc, rr, ab, dx, ox) x) (fun post => wpY_step post (cc, sl, nw, no, ss, yy, ops, o1, o2, o3, sz, st, pr, pc, rg, wk, sp, cp, cl, hd, ct, ab, dy, ly) x) (fd_SQ B s k0 ab x) := by
  obtain ⟨hr, hp6, hpc, hk, ek, lt, hg⟩ := hh
  have hx := hr.1
  have hp7 := fd_mono hp6 (show 6 ≤ 7 by omega)
  have hpi := (fd_inc hpc (by omega)).1
  have h0 : fd_K B s k0 rc cc sl nw no ops o1 o2 o3 sz st pr pc rg wk jn sd br io cp cl hd ct wt wc rr ab dx ox ss 0 sp dy ly := h
  have ha : vp_in (o1 (12 * pr x.toNatClampNeg + pc x.toNatClampNeg).toNatClampNeg) 3 := (hg.2.2.1 (Or.inl e)).1
  have i1 := fd_3' hx ha
  have i2 := fd_3 hx ha
  have hb : vp_in (o2 (12 * pr x.toNatClampNeg + pc x.toNatClampNeg).toNatClampNeg) 3 := (hg.2.2.1 (Or.inl e)).2
  have j1 := fd_3' hx hb
  have j2 := fd_3 hx hb
  have K1 := fd_K_own (rg' := upd rg (3 * x.toNatClampNeg + (o1 (12 * pr x.toNatClampNeg + pc x.toNatClampNeg).toNatClampNeg).toNatClampNeg) (rg (3 * x.toNatClampNeg + (o1 (12 * pr x.toNatClampNeg + pc x.toNatClampNeg).toNatClampNeg).toNatClampNeg) + rg (3 * x.toNatClampNeg + (o2 (12 * pr x.toNatClampNeg + pc x.toNatClampNeg).toNatClampNeg).toNatClampNeg))) (pc' := upd pc x.toNatClampNeg (pc x.toNatClampNeg + 1)) h0 hx hr.2.1 (fd_agr_u (fd_lt ha)) fd_ag_u (by rw [pk_us]; exact hpi)
  exact ⟨_, _, fun post H => And.intro hx ⟨hx, hp7, br_t lt ⟨hx, hx, nm_r (e' := (12 * pr x.toNatClampNeg + pc x.toNatClampNeg)) (by rw [Int32.mul_comm]) ⟨hk, nm_e ⟨hk, nm_e (nm_e ⟨hk, nm_r e (br_f (by decide) (br_f (by decide) (br_f (by decide) (br_t rfl (⟨i1.1, j1.1, i1.1, nm_r (by rw [i1.2, j1.2]) ⟨hx, hx, nm_e H⟩⟩)))))⟩)⟩⟩⟩⟩, fun post H => And.intro hx (nm_e (And.intro hx (And.intro hx ⟨hx, hp7, br_t lt ⟨hk, nm_e ⟨hk, nm_e ⟨hk, nm_r e (br_t (by decide) (And.intro hk (nm_e ⟨hk, nm_e (nm_e ⟨hx, nm_e ⟨hk, nm_r e (br_f (by decide) (br_f (by decide) (br_f (by decide) (br_t rfl (⟨i2.1, j2.1, i2.1, nm_r (by rw [i2.2, j2.2]) ⟨hx, nm_e H⟩⟩)))))⟩⟩)⟩)))⟩⟩⟩⟩))), Or.inl (fd_K_Rel0 K1 _ _ (by omega) (by omega))⟩
theorem fd_op2 {x : Int32} (hh : fd_hd ops o1 o2 o3 sz st pr pc ab k0 x) (e : ops (12 * pr x.toNatClampNeg + pc x.toNatClampNeg).toNatClampNeg = 2) (hs : s + 200 < 2 ^ 62) (hB : B < 2 ^ 30) (h : fd_K B s k0 rc cc sl nw no ops o1 o2 o3 sz st pr pc rg wk jn sd br io cp cl hd ct wt wc rr ab dx ox ss yy sp dy ly) : fd_Do (fun post => wpX_perform post (rc, cc, sl, nw, no, ops, o1, o2, o3, sz, st, pr, pc, rg, wk, jn, sd, br, io, cp, cl, hd, ct, wt, wc, rr, ab, dx, ox) x) (fun post => wpY_step post (cc, sl, nw, no, ss, yy, ops, o1, o2, o3, sz, st, pr, pc, rg, wk, sp, cp, cl, hd, ct, ab, dy, ly) x) (fd_SQ B s k0 ab x) := by
  obtain ⟨hr, hp6, hpc, hk, ek, lt, hg⟩ := hh
  have hx := hr.1
  have hp7 := fd_mono hp6 (show 6 ≤ 7 by omega)
  have hpi := (fd_inc hpc (by omega)).1
  have h0 : fd_K B s k0 rc cc sl nw no ops o1 o2 o3 sz st pr pc rg wk jn sd br io cp cl hd ct wt wc rr ab dx ox ss 0 sp dy ly := h
  have K1 := fd_K_own (rg' := rg) (pc' := upd pc x.toNatClampNeg (o1 (12 * pr x.toNatClampNeg + pc x.toNatClampNeg).toNatClampNeg)) h0 hx hr.2.1 fd_agr_r fd_ag_u (by rw [pk_us]; exact hg.2.2.2.1 e)
  exact ⟨_, _, fun post H => And.intro hx ⟨hx, hp7, br_t lt ⟨hx, hx, nm_r (e' := (12 * pr x.toNatClampNeg + pc x.toNatClampNeg)) (by rw [Int32.mul_comm]) ⟨hk, nm_e ⟨hk, nm_e (nm_e ⟨hk, nm_r e (br_f (by decide) (br_f (by decide) (br_f (by decide) (br_f (by decide) (br_t rfl (⟨hx, nm_e H⟩))))))⟩)⟩⟩⟩⟩, fun post H => And.intro hx (nm_e (And.intro hx (And.intro hx ⟨hx, hp7, br_t lt ⟨hk, nm_e ⟨hk, nm_e ⟨hk, nm_r e (br_t (by decide) (And.intro hk (nm_e ⟨hk, nm_e (nm_e ⟨hx, nm_e ⟨hk, nm_r e (br_f (by decide) (br_f (by decide) (br_f (by decide) (br_f (by decide) (br_t rfl (⟨hx, nm_e H⟩))))))⟩⟩)⟩)))⟩⟩⟩⟩))), Or.inl (fd_K_Rel0 K1 _ _ (by omega) (by omega))⟩
theorem fd_op3 {x : Int32} (hh : fd_hd ops o1 o2 o3 sz st pr pc ab k0 x) (e : ops (12 * pr x.toNatClampNeg + pc x.toNatClampNeg).toNatClampNeg = 3) (hs : s + 200 < 2 ^ 62) (hB : B < 2 ^ 30) (h : fd_K B s k0 rc cc sl nw no ops o1 o2 o3 sz st pr pc rg wk jn sd br io cp cl hd ct wt wc rr ab dx ox ss yy sp dy ly) : fd_Do (fun post => wpX_perform post (rc, cc, sl, nw, no, ops, o1, o2, o3, sz, st, pr, pc, rg, wk, jn, sd, br, io, cp, cl, hd, ct, wt, wc, rr, ab, dx, ox) x) (fun post => wpY_step post (cc, sl, nw, no, ss, yy, ops, o1, o2, o3, sz, st, pr, pc, rg, wk, sp, cp, cl, hd, ct, ab, dy, ly) x) (fd_SQ B s k0 ab x) := by
  obtain ⟨hr, hp6, hpc, hk, ek, lt, hg⟩ := hh
  have hx := hr.1
  have hp7 := fd_mono hp6 (show 6 ≤ 7 by omega)
  have hpi := (fd_inc hpc (by omega)).1
  have h0 : fd_K B s k0 rc cc sl nw no ops o1 o2 o3 sz st pr pc rg wk jn sd br io cp cl hd ct wt wc rr ab dx ox ss 0 sp dy ly := h
  have ha : vp_in (o1 (12 * pr x.toNatClampNeg + pc x.toNatClampNeg).toNatClampNeg) 3 := (hg.2.2.2.2.1 e).1
  have i1 := fd_3' hx ha
  have i2 := fd_3 hx ha
  by_cases z : rg (3 * x.toNatClampNeg + (o1 (12 * pr x.toNatClampNeg + pc x.toNatClampNeg).toNatClampNeg).toNatClampNeg) = 0
  · have K1 := fd_K_own (rg' := rg) (pc' := upd pc x.toNatClampNeg (o2 (12 * pr x.toNatClampNeg + pc x.toNatClampNeg).toNatClampNeg)) h0 hx hr.2.1 fd_agr_r fd_ag_u (by rw [pk_us]; exact (hg.2.2.2.2.1 e).2)
    exact ⟨_, _, fun post H => And.intro hx ⟨hx, hp7, br_t lt ⟨hx, hx, nm_r (e' := (12 * pr x.toNatClampNeg + pc x.toNatClampNeg)) (by rw [Int32.mul_comm]) ⟨hk, nm_e ⟨hk, nm_e (nm_e ⟨hk, nm_r e (br_f (by decide) (br_f (by decide) (br_f (by decide) (br_f (by decide) (br_f (by decide) (br_t rfl (⟨i1.1, br_t (by rw [i1.2]; exact z) ⟨hx, nm_e H⟩⟩)))))))⟩)⟩⟩⟩⟩, fun post H => And.intro hx (nm_e (And.intro hx (And.intro hx ⟨hx, hp7, br_t lt ⟨hk, nm_e ⟨hk, nm_e ⟨hk, nm_r e (br_t (by decide) (And.intro hk (nm_e ⟨hk, nm_e (nm_e ⟨hx, nm_e ⟨hk, nm_r e (br_f (by decide) (br_f (by decide) (br_f (by decide) (br_f (by decide) (br_f (by decide) (br_t rfl (⟨i2.1, br_t (by rw [i2.2]; exact z) (And.intro hx (nm_e H))⟩)))))))⟩⟩)⟩)))⟩⟩⟩⟩))), Or.inl (fd_K_Rel0 K1 _ _ (by omega) (by omega))⟩
  · have K1 := fd_K_own (rg' := rg) (pc' := upd pc x.toNatClampNeg (pc x.toNatClampNeg + 1)) h0 hx hr.2.1 fd_agr_r fd_ag_u (by rw [pk_us]; exact hpi)
    exact ⟨_, _, fun post H => And.intro hx ⟨hx, hp7, br_t lt ⟨hx, hx, nm_r (e' := (12 * pr x.toNatClampNeg + pc x.toNatClampNeg)) (by rw [Int32.mul_comm]) ⟨hk, nm_e ⟨hk, nm_e (nm_e ⟨hk, nm_r e (br_f (by decide) (br_f (by decide) (br_f (by decide) (br_f (by decide) (br_f (by decide) (br_t rfl (⟨i1.1, br_f (by rw [i1.2]; exact z) ⟨hx, hx, nm_e H⟩⟩)))))))⟩)⟩⟩⟩⟩, fun post H => And.intro hx (nm_e (And.intro hx (And.intro hx ⟨hx, hp7, br_t lt ⟨hk, nm_e ⟨hk, nm_e ⟨hk, nm_r e (br_t (by decide) (And.intro hk (nm_e ⟨hk, nm_e (nm_e ⟨hx, nm_e ⟨hk, nm_r e (br_f (by decide) (br_f (by decide) (br_f (by decide) (br_f (by decide) (br_f (by decide) (br_t rfl (⟨i2.1, br_f (by rw [i2.2]; exact z) (And.intro hx (nm_e H))⟩)))))))⟩⟩)⟩)))⟩⟩⟩⟩))), Or.inl (fd_K_Rel0 K1 _ _ (by omega) (by omega))⟩
theorem fd_op4 {x : Int32} (hh : fd_hd ops o1 o2 o3 sz st pr pc ab k0 x) (e : ops (12 * pr x.toNatClampNeg + pc x.toNatClampNeg).toNatClampNeg = 4) (hs : s + 200 < 2 ^ 62) (hB : B < 2 ^ 30) (h : fd_K B s k0 rc cc sl nw no ops o1 o2 o3 sz st pr pc rg wk jn sd br io cp cl hd ct wt wc rr ab dx ox ss yy sp dy ly) : fd_Do (fun post => wpX_perform post (rc, cc, sl, nw, no, ops, o1, o2, o3, sz, st, pr, pc, rg, wk, jn, sd, br, io, cp, cl, hd, ct, wt, wc, rr, ab, dx, ox) x) (fun post => wpY_step post (cc, sl, nw, no, ss, yy, ops, o1, o2, o3, sz, st, pr, pc, rg, wk, sp, cp, cl, hd, ct, ab, dy, ly) x) (fd_SQ B s k0 ab x) := by
  obtain ⟨hr, hp6, hpc, hk, ek, lt, hg⟩ := hh
  have hx := hr.1
  have hp7 := fd_mono hp6 (show 6 ≤ 7 by omega)
  have hpi := (fd_inc hpc (by omega)).1
  have h0 : fd_K B s k0 rc cc sl nw no ops o1 o2 o3 sz st pr pc rg wk jn sd br io cp cl hd ct wt wc rr ab dx ox ss 0 sp dy ly := h
  have hrc := fd_K_rc h hx (by rw [hr.2.1]; decide)
  have K1 := fd_K_own (rg' := rg) (pc' := upd pc x.toNatClampNeg (pc x.toNatClampNeg + 1)) h hx hr.2.1 fd_agr_r fd_ag_u (by rw [pk_us]; exact hpi)
  have K2 : fd_K B s k0 rc cc sl nw no ops o1 o2 o3 sz st pr (upd pc x.toNatClampNeg (pc x.toNatClampNeg + 1)) rg wk jn sd br io cp cl hd ct wt wc rr ab dx ox ss 1 sp dy ly := K1
  exact ⟨_, _, fun post H => And.intro hx ⟨hx, hp7, br_t lt ⟨hx, hx, nm_r (e' := (12 * pr x.toNatClampNeg + pc x.toNatClampNeg)) (by rw [Int32.mul_comm]) ⟨hk, nm_e ⟨hk, nm_e (nm_e ⟨hk, nm_r e (br_f (by decide) (br_f (by decide) (br_f (by decide) (br_f (by decide) (br_f (by decide) (br_f (by decide) (br_t rfl (⟨hx, hx, nm_e (fd_X_toRow hx hrc H)⟩))))))))⟩)⟩⟩⟩⟩, fun post H => And.intro hx (nm_e (And.intro hx (And.intro hx ⟨hx, hp7, br_t lt ⟨hk, nm_e ⟨hk, nm_e ⟨hk, nm_r e (br_t (by decide) (And.intro hk (nm_e ⟨hk, nm_e (nm_e ⟨hx, nm_e ⟨hk, nm_r e (br_f (by decide) (br_f (by decide) (br_f (by decide) (br_f (by decide) (br_f (by decide) (br_f (by decide) (br_t rfl (⟨hx, nm_e H⟩))))))))⟩⟩)⟩)))⟩⟩⟩⟩))), Or.inr ⟨rc, cc, sl, nw, no, ops, o1, o2, o3, sz, st, pr, _, rg, wk, jn, sd, br, io, cp, cl, hd, ct, wt, wc, rr, ab, dx, ox, ss, _, sp, dy, ly, rfl, rfl, by decide, K2, hr, rfl⟩⟩
theorem fd_op5 {x : Int32} (hh : fd_hd ops o1 o2 o3 sz st pr pc ab k0 x) (e : ops (12 * pr x.toNatClampNeg + pc x.toNatClampNeg).toNatClampNeg = 5) (hs : s + 200 < 2 ^ 62) (hB : B < 2 ^ 30) (h : fd_K B s k0 rc cc sl nw no ops o1 o2 o3 sz st pr pc rg wk jn sd br io cp cl hd ct wt wc rr ab dx ox ss yy sp dy ly) : fd_Do (fun post => wpX_perform post (rc, cc, sl, nw, no, ops, o1, o2, o3, sz, st, pr, pc, rg, wk, jn, sd, br, io, cp, cl, hd, ct, wt, wc, rr, ab, dx, ox) x) (fun post => wpY_step post (cc, sl, nw, no, ss, yy, ops, o1, o2, o3, sz, st, pr, pc, rg, wk, sp, cp, cl, hd, ct, ab, dy, ly) x) (fd_SQ B s k0 ab x) := by
  obtain ⟨hr, hp6, hpc, hk, ek, lt, hg⟩ := hh
  have hx := hr.1
  have hp7 := fd_mono hp6 (show 6 ≤ 7 by omega)
  have hpi := (fd_inc hpc (by omega)).1
  have h0 : fd_K B s k0 rc cc sl nw no ops o1 o2 o3 sz st pr pc rg wk jn sd br io cp cl hd ct wt wc rr ab dx ox ss 0 sp dy ly := h
  have ha : vp_in (o1 (12 * pr x.toNatClampNeg + pc x.toNatClampNeg).toNatClampNeg) 3 := hg.2.1 (Or.inr (Or.inl e))
  have i1 := fd_3' hx ha
  have i2 := fd_3 hx ha
  have hw : vp_in (rg (3 * x.toNatClampNeg + (o1 (12 * pr x.toNatClampNeg + pc x.toNatClampNeg).toNatClampNeg).toNatClampNeg) &&& 31) 32 := pk_andIn _ 5 (by decide) (by omega)
  by_cases z : rg (3 * x.toNatClampNeg + (o1 (12 * pr x.toNatClampNeg + pc x.toNatClampNeg).toNatClampNeg).toNatClampNeg) &&& 31 = 0
  · have z' : ¬ 1 ≤ rg (3 * x.toNatClampNeg + (o1 (12 * pr x.toNatClampNeg + pc x.toNatClampNeg).toNatClampNeg).toNatClampNeg) &&& 31 := by rw [z]; decide
    have K1 := fd_K_sleep (wk' := upd wk x.toNatClampNeg (nw + 1)) (pc' := upd pc x.toNatClampNeg (pc x.toNatClampNeg + 1)) h0 hr fd_ag_u (by rw [pk_us]; exact hpi)
    exact ⟨_, _, fun post H => And.intro hx ⟨hx, hp7, br_t lt ⟨hx, hx, nm_r (e' := (12 * pr x.toNatClampNeg + pc x.toNatClampNeg)) (by rw [Int32.mul_comm]) ⟨hk, nm_e ⟨hk, nm_e (nm_e ⟨hk, nm_r e (br_f (by decide) (br_f (by decide) (br_f (by decide) (br_f (by decide) (br_f (by decide) (br_f (by decide) (br_f (by decide) (br_t rfl (⟨i1.1, nm_r (e' := rg (3 * x.toNatClampNeg + (o1 (12 * pr x.toNatClampNeg + pc x.toNatClampNeg).toNatClampNeg).toNatClampNeg) &&& 31) (by rw [i1.2]) (br_t z (And.intro hx (nm_e ⟨hx, nm_e ⟨hx, hx, nm_e H⟩⟩)))⟩)))))))))⟩)⟩⟩⟩⟩, fun post H => And.intro hx (nm_e (And.intro hx (And.intro hx ⟨hx, hp7, br_t lt ⟨hk, nm_e ⟨hk, nm_e ⟨hk, nm_r e (br_t (by decide) (And.intro hk (nm_e ⟨hk, nm_e (nm_e ⟨hx, nm_e ⟨hk, nm_r e (br_f (by decide) (br_f (by decide) (br_f (by decide) (br_f (by decide) (br_f (by decide) (br_f (by decide) (br_f (by decide) (br_t rfl (⟨i2.1, nm_r (e' := rg (3 * x.toNatClampNeg + (o1 (12 * pr x.toNatClampNeg + pc x.toNatClampNeg).toNatClampNeg).toNatClampNeg) &&& 31) (by rw [i2.2]) (br_f z' (And.intro hx (nm_e ⟨hx, nm_e ⟨hx, nm_e H⟩⟩)))⟩)))))))))⟩⟩)⟩)))⟩⟩⟩⟩))), Or.inl (fd_K_Rel0 K1 _ _ (by omega) (by omega))⟩
  · have z' : 1 ≤ rg (3 * x.toNatClampNeg + (o1 (12 * pr x.toNatClampNeg + pc x.toNatClampNeg).toNatClampNeg).toNatClampNeg) &&& 31 := by
      obtain ⟨j, hj, q⟩ := vp_in_of hw (by omega)
      rw [q] at z ⊢
      have : j ≠ 0 := fun w => z (by rw [w]; decide)
      exact nI_le (a := 1) (by omega) (by omega)
    have K1 := fd_K_sleep (wk' := upd wk x.toNatClampNeg (nw + (rg (3 * x.toNatClampNeg + (o1 (12 * pr x.toNatClampNeg + pc x.toNatClampNeg).toNatClampNeg).toNatClampNeg) &&& 31))) (pc' := upd pc x.toNatClampNeg (pc x.toNatClampNeg + 1)) h0 hr fd_ag_u (by rw [pk_us]; exact hpi)
    exact ⟨_, _, fun post H => And.intro hx ⟨hx, hp7, br_t lt ⟨hx, hx, nm_r (e' := (12 * pr x.toNatClampNeg + pc x.toNatClampNeg)) (by rw [Int32.mul_comm]) ⟨hk, nm_e ⟨hk, nm_e (nm_e ⟨hk, nm_r e (br_f (by decide) (br_f (by decide) (br_f (by decide) (br_f (by decide) (br_f (by decide) (br_f (by decide) (br_f (by decide) (br_t rfl (⟨i1.1, nm_r (e' := rg (3 * x.toNatClampNeg + (o1 (12 * pr x.toNatClampNeg + pc x.toNatClampNeg).toNatClampNeg).toNatClampNeg) &&& 31) (by rw [i1.2]) (br_f z (And.intro hx (nm_e ⟨hx, nm_e ⟨hx, hx, nm_e H⟩⟩)))⟩)))))))))⟩)⟩⟩⟩⟩, fun post H => And.intro hx (nm_e (And.intro hx (And.intro hx ⟨hx, hp7, br_t lt ⟨hk, nm_e ⟨hk, nm_e ⟨hk, nm_r e (br_t (by decide) (And.intro hk (nm_e ⟨hk, nm_e (nm_e ⟨hx, nm_e ⟨hk, nm_r e (br_f (by decide) (br_f (by decide) (br_f (by decide) (br_f (by decide) (br_f (by decide) (br_f (by decide) (br_f (by decide) (br_t rfl (⟨i2.1, nm_r (e' := rg (3 * x.toNatClampNeg + (o1 (12 * pr x.toNatClampNeg + pc x.toNatClampNeg).toNatClampNeg).toNatClampNeg) &&& 31) (by rw [i2.2]) (br_t z' (And.intro hx (nm_e ⟨hx, nm_e ⟨hx, nm_e H⟩⟩)))⟩)))))))))⟩⟩)⟩)))⟩⟩⟩⟩))), Or.inl (fd_K_Rel0 K1 _ _ (by omega) (by omega))⟩
theorem fd_op6 {x : Int32} (hh : fd_hd ops o1 o2 o3 sz st pr pc ab k0 x) (e : ops (12 * pr x.toNatClampNeg + pc x.toNatClampNeg).toNatClampNeg = 6) (hs : s + 200 < 2 ^ 62) (hB : B < 2 ^ 30) (h : fd_K B s k0 rc cc sl nw no ops o1 o2 o3 sz st pr pc rg wk jn sd br io cp cl hd ct wt wc rr ab dx ox ss yy sp dy ly) : fd_Do (fun post => wpX_perform post (rc, cc, sl, nw, no, ops, o1, o2, o3, sz, st, pr, pc, rg, wk, jn, sd, br, io, cp, cl, hd, ct, wt, wc, rr, ab, dx, ox) x) (fun post => wpY_step post (cc, sl, nw, no, ss, yy, ops, o1, o2, o3, sz, st, pr, pc, rg, wk, sp, cp, cl, hd, ct, ab, dy, ly) x) (fd_SQ B s k0 ab x) := by
  obtain ⟨hr, hp6, hpc, hk, ek, lt, hg⟩ := hh
  have hx := hr.1
  have hp7 := fd_mono hp6 (show 6 ≤ 7 by omega)
  have hpi := (fd_inc hpc (by omega)).1
  have h0 : fd_K B s k0 rc cc sl nw no ops o1 o2 o3 sz st pr pc rg wk jn sd br io cp cl hd ct wt wc rr ab dx ox ss 0 sp dy ly := h
  have hg' := hg
  rw [← ek] at hg'
  have e' := e
  rw [← ek] at e'
  have hb : vp_in (o2 (12 * pr x.toNatClampNeg + pc x.toNatClampNeg).toNatClampNeg) 3 := (hg.2.2.2.2.2.1 (Or.inl e)).2
  have j1 := fd_3' hx hb
  have j2 := fd_3 hx hb
  obtain ⟨u, v, h1, h2, ⟨rc', cc', sl', nw', no', ops', o1', o2', o3', sz', st', pr', pc', rg', wk', jn', sd', br', io', cp', cl', hd', ct', wt', wc', rr', ab', dx', ox', ss', yy', sp', dy', ly', rfl, rfl, hq⟩⟩ := fd_send (y := o1 (12 * pr x.toNatClampNeg + pc x.toNatClampNeg).toNatClampNeg) (v := rg (3 * x.toNatClampNeg + (o2 (12 * pr x.toNatClampNeg + pc x.toNatClampNeg).toNatClampNeg).toNatClampNeg)) hr hpc hg' e' (by rw [ek]) (by rw [ek]) hs h0
  exact ⟨_, _, fun post H => And.intro hx ⟨hx, hp7, br_t lt ⟨hx, hx, nm_r (e' := (12 * pr x.toNatClampNeg + pc x.toNatClampNeg)) (by rw [Int32.mul_comm]) ⟨hk, nm_e ⟨hk, nm_e (nm_e ⟨hk, nm_r e (br_f (by decide) (br_f (by decide) (br_f (by decide) (br_f (by decide) (br_f (by decide) (br_f (by decide) (br_f (by decide) (br_f (by decide) (br_t rfl (⟨j1.1, by rw [j1.2]; exact h1 _ H⟩))))))))))⟩)⟩⟩⟩⟩, fun post H => And.intro hx (nm_e (And.intro hx (And.intro hx ⟨hx, hp7, br_t lt ⟨hk, nm_e ⟨hk, nm_e ⟨hk, nm_r e (br_f (by decide) (br_f (by decide) (br_t rfl (⟨j2.1, by rw [j2.2]; exact h2 _ H⟩))))⟩⟩⟩⟩))), Or.inl (fd_Rel_0 ⟨rc', cc', sl', nw', no', ops', o1', o2', o3', sz', st', pr', pc', rg', wk', jn', sd', br', io', cp', cl', hd', ct', wt', wc', rr', ab', dx', ox', ss', yy', sp', dy', ly', rfl, rfl, hq⟩ _ _ (by omega) (by omega))⟩
theorem fd_op7 {x : Int32} (hh : fd_hd ops o1 o2 o3 sz st pr pc ab k0 x) (e : ops (12 * pr x.toNatClampNeg + pc x.toNatClampNeg).toNatClampNeg = 7) (hs : s + 200 < 2 ^ 62) (hB : B < 2 ^ 30) (h : fd_K B s k0 rc cc sl nw no ops o1 o2 o3 sz st pr pc rg wk jn sd br io cp cl hd ct wt wc rr ab dx ox ss yy sp dy ly) : fd_Do (fun post => wpX_perform post (rc, cc, sl, nw, no, ops, o1, o2, o3, sz, st, pr, pc, rg, wk, jn, sd, br, io, cp, cl, hd, ct, wt, wc, rr, ab, dx, ox) x) (fun post => wpY_step post (cc, sl, nw, no, ss, yy, ops, o1, o2, o3, sz, st, pr, pc, rg, wk, sp, cp, cl, hd, ct, ab, dy, ly) x) (fd_SQ B s k0 ab x) := by
  obtain ⟨hr, hp6, hpc, hk, ek, lt, hg⟩ := hh
  have hx := hr.1
  have hp7 := fd_mono hp6 (show 6 ≤ 7 by omega)
  have hpi := (fd_inc hpc (by omega)).1
  have h0 : fd_K B s k0 rc cc sl nw no ops o1 o2 o3 sz st pr pc rg wk jn sd br io cp cl hd ct wt wc rr ab dx ox ss 0 sp dy ly := h
  have hg' := hg
  rw [← ek] at hg'
  have e' := e
  rw [← ek] at e'
  obtain ⟨u, v, h1, h2, ⟨rc', cc', sl', nw', no', ops', o1', o2', o3', sz', st', pr', pc', rg', wk', jn', sd', br', io', cp', cl', hd', ct', wt', wc', rr', ab', dx', ox', ss', yy', sp', dy', ly', rfl, rfl, hq⟩⟩ := fd_rcv7 (y := o1 (12 * pr x.toNatClampNeg + pc x.toNatClampNeg).toNatClampNeg) (c := o2 (12 * pr x.toNatClampNeg + pc x.toNatClampNeg).toNatClampNeg) hr hpc hg' e' (by rw [ek]) (by rw [ek]) hs h0
  exact ⟨_, _, fun post H => And.intro hx ⟨hx, hp7, br_t lt ⟨hx, hx, nm_r (e' := (12 * pr x.toNatClampNeg + pc x.toNatClampNeg)) (by rw [Int32.mul_comm]) ⟨hk, nm_e ⟨hk, nm_e (nm_e ⟨hk, nm_r e (br_f (by decide) (br_f (by decide) (br_f (by decide) (br_f (by decide) (br_f (by decide) (br_f (by decide) (br_f (by decide) (br_f (by decide) (br_f (by decide) (br_t rfl (h1 _ H)))))))))))⟩)⟩⟩⟩⟩, fun post H => And.intro hx (nm_e (And.intro hx (And.intro hx ⟨hx, hp7, br_t lt ⟨hk, nm_e ⟨hk, nm_e ⟨hk, nm_r e (br_f (by decide) (br_f (by decide) (br_f (by decide) (br_t rfl (h2 _ H)))))⟩⟩⟩⟩))), Or.inl (fd_Rel_0 ⟨rc', cc', sl', nw', no', ops', o1', o2', o3', sz', st', pr', pc', rg', wk', jn', sd', br', io', cp', cl', hd', ct', wt', wc', rr', ab', dx', ox', ss', yy', sp', dy', ly', rfl, rfl, hq⟩ _ _ (by omega) (by omega))⟩
theorem fd_op8 {x : Int32} (hh : fd_hd ops o1 o2 o3 sz st pr pc ab k0 x) (e : ops (12 * pr x.toNatClampNeg + pc x.toNatClampNeg).toNatClampNeg = 8) (hs : s + 200 < 2 ^ 62) (hB : B < 2 ^ 30) (h : fd_K B s k0 rc cc sl nw no ops o1 o2 o3 sz st pr pc rg wk jn sd br io cp cl hd ct wt wc rr ab dx ox ss yy sp dy ly) : fd_Do (fun post => wpX_perform post (rc, cc, sl, nw, no, ops, o1, o2, o3, sz, st, pr, pc, rg, wk, jn, sd, br, io, cp, cl, hd, ct, wt, wc, rr, ab, dx, ox) x) (fun post => wpY_step post (cc, sl, nw, no, ss, yy, ops, o1, o2, o3, sz, st, pr, pc, rg, wk, sp, cp, cl, hd, ct, ab, dy, ly) x) (fd_SQ B s k0 ab x) := by
  obtain ⟨hr, hp6, hpc, hk, ek, lt, hg⟩ := hh
  have hx := hr.1
  have hp7 := fd_mono hp6 (show 6 ≤ 7 by omega)
  have hpi := (fd_inc hpc (by omega)).1
  have h0 : fd_K B s k0 rc cc sl nw no ops o1 o2 o3 sz st pr pc rg wk jn sd br io cp cl hd ct wt wc rr ab dx ox ss 0 sp dy ly := h
  have hg' := hg
  rw [← ek] at hg'
  have e' := e
  rw [← ek] at e'
  obtain ⟨u, v, h1, h2, ⟨rc', cc', sl', nw', no', ops', o1', o2', o3', sz', st', pr', pc', rg', wk', jn', sd', br', io', cp', cl', hd', ct', wt', wc', rr', ab', dx', ox', ss', yy', sp', dy', ly', rfl, rfl, hq⟩⟩ := fd_rcv8 (y := o1 (12 * pr x.toNatClampNeg + pc x.toNatClampNeg).toNatClampNeg) (z := o2 (12 * pr x.toNatClampNeg + pc x.toNatClampNeg).toNatClampNeg) (c := o3 (12 * pr x.toNatClampNeg + pc x.toNatClampNeg).toNatClampNeg) (k := (12 * pr x.toNatClampNeg + pc x.toNatClampNeg)) hr hpc hg' e' (by rw [ek]) (by rw [ek]) (by rw [ek]) hk ek hs h0
  exact ⟨_, _, fun post H => And.intro hx ⟨hx, hp7, br_t lt ⟨hx, hx, nm_r (e' := (12 * pr x.toNatClampNeg + pc x.toNatClampNeg)) (by rw [Int32.mul_comm]) ⟨hk, nm_e ⟨hk, nm_e (nm_e ⟨hk, nm_r e (br_f (by decide) (br_f (by decide) (br_f (by decide) (br_f (by decide) (br_f (by decide) (br_f (by decide) (br_f (by decide) (br_f (by decide) (br_f (by decide) (br_f (by decide) (br_t rfl (⟨hk, h1 _ H⟩))))))))))))⟩)⟩⟩⟩⟩, fun post H => And.intro hx (nm_e (And.intro hx (And.intro hx ⟨hx, hp7, br_t lt ⟨hk, nm_e ⟨hk, nm_e ⟨hk, nm_r e (br_f (by decide) (br_f (by decide) (br_f (by decide) (br_f (by decide) (br_t rfl (h2 post H))))))⟩⟩⟩⟩))), Or.inl (fd_Rel_0 ⟨rc', cc', sl', nw', no', ops', o1', o2', o3', sz', st', pr', pc', rg', wk', jn', sd', br', io', cp', cl', hd', ct', wt', wc', rr', ab', dx', ox', ss', yy', sp', dy', ly', rfl, rfl, hq⟩ _ _ (by omega) (by omega))⟩
theorem fd_op9 {x : Int32} (hh : fd_hd ops o1 o2 o3 sz st pr pc ab k0 x) (e : ops (12 * pr x.toNatClampNeg + pc x.toNatClampNeg).toNatClampNeg = 9) (hs : s + 200 < 2 ^ 62) (hB : B < 2 ^ 30) (h : fd_K B s k0 rc cc sl nw no ops o1 o2 o3 sz st pr pc rg wk jn sd br io cp cl hd ct wt wc rr ab dx ox ss yy sp dy ly) : fd_Do (fun post => wpX_perform post (rc, cc, sl, nw, no, ops, o1, o2, o3, sz, st, pr, pc, rg, wk, jn, sd, br, io, cp, cl, hd, ct, wt, wc, rr, ab, dx, ox) x) (fun post => wpY_step post (cc, sl, nw, no, ss, yy, ops, o1, o2, o3, sz, st, pr, pc, rg, wk, sp, cp, cl, hd, ct, ab, dy, ly) x) (fd_SQ B s k0 ab x) := by
  obtain ⟨hr, hp6, hpc, hk, ek, lt, hg⟩ := hh
  have hx := hr.1
  have hp7 := fd_mono hp6 (show 6 ≤ 7 by omega)
  have hpi := (fd_inc hpc (by omega)).1
  have h0 : fd_K B s k0 rc cc sl nw no ops o1 o2 o3 sz st pr pc rg wk jn sd br io cp cl hd ct wt wc rr ab dx ox ss 0 sp dy ly := h
  have hb : vp_in (o2 (12 * pr x.toNatClampNeg + pc x.toNatClampNeg).toNatClampNeg) 3 := (hg.2.2.2.2.2.2.2.1 e).2
  have j1 := fd_3' hx hb
  have j2 := fd_3 hx hb
  obtain ⟨n, u, v, h1, h2, ⟨rc', cc', sl', nw', no', ops', o1', o2', o3', sz', st', pr', pc', rg', wk', jn', sd', br', io', cp', cl', hd', ct', wt', wc', rr', ab', dx', ox', ss', yy', sp', dy', ly', rfl, rfl, K1, _, fr, eab, eyy⟩⟩ := fd_launch (p := o1 (12 * pr x.toNatClampNeg + pc x.toNatClampNeg).toNatClampNeg) (v := rg (3 * x.toNatClampNeg + (o2 (12 * pr x.toNatClampNeg + pc x.toNatClampNeg).toNatClampNeg).toNatClampNeg)) (hg.2.2.2.2.2.2.2.1 e).1 (by omega) h0
  have f := fr x.toNatClampNeg hr.2.1
  have K2 := fd_K_own (rg' := upd rg' (3 * x.toNatClampNeg + (o2 (12 * pr x.toNatClampNeg + pc x.toNatClampNeg).toNatClampNeg).toNatClampNeg) n) (pc' := upd pc' x.toNatClampNeg (pc x.toNatClampNeg + 1)) K1 hx f.1 (fd_agr_u (fd_lt hb)) fd_ag_u (by rw [pk_us]; exact hpi)
  have R2 : fd_RS (B + 1) (s + 200) k0 ab 0 (rc', cc', sl', nw', no', ops', o1', o2', o3', sz', st', pr', upd pc' x.toNatClampNeg (pc x.toNatClampNeg + 1), upd rg' (3 * x.toNatClampNeg + (o2 (12 * pr x.toNatClampNeg + pc x.toNatClampNeg).toNatClampNeg).toNatClampNeg) n, wk', jn', sd', br', io', cp', cl', hd', ct', wt', wc', rr', ab', dx', ox') (cc', sl', nw', no', ss', yy', ops', o1', o2', o3', sz', st', pr', upd pc' x.toNatClampNeg (pc x.toNatClampNeg + 1), upd rg' (3 * x.toNatClampNeg + (o2 (12 * pr x.toNatClampNeg + pc x.toNatClampNeg).toNatClampNeg).toNatClampNeg) n, wk', sp', cp', cl', hd', ct', ab', dy', ly') := by rw [← eab, ← eyy]; exact fd_K_Rel0 K2 _ _ (by omega) (by omega)
  exact ⟨_, _, fun post H => And.intro hx ⟨hx, hp7, br_t lt ⟨hx, hx, nm_r (e' := (12 * pr x.toNatClampNeg + pc x.toNatClampNeg)) (by rw [Int32.mul_comm]) ⟨hk, nm_e ⟨hk, nm_e (nm_e ⟨hk, nm_r e (br_f (by decide) (br_f (by decide) (br_f (by decide) (br_f (by decide) (br_f (by decide) (br_f (by decide) (br_f (by decide) (br_f (by decide) (br_f (by decide) (br_f (by decide) (br_f (by decide) (br_t rfl (⟨j1.1, by rw [j1.2]; exact h1 _ ⟨j1.1, nm_e ⟨hx, hx, nm_r (by rw [f.2]) H⟩⟩⟩)))))))))))))⟩)⟩⟩⟩⟩, fun post H => And.intro hx (nm_e (And.intro hx (And.intro hx ⟨hx, hp7, br_t lt ⟨hk, nm_e ⟨hk, nm_e ⟨hk, nm_r e (br_f (by decide) (br_f (by decide) (br_f (by decide) (br_f (by decide) (br_f (by decide) (br_t rfl (And.intro hk (nm_e ⟨hk, nm_e (nm_e ⟨hx, nm_e ⟨hk, nm_r e (br_f (by decide) (br_f (by decide) (br_f (by decide) (br_f (by decide) (br_f (by decide) (br_f (by decide) (br_f (by decide) (br_f (by decide) (br_f (by decide) (br_f (by decide) (br_f (by decide) (br_t rfl (⟨j2.1, by rw [j2.2]; exact h2 _ ⟨j2.1, nm_e ⟨hx, nm_e H⟩⟩⟩)))))))))))))⟩⟩)⟩))))))))⟩⟩⟩⟩))), Or.inl R2⟩
theorem fd_op10 {x : Int32} (hh : fd_hd ops o1 o2 o3 sz st pr pc ab k0 x) (e : ops (12 * pr x.toNatClampNeg + pc x.toNatClampNeg).toNatClampNeg = 10) (hs : s + 200 < 2 ^ 62) (hB : B < 2 ^ 30) (h : fd_K B s k0 rc cc sl nw no ops o1 o2 o3 sz st pr pc rg wk jn sd br io cp cl hd ct wt wc rr ab dx ox ss yy sp dy ly) : fd_Do (fun post => wpX_perform post (rc, cc, sl, nw, no, ops, o1, o2, o3, sz, st, pr, pc, rg, wk, jn, sd, br, io, cp, cl, hd, ct, wt, wc, rr, ab, dx, ox) x) (fun post => wpY_step post (cc, sl, nw, no, ss, yy, ops, o1, o2, o3, sz, st, pr, pc, rg, wk, sp, cp, cl, hd, ct, ab, dy, ly) x) (fd_SQ B s k0 ab x) := by
  obtain ⟨hr, hp6, hpc, hk, ek, lt, hg⟩ := hh
  have hx := hr.1
  have hp7 := fd_mono hp6 (show 6 ≤ 7 by omega)
  have hpi := (fd_inc hpc (by omega)).1
  have h0 : fd_K B s k0 rc cc sl nw no ops o1 o2 o3 sz st pr pc rg wk jn sd br io cp cl hd ct wt wc rr ab dx ox ss 0 sp dy ly := h
  have hg' := hg
  rw [← ek] at hg'
  have e' := e
  rw [← ek] at e'
  have ha : vp_in (o1 (12 * pr x.toNatClampNeg + pc x.toNatClampNeg).toNatClampNeg) 3 := (hg.2.2.1 (Or.inr e)).1
  have i1 := fd_3' hx ha
  have i2 := fd_3 hx ha
  obtain ⟨u, v, h1, h2, ⟨rc', cc', sl', nw', no', ops', o1', o2', o3', sz', st', pr', pc', rg', wk', jn', sd', br', io', cp', cl', hd', ct', wt', wc', rr', ab', dx', ox', ss', yy', sp', dy', ly', rfl, rfl, hq⟩⟩ := fd_join (t := rg (3 * x.toNatClampNeg + (o1 (12 * pr x.toNatClampNeg + pc x.toNatClampNeg).toNatClampNeg).toNatClampNeg)) (b := o2 (12 * pr x.toNatClampNeg + pc x.toNatClampNeg).toNatClampNeg) hr hpc hg' e' (by rw [ek]) (by rw [ek]) hs h0
  exact ⟨_, _, fun post H => And.intro hx ⟨hx, hp7, br_t lt ⟨hx, hx, nm_r (e' := (12 * pr x.toNatClampNeg + pc x.toNatClampNeg)) (by rw [Int32.mul_comm]) ⟨hk, nm_e ⟨hk, nm_e (nm_e ⟨hk, nm_r e (br_f (by decide) (br_f (by decide) (br_f (by decide) (br_f (by decide) (br_f (by decide) (br_f (by decide) (br_f (by decide) (br_f (by decide) (br_f (by decide) (br_f (by decide) (br_f (by decide) (br_f (by decide) (br_t rfl (⟨i1.1, by rw [i1.2]; exact h1 _ H⟩))))))))))))))⟩)⟩⟩⟩⟩, fun post H => And.intro hx (nm_e (And.intro hx (And.intro hx ⟨hx, hp7, br_t lt ⟨hk, nm_e ⟨hk, nm_e ⟨hk, nm_r e (br_f (by decide) (br_f (by decide) (br_f (by decide) (br_f (by decide) (br_f (by decide) (br_f (by decide) (br_t rfl (⟨i2.1, by rw [i2.2]; exact h2 _ H⟩))))))))⟩⟩⟩⟩))), Or.inl (fd_Rel_0 ⟨rc', cc', sl', nw', no', ops', o1', o2', o3', sz', st', pr', pc', rg', wk', jn', sd', br', io', cp', cl', hd', ct', wt', wc', rr', ab', dx', ox', ss', yy', sp', dy', ly', rfl, rfl, hq⟩ _ _ (by omega) (by omega))⟩
theorem fd_op11 {x : Int32} (hh : fd_hd ops o1 o2 o3 sz st pr pc ab k0 x) (e : ops (12 * pr x.toNatClampNeg + pc x.toNatClampNeg).toNatClampNeg = 11) (hs : s + 200 < 2 ^ 62) (hB : B < 2 ^ 30) (h : fd_K B s k0 rc cc sl nw no ops o1 o2 o3 sz st pr pc rg wk jn sd br io cp cl hd ct wt wc rr ab dx ox ss yy sp dy ly) : fd_Do (fun post => wpX_perform post (rc, cc, sl, nw, no, ops, o1, o2, o3, sz, st, pr, pc, rg, wk, jn, sd, br, io, cp, cl, hd, ct, wt, wc, rr, ab, dx, ox) x) (fun post => wpY_step post (cc, sl, nw, no, ss, yy, ops, o1, o2, o3, sz, st, pr, pc, rg, wk, sp, cp, cl, hd, ct, ab, dy, ly) x) (fd_SQ B s k0 ab x) := by
  obtain ⟨hr, hp6, hpc, hk, ek, lt, hg⟩ := hh
  have hx := hr.1
  have hp7 := fd_mono hp6 (show 6 ≤ 7 by omega)
  have hpi := (fd_inc hpc (by omega)).1
  have h0 : fd_K B s k0 rc cc sl nw no ops o1 o2 o3 sz st pr pc rg wk jn sd br io cp cl hd ct wt wc rr ab dx ox ss 0 sp dy ly := h
  obtain ⟨u, v, h1, h2, ⟨rc', cc', sl', nw', no', ops', o1', o2', o3', sz', st', pr', pc', rg', wk', jn', sd', br', io', cp', cl', hd', ct', wt', wc', rr', ab', dx', ox', ss', yy', sp', dy', ly', rfl, rfl, K1, _, fr, eab, eyy⟩⟩ := fd_close (y := o1 (12 * pr x.toNatClampNeg + pc x.toNatClampNeg).toNatClampNeg) (hg.2.2.2.2.2.2.2.2 e) (by omega) h0
  have f := fr x.toNatClampNeg hr.2.1
  have K2 := fd_K_own (rg' := rg') (pc' := upd pc' x.toNatClampNeg (pc x.toNatClampNeg + 1)) K1 hx f.1 fd_agr_r fd_ag_u (by rw [pk_us]; exact hpi)
  have R2 : fd_RS (B + 1) (s + 200) k0 ab 0 (rc', cc', sl', nw', no', ops', o1', o2', o3', sz', st', pr', upd pc' x.toNatClampNeg (pc x.toNatClampNeg + 1), rg', wk', jn', sd', br', io', cp', cl', hd', ct', wt', wc', rr', ab', dx', ox') (cc', sl', nw', no', ss', yy', ops', o1', o2', o3', sz', st', pr', upd pc' x.toNatClampNeg (pc x.toNatClampNeg + 1), rg', wk', sp', cp', cl', hd', ct', ab', dy', ly') := by rw [← eab, ← eyy]; exact fd_K_Rel0 K2 _ _ (by omega) (by omega)
  exact ⟨_, _, fun post H => And.intro hx ⟨hx, hp7, br_t lt ⟨hx, hx, nm_r (e' := (12 * pr x.toNatClampNeg + pc x.toNatClampNeg)) (by rw [Int32.mul_comm]) ⟨hk, nm_e ⟨hk, nm_e (nm_e ⟨hk, nm_r e (br_f (by decide) (br_f (by decide) (br_f (by decide) (br_f (by decide) (br_f (by decide) (br_f (by decide) (br_f (by decide) (br_f (by decide) (br_f (by decide) (br_f (by decide) (br_f (by decide) (br_f (by decide) (br_f (by decide) (br_t rfl (h1 _ ⟨hx, hx, nm_r (by rw [f.2]) H⟩)))))))))))))))⟩)⟩⟩⟩⟩, fun post H => And.intro hx (nm_e (And.intro hx (And.intro hx ⟨hx, hp7, br_t lt ⟨hk, nm_e ⟨hk, nm_e ⟨hk, nm_r e (br_f (by decide) (br_f (by decide) (br_f (by decide) (br_f (by decide) (br_f (by decide) (br_f (by decide) (br_f (by decide) (br_t rfl (And.intro hk (nm_e ⟨hk, nm_e (nm_e ⟨hx, nm_e ⟨hk, nm_r e (br_f (by decide) (br_f (by decide) (br_f (by decide) (br_f (by decide) (br_f (by decide) (br_f (by decide) (br_f (by decide) (br_f (by decide) (br_f (by decide) (br_f (by decide) (br_f (by decide) (br_f (by decide) (br_f (by decide) (br_t rfl (h2 _ ⟨hx, nm_e H⟩)))))))))))))))⟩⟩)⟩))))))))))⟩⟩⟩⟩))), Or.inl R2⟩
theorem fd_op12 {x : Int32} (hh : fd_hd ops o1 o2 o3 sz st pr pc ab k0 x) (e : ops (12 * pr x.toNatClampNeg + pc x.toNatClampNeg).toNatClampNeg = 12) (hs : s + 200 < 2 ^ 62) (hB : B < 2 ^ 30) (h : fd_K B s k0 rc cc sl nw no ops o1 o2 o3 sz st pr pc rg wk jn sd br io cp cl hd ct wt wc rr ab dx ox ss yy sp dy ly) : fd_Do (fun post => wpX_perform post (rc, cc, sl, nw, no, ops, o1, o2, o3, sz, st, pr, pc, rg, wk, jn, sd, br, io, cp, cl, hd, ct, wt, wc, rr, ab, dx, ox) x) (fun post => wpY_step post (cc, sl, nw, no, ss, yy, ops, o1, o2, o3, sz, st, pr, pc, rg, wk, sp, cp, cl, hd, ct, ab, dy, ly) x) (fd_SQ B s k0 ab x) := by
  obtain ⟨hr, hp6, hpc, hk, ek, lt, hg⟩ := hh
  have hx := hr.1
  have hp7 := fd_mono hp6 (show 6 ≤ 7 by omega)
  have hpi := (fd_inc hpc (by omega)).1
  have h0 : fd_K B s k0 rc cc sl nw no ops o1 o2 o3 sz st pr pc rg wk jn sd br io cp cl hd ct wt wc rr ab dx ox ss 0 sp dy ly := h
  have ha : vp_in (o1 (12 * pr x.toNatClampNeg + pc x.toNatClampNeg).toNatClampNeg) 3 := hg.2.1 (Or.inr (Or.inr e))
  have i1 := fd_3' hx ha
  have i2 := fd_3 hx ha
  obtain ⟨n, hnB, en, hO⟩ := h.2.2.2.2.2.2.1
  have K0 := fd_K_out (v := rg (3 * x.toNatClampNeg + (o1 (12 * pr x.toNatClampNeg + pc x.toNatClampNeg).toNatClampNeg).toNatClampNeg)) en hnB hO h0
  have K1 := fd_K_own (rg' := rg) (pc' := upd pc x.toNatClampNeg (pc x.toNatClampNeg + 1)) K0 hx hr.2.1 fd_agr_r fd_ag_u (by rw [pk_us]; exact hpi)
  refine ⟨_, _, fun post H => And.intro hx ⟨hx, hp7, br_t lt ⟨hx, hx, nm_r (e' := (12 * pr x.toNatClampNeg + pc x.toNatClampNeg)) (by rw [Int32.mul_comm]) ⟨hk, nm_e ⟨hk, nm_e (nm_e ⟨hk, nm_r e (br_f (by decide) (br_f (by decide) (br_f (by decide) (br_f (by decide) (br_f (by decide) (br_f (by decide) (br_f (by decide) (br_f (by decide) (br_f (by decide) (br_f (by decide) (br_f (by decide) (br_f (by decide) (br_f (by decide) (br_f (by decide) (br_t rfl (⟨i1.1, by rw [i1.2]; exact fd_X_out (by omega) en ⟨hx, hx, nm_e H⟩⟩))))))))))))))))⟩)⟩⟩⟩⟩, fun post H => And.intro hx (nm_e (And.intro hx (And.intro hx ⟨hx, hp7, br_t lt ⟨hk, nm_e ⟨hk, nm_e ⟨hk, nm_r e (br_f (by decide) (br_f (by decide) (br_f (by decide) (br_f (by decide) (br_f (by decide) (br_f (by decide) (br_f (by decide) (br_f (by decide) (br_t rfl (And.intro hk (nm_e ⟨hk, nm_e (nm_e ⟨hx, nm_e ⟨hk, nm_r e (br_f (by decide) (br_t (by decide) (⟨16, ?_⟩)))⟩⟩)⟩)))))))))))⟩⟩⟩⟩))), Or.inl (fd_K_Rel0 K1 _ _ (Nat.le_refl _) (by omega))⟩
  have q := fd_Y_out (post := post) (x := x) (x5 := 3 * x + o1 (12 * pr x.toNatClampNeg + pc x.toNatClampNeg).toNatClampNeg) (x6 := pc x.toNatClampNeg + 1) (cc := cc) (sl := sl) (nw := nw) (no := no) (ss := ss) (yy := 0) (ops := ops) (o1 := o1) (o2 := o2) (o3 := o3) (sz := sz) (st := st) (pr := pr) (pc := pc) (rg := rg) (wk := wk) (sp := sp) (cp := cp) (cl := cl) (hd := hd) (ct := ct) (ab := ab) (dy := dy) (ly := ly) hx i2.1 (by rw [i2.2]; exact H) 15 (Nat.le_refl 15)
  rw [fd_lr_15] at q
  exact q
theorem fd_op13 {x : Int32} (hh : fd_hd ops o1 o2 o3 sz st pr pc ab k0 x) (e : ops (12 * pr x.toNatClampNeg + pc x.toNatClampNeg).toNatClampNeg = 13) (hs : s + 200 < 2 ^ 62) (hB : B < 2 ^ 30) (h : fd_K B s k0 rc cc sl nw no ops o1 o2 o3 sz st pr pc rg wk jn sd br io cp cl hd ct wt wc rr ab dx ox ss yy sp dy ly) : fd_Do (fun post => wpX_perform post (rc, cc, sl, nw, no, ops, o1, o2, o3, sz, st, pr, pc, rg, wk, jn, sd, br, io, cp, cl, hd, ct, wt, wc, rr, ab, dx, ox) x) (fun post => wpY_step post (cc, sl, nw, no, ss, yy, ops, o1, o2, o3, sz, st, pr, pc, rg, wk, sp, cp, cl, hd, ct, ab, dy, ly) x) (fd_SQ B s k0 ab x) := by
  obtain ⟨hr, hp6, hpc, hk, ek, lt, hg⟩ := hh
  have hx := hr.1
  have hp7 := fd_mono hp6 (show 6 ≤ 7 by omega)
  have hpi := (fd_inc hpc (by omega)).1
  have h0 : fd_K B s k0 rc cc sl nw no ops o1 o2 o3 sz st pr pc rg wk jn sd br io cp cl hd ct wt wc rr ab dx ox ss 0 sp dy ly := h
  obtain ⟨u, v, h1, h2, ⟨rc', cc', sl', nw', no', ops', o1', o2', o3', sz', st', pr', pc', rg', wk', jn', sd', br', io', cp', cl', hd', ct', wt', wc', rr', ab', dx', ox', ss', yy', sp', dy', ly', rfl, rfl, hq⟩⟩ := fd_finish (Or.inl rfl) hx (by omega) (fd_K_end (e := 5) h0 hr (Or.inl rfl))
  exact ⟨_, _, fun post H => And.intro hx ⟨hx, hp7, br_t lt ⟨hx, hx, nm_r (e' := (12 * pr x.toNatClampNeg + pc x.toNatClampNeg)) (by rw [Int32.mul_comm]) ⟨hk, nm_e ⟨hk, nm_e (nm_e ⟨hk, nm_r e (br_f (by decide) (br_t (by decide) (h1 _ H)))⟩)⟩⟩⟩⟩, fun post H => And.intro hx (nm_e (And.intro hx (And.intro hx ⟨hx, hp7, br_t lt ⟨hk, nm_e ⟨hk, nm_e ⟨hk, nm_r e (br_f (by decide) (br_f (by decide) (br_f (by decide) (br_f (by decide) (br_f (by decide) (br_f (by decide) (br_f (by decide) (br_f (by decide) (br_f (by decide) (br_t rfl (h2 _ H)))))))))))⟩⟩⟩⟩))), Or.inl (fd_Rel_0 ⟨rc', cc', sl', nw', no', ops', o1', o2', o3', sz', st', pr', pc', rg', wk', jn', sd', br', io', cp', cl', hd', ct', wt', wc', rr', ab', dx', ox', ss', yy', sp', dy', ly', rfl, rfl, hq⟩ _ _ (by omega) (by omega))⟩
theorem fd_opE {x : Int32} (hr : fd_run k0 st ab x) (lt : ¬ pc x.toNatClampNeg < sz (pr x.toNatClampNeg).toNatClampNeg) (hs : s + 200 < 2 ^ 62) (h : fd_K B s k0 rc cc sl nw no ops o1 o2 o3 sz st pr pc rg wk jn sd br io cp cl hd ct wt wc rr ab dx ox ss yy sp dy ly) : fd_Do (fun post => wpX_perform post (rc, cc, sl, nw, no, ops, o1, o2, o3, sz, st, pr, pc, rg, wk, jn, sd, br, io, cp, cl, hd, ct, wt, wc, rr, ab, dx, ox) x) (fun post => wpY_step post (cc, sl, nw, no, ss, yy, ops, o1, o2, o3, sz, st, pr, pc, rg, wk, sp, cp, cl, hd, ct, ab, dy, ly) x) (fd_SQ B s k0 ab x) := by
  have hx := hr.1
  have hp7 := fd_mono ((h.2.1 x.toNatClampNeg (fd_lt hx)).1 (Or.inr (Or.inl hr.2.1))).1 (show 6 ≤ 7 by omega)
  have h0 : fd_K B s k0 rc cc sl nw no ops o1 o2 o3 sz st pr pc rg wk jn sd br io cp cl hd ct wt wc rr ab dx ox ss 0 sp dy ly := h
  obtain ⟨u, v, h1, h2, ⟨rc', cc', sl', nw', no', ops', o1', o2', o3', sz', st', pr', pc', rg', wk', jn', sd', br', io', cp', cl', hd', ct', wt', wc', rr', ab', dx', ox', ss', yy', sp', dy', ly', rfl, rfl, hq⟩⟩ := fd_finish (Or.inl rfl) hx (by omega) (fd_K_end (e := 5) h0 hr (Or.inl rfl))
  exact ⟨_, _, fun post H => And.intro hx ⟨hx, hp7, br_f lt (h1 _ H)⟩, fun post H => And.intro hx (nm_e (And.intro hx (And.intro hx ⟨hx, hp7, br_f lt (h2 _ H)⟩))), Or.inl (fd_Rel_0 ⟨rc', cc', sl', nw', no', ops', o1', o2', o3', sz', st', pr', pc', rg', wk', jn', sd', br', io', cp', cl', hd', ct', wt', wc', rr', ab', dx', ox', ss', yy', sp', dy', ly', rfl, rfl, hq⟩ _ _ (by omega) (by omega))⟩
theorem fd_step {x : Int32} (hr : fd_run k0 st ab x) (hs : s + 200 < 2 ^ 62) (hB : B < 2 ^ 30) (h : fd_K B s k0 rc cc sl nw no ops o1 o2 o3 sz st pr pc rg wk jn sd br io cp cl hd ct wt wc rr ab dx ox ss yy sp dy ly) : fd_Do (fun post => wpX_perform post (rc, cc, sl, nw, no, ops, o1, o2, o3, sz, st, pr, pc, rg, wk, jn, sd, br, io, cp, cl, hd, ct, wt, wc, rr, ab, dx, ox) x) (fun post => wpY_step post (cc, sl, nw, no, ss, yy, ops, o1, o2, o3, sz, st, pr, pc, rg, wk, sp, cp, cl, hd, ct, ab, dy, ly) x) (fd_SQ B s k0 ab x) := by
  have hx := hr.1
  obtain ⟨hp6, hp13⟩ := (h.2.1 x.toNatClampNeg (fd_lt hx)).1 (Or.inr (Or.inl hr.2.1))
  by_cases lt : pc x.toNatClampNeg < sz (pr x.toNatClampNeg).toNatClampNeg
  · have ix := fd_p12 hp6 hp13
    have p6 := fd_lt hp6
    obtain ⟨z13, zg⟩ := h.1 (pr x.toNatClampNeg).toNatClampNeg (by omega)
    have l2 : (pc x.toNatClampNeg).toNatClampNeg < (sz (pr x.toNatClampNeg).toNatClampNeg).toNatClampNeg := by
      have q := lt
      rw [fd_eq hp13, fd_eq z13, nI_ltI (by have := fd_lt hp13; omega) (by have := fd_lt z13; omega)] at q
      exact q
    have hpc : vp_in (pc x.toNatClampNeg) 12 := fd_mk (fd_nn hp13) (by have := fd_lt z13; omega)
    have hg := zg _ l2
    rw [← ix.2] at hg
    have hh : fd_hd ops o1 o2 o3 sz st pr pc ab k0 x := ⟨hr, hp6, hpc, ix.1, ix.2.symm, lt, hg⟩
    obtain ⟨j, hj, e⟩ := vp_in_of hg.1 (by omega)
    rcases (by omega : j = 0 ∨ j = 1 ∨ j = 2 ∨ j = 3 ∨ j = 4 ∨ j = 5 ∨ j = 6 ∨ j = 7 ∨ j = 8 ∨ j = 9 ∨ j = 10 ∨ j = 11 ∨ j = 12 ∨ j = 13) with q | q | q | q | q | q | q | q | q | q | q | q | q | q <;> subst q
    · exact fd_op0 hh e hs hB h
    · exact fd_op1 hh e hs hB h
    · exact fd_op2 hh e hs hB h
    · exact fd_op3 hh e hs hB h
    · exact fd_op4 hh e hs hB h
    · exact fd_op5 hh e hs hB h
    · exact fd_op6 hh e hs hB h
    · exact fd_op7 hh e hs hB h
    · exact fd_op8 hh e hs hB h
    · exact fd_op9 hh e hs hB h
    · exact fd_op10 hh e hs hB h
    · exact fd_op11 hh e hs hB h
    · exact fd_op12 hh e hs hB h
    · exact fd_op13 hh e hs hB h
  · exact fd_opE hr lt hs h
end
