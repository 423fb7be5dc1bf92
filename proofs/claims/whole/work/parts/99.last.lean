def i_Rel (k : Nat) (u : SX) (v : SY) : Prop := fd_RR (2000 * k) (1000000 * k) u v
theorem i_up {k : Nat} {u : SX} {v : SY} (h : i_Rel k u v) : i_Rel (k + 5) u v := fd_RR_m h (by omega) (by omega)
theorem i_vc0 (k0 : Int32) : wpX_init (fun u => wpY_init (fun v => i_Rel 1 u v) k0) k0 := by
  obtain ⟨u, v, h1, h2, h3⟩ := fd_init (2000 * 1) (1000000 * 1) k0
  exact h1 _ (h2 _ h3)
theorem i_vc_code {k : Nat} {u : SX} {v : SY} (I : i_Rel k u v) (hk : k + 5 ≤ 2561) (v1 : Int32) (v2 : Int32) (v3 : Int32) (v4 : Int32) : wpX_code (fun r u' => wpY_code (fun r' v' => r' = r ∧ i_Rel (k + 5) u' v') v v1 v2 v3 v4) u v1 v2 v3 v4 := by
  obtain ⟨rc, cc, sl, nw, no, ops, o1, o2, o3, sz, st, pr, pc, rg, wk, jn, sd, br, io, cp, cl, hd, ct, wt, wc, rr, ab, dx, ox, ss, yy, sp, dy, ly, rfl, rfl, K⟩ := I
  obtain ⟨r, u', v', h1, h2, h3⟩ := fd_code (op := v1) (a := v2) (b := v3) (c := v4) K
  exact h1 _ (h2 _ ⟨rfl, fd_RR_m h3 (by omega) (by omega)⟩)
theorem i_vc_program {k : Nat} {u : SX} {v : SY} (I : i_Rel k u v) (hk : k + 5 ≤ 2561) (v1 : Int32) : wpX_program (fun r u' => wpY_program (fun r' v' => r' = r ∧ i_Rel (k + 5) u' v') v v1) u v1 := by
  obtain ⟨rc, cc, sl, nw, no, ops, o1, o2, o3, sz, st, pr, pc, rg, wk, jn, sd, br, io, cp, cl, hd, ct, wt, wc, rr, ab, dx, ox, ss, yy, sp, dy, ly, rfl, rfl, K⟩ := I
  obtain ⟨r, u', v', h1, h2, h3⟩ := fd_program (p := v1) K
  exact h1 _ (h2 _ ⟨rfl, fd_RR_m h3 (by omega) (by omega)⟩)
theorem i_vc_channel {k : Nat} {u : SX} {v : SY} (I : i_Rel k u v) (hk : k + 5 ≤ 2561) (v1 : Int32) (v2 : Int32) : wpX_channel (fun r u' => wpY_channel (fun r' v' => r' = r ∧ i_Rel (k + 5) u' v') v v1 v2) u v1 v2 := by
  obtain ⟨rc, cc, sl, nw, no, ops, o1, o2, o3, sz, st, pr, pc, rg, wk, jn, sd, br, io, cp, cl, hd, ct, wt, wc, rr, ab, dx, ox, ss, yy, sp, dy, ly, rfl, rfl, K⟩ := I
  obtain ⟨r, u', v', h1, h2, h3⟩ := fd_channel (c := v1) (p := v2) K
  exact h1 _ (h2 _ ⟨rfl, fd_RR_m h3 (by omega) (by omega)⟩)
theorem i_vc_slice {k : Nat} {u : SX} {v : SY} (I : i_Rel k u v) (hk : k + 5 ≤ 2561) (v1 : Int32) : wpX_slice (fun r u' => wpY_slice (fun r' v' => r' = r ∧ i_Rel (k + 5) u' v') v v1) u v1 := by
  obtain ⟨rc, cc, sl, nw, no, ops, o1, o2, o3, sz, st, pr, pc, rg, wk, jn, sd, br, io, cp, cl, hd, ct, wt, wc, rr, ab, dx, ox, ss, yy, sp, dy, ly, rfl, rfl, K⟩ := I
  obtain ⟨r, u', v', h1, h2, h3⟩ := fd_slice (n := v1) K
  exact h1 _ (h2 _ ⟨rfl, fd_RR_m h3 (by omega) (by omega)⟩)
theorem i_vc_start {k : Nat} {u : SX} {v : SY} (I : i_Rel k u v) (hk : k + 5 ≤ 2561) (v1 : Int32) (v2 : Int32) : wpX_start (fun r u' => wpY_start (fun r' v' => r' = r ∧ i_Rel (k + 5) u' v') v v1 v2) u v1 v2 := by
  obtain ⟨rc, cc, sl, nw, no, ops, o1, o2, o3, sz, st, pr, pc, rg, wk, jn, sd, br, io, cp, cl, hd, ct, wt, wc, rr, ab, dx, ox, ss, yy, sp, dy, ly, rfl, rfl, K⟩ := I
  obtain ⟨r, u', v', h1, h2, h3⟩ := fd_start (p := v1) (v := v2) (by omega) K
  exact h1 _ (h2 _ ⟨rfl, fd_RR_m h3 (by omega) (by omega)⟩)
theorem i_vc_run {k : Nat} {u : SX} {v : SY} (I : i_Rel k u v) (hk : k + 5 ≤ 2561) (v1 : Int32) : wpX_run (fun r u' => wpY_run (fun r' v' => r' = r ∧ i_Rel (k + 5) u' v') v v1) u v1 := by
  obtain ⟨rc, cc, sl, nw, no, ops, o1, o2, o3, sz, st, pr, pc, rg, wk, jn, sd, br, io, cp, cl, hd, ct, wt, wc, rr, ab, dx, ox, ss, yy, sp, dy, ly, rfl, rfl, K⟩ := I
  obtain ⟨r, u', v', h1, h2, h3⟩ := fd_runs (n := v1) (by omega) (by omega) K
  exact h1 _ (h2 _ ⟨rfl, fd_RR_m h3 (by omega) (by omega)⟩)
theorem i_vc_state {k : Nat} {u : SX} {v : SY} (I : i_Rel k u v) (hk : k + 5 ≤ 2561) (v1 : Int32) : wpX_state (fun r => wpY_state (fun r' => r' = r ∧ i_Rel (k + 5) u v) v v1) u v1 := by
  obtain ⟨rc, cc, sl, nw, no, ops, o1, o2, o3, sz, st, pr, pc, rg, wk, jn, sd, br, io, cp, cl, hd, ct, wt, wc, rr, ab, dx, ox, ss, yy, sp, dy, ly, rfl, rfl, K⟩ := I
  obtain ⟨r, h1, h2⟩ := fd_state (rc := rc) (cc := cc) (sl := sl) (nw := nw) (no := no) (ops := ops) (o1 := o1) (o2 := o2) (o3 := o3) (sz := sz) (st := st) (pr := pr) (pc := pc) (rg := rg) (wk := wk) (jn := jn) (sd := sd) (br := br) (io := io) (cp := cp) (cl := cl) (hd := hd) (ct := ct) (wt := wt) (wc := wc) (rr := rr) (ab := ab) (dx := dx) (ox := ox) (ss := ss) (yy := yy) (sp := sp) (dy := dy) (ly := ly) (f := v1)
  exact h1 _ (h2 _ ⟨rfl, ⟨rc, cc, sl, nw, no, ops, o1, o2, o3, sz, st, pr, pc, rg, wk, jn, sd, br, io, cp, cl, hd, ct, wt, wc, rr, ab, dx, ox, ss, yy, sp, dy, ly, rfl, rfl, fd_K_m K (by omega) (by omega)⟩⟩)
theorem i_vc_of {k : Nat} {u : SX} {v : SY} (I : i_Rel k u v) (hk : k + 5 ≤ 2561) (v1 : Int32) (v2 : Int32) : wpX_of (fun r => wpY_of (fun r' => r' = r ∧ i_Rel (k + 5) u v) v v1 v2) u v1 v2 := by
  obtain ⟨rc, cc, sl, nw, no, ops, o1, o2, o3, sz, st, pr, pc, rg, wk, jn, sd, br, io, cp, cl, hd, ct, wt, wc, rr, ab, dx, ox, ss, yy, sp, dy, ly, rfl, rfl, K⟩ := I
  obtain ⟨r, h1, h2⟩ := fd_ofs (rc := rc) (cc := cc) (sl := sl) (nw := nw) (no := no) (ops := ops) (o1 := o1) (o2 := o2) (o3 := o3) (sz := sz) (st := st) (pr := pr) (pc := pc) (rg := rg) (wk := wk) (jn := jn) (sd := sd) (br := br) (io := io) (cp := cp) (cl := cl) (hd := hd) (ct := ct) (wt := wt) (wc := wc) (rr := rr) (ab := ab) (dx := dx) (ox := ox) (ss := ss) (yy := yy) (sp := sp) (dy := dy) (ly := ly) (f := v1) (w := v2)
  exact h1 _ (h2 _ ⟨rfl, ⟨rc, cc, sl, nw, no, ops, o1, o2, o3, sz, st, pr, pc, rg, wk, jn, sd, br, io, cp, cl, hd, ct, wt, wc, rr, ab, dx, ox, ss, yy, sp, dy, ly, rfl, rfl, fd_K_m K (by omega) (by omega)⟩⟩)
theorem i_vc_row {k : Nat} {u : SX} {v : SY} (I : i_Rel k u v) (hk : k + 5 ≤ 2561) (v1 : Int32) : wpX_row (fun r => wpY_row (fun r' => r' = r ∧ i_Rel (k + 5) u v) v v1) u v1 := by
  obtain ⟨rc, cc, sl, nw, no, ops, o1, o2, o3, sz, st, pr, pc, rg, wk, jn, sd, br, io, cp, cl, hd, ct, wt, wc, rr, ab, dx, ox, ss, yy, sp, dy, ly, rfl, rfl, K⟩ := I
  obtain ⟨r, h1, h2⟩ := fd_row (k := v1) K
  exact h1 _ (h2 _ ⟨rfl, ⟨rc, cc, sl, nw, no, ops, o1, o2, o3, sz, st, pr, pc, rg, wk, jn, sd, br, io, cp, cl, hd, ct, wt, wc, rr, ab, dx, ox, ss, yy, sp, dy, ly, rfl, rfl, fd_K_m K (by omega) (by omega)⟩⟩)
theorem i_vc_carrier {k : Nat} {u : SX} {v : SY} (I : i_Rel k u v) (hk : k + 5 ≤ 2561) (v1 : Int32) : wpX_carrier (fun r => wpY_carrier (fun r' => r' = r ∧ i_Rel (k + 5) u v) v v1) u v1 := by
  obtain ⟨rc, cc, sl, nw, no, ops, o1, o2, o3, sz, st, pr, pc, rg, wk, jn, sd, br, io, cp, cl, hd, ct, wt, wc, rr, ab, dx, ox, ss, yy, sp, dy, ly, rfl, rfl, K⟩ := I
  obtain ⟨r, h1, h2⟩ := fd_carrier (k := v1) K
  exact h1 _ (h2 _ ⟨rfl, ⟨rc, cc, sl, nw, no, ops, o1, o2, o3, sz, st, pr, pc, rg, wk, jn, sd, br, io, cp, cl, hd, ct, wt, wc, rr, ab, dx, ox, ss, yy, sp, dy, ly, rfl, rfl, fd_K_m K (by omega) (by omega)⟩⟩)
theorem i_vc_held {k : Nat} {u : SX} {v : SY} (I : i_Rel k u v) (hk : k + 5 ≤ 2561) (v1 : Int32) (v2 : Int32) : wpX_held (fun r => wpY_held (fun r' => r' = r ∧ i_Rel (k + 5) u v) v v1 v2) u v1 v2 := by
  obtain ⟨rc, cc, sl, nw, no, ops, o1, o2, o3, sz, st, pr, pc, rg, wk, jn, sd, br, io, cp, cl, hd, ct, wt, wc, rr, ab, dx, ox, ss, yy, sp, dy, ly, rfl, rfl, K⟩ := I
  obtain ⟨r, h1, h2⟩ := fd_held (c := v1) (k := v2) K
  exact h1 _ (h2 _ ⟨rfl, ⟨rc, cc, sl, nw, no, ops, o1, o2, o3, sz, st, pr, pc, rg, wk, jn, sd, br, io, cp, cl, hd, ct, wt, wc, rr, ab, dx, ox, ss, yy, sp, dy, ly, rfl, rfl, fd_K_m K (by omega) (by omega)⟩⟩)
theorem i_vc_waits {k : Nat} {u : SX} {v : SY} (I : i_Rel k u v) (hk : k + 5 ≤ 2561) (v1 : Int32) (v2 : Int32) : wpX_waits (fun r => wpY_waits (fun r' => r' = r ∧ i_Rel (k + 5) u v) v v1 v2) u v1 v2 := by
  obtain ⟨rc, cc, sl, nw, no, ops, o1, o2, o3, sz, st, pr, pc, rg, wk, jn, sd, br, io, cp, cl, hd, ct, wt, wc, rr, ab, dx, ox, ss, yy, sp, dy, ly, rfl, rfl, K⟩ := I
  obtain ⟨r, h1, h2⟩ := fd_waits (c := v1) (k := v2) K
  exact h1 _ (h2 _ ⟨rfl, ⟨rc, cc, sl, nw, no, ops, o1, o2, o3, sz, st, pr, pc, rg, wk, jn, sd, br, io, cp, cl, hd, ct, wt, wc, rr, ab, dx, ox, ss, yy, sp, dy, ly, rfl, rfl, fd_K_m K (by omega) (by omega)⟩⟩)
theorem i_vc_out {k : Nat} {u : SX} {v : SY} (I : i_Rel k u v) (hk : k + 5 ≤ 2561) (v1 : Int32) : wpX_out (fun r => wpY_out (fun r' => r' = r ∧ i_Rel (k + 5) u v) v v1) u v1 := by
  obtain ⟨rc, cc, sl, nw, no, ops, o1, o2, o3, sz, st, pr, pc, rg, wk, jn, sd, br, io, cp, cl, hd, ct, wt, wc, rr, ab, dx, ox, ss, yy, sp, dy, ly, rfl, rfl, K⟩ := I
  obtain ⟨r, h1, h2⟩ := fd_out (k := v1) (by omega) K
  exact h1 _ (h2 _ ⟨rfl, ⟨rc, cc, sl, nw, no, ops, o1, o2, o3, sz, st, pr, pc, rg, wk, jn, sd, br, io, cp, cl, hd, ct, wt, wc, rr, ab, dx, ox, ss, yy, sp, dy, ly, rfl, rfl, fd_K_m K (by omega) (by omega)⟩⟩)
theorem i_vc_time {k : Nat} {u : SX} {v : SY} (I : i_Rel k u v) (hk : k + 5 ≤ 2561) : wpX_time (fun r => wpY_time (fun r' => r' = r ∧ i_Rel (k + 5) u v) v) u := by
  obtain ⟨rc, cc, sl, nw, no, ops, o1, o2, o3, sz, st, pr, pc, rg, wk, jn, sd, br, io, cp, cl, hd, ct, wt, wc, rr, ab, dx, ox, ss, yy, sp, dy, ly, rfl, rfl, K⟩ := I
  exact ⟨rfl, ⟨rc, cc, sl, nw, no, ops, o1, o2, o3, sz, st, pr, pc, rg, wk, jn, sd, br, io, cp, cl, hd, ct, wt, wc, rr, ab, dx, ox, ss, yy, sp, dy, ly, rfl, rfl, fd_K_m K (by omega) (by omega)⟩⟩
