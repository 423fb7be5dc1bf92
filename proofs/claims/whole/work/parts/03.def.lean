def fd_gd (op a b c : Int32) : Prop := vp_in op 14 ∧ ((op = 0 ∨ op = 5 ∨ op = 12) → vp_in a 3) ∧ ((op = 1 ∨ op = 10) → vp_in a 3 ∧ vp_in b 3) ∧ (op = 2 → vp_in a 13) ∧ (op = 3 → vp_in a 3 ∧ vp_in b 13) ∧ ((op = 6 ∨ op = 7) → vp_in a 4 ∧ vp_in b 3) ∧ (op = 8 → vp_in a 4 ∧ vp_in b 4 ∧ vp_in c 3) ∧ (op = 9 → vp_in a 6 ∧ vp_in b 3) ∧ (op = 11 → vp_in a 4)
def fd_G (ops o1 o2 o3 sz : Nat → Int32) : Prop := ∀ p, p < 7 → vp_in (sz p) 13 ∧ ∀ i, i < (sz p).toNatClampNeg → fd_gd (ops (12 * p + i)) (o1 (12 * p + i)) (o2 (12 * p + i)) (o3 (12 * p + i))
def fd_k (pr pc : Nat → Int32) (f : Nat) : Nat := 12 * (pr f).toNatClampNeg + (pc f).toNatClampNeg
def fd_Wt (op a b c jn sd br io : Int32) (rg : Nat → Int32) (f : Nat) : Prop :=
  (op = 6 ∧ jn = -1 ∧ sd = 1 ∧ br = rg (3 * f + b.toNatClampNeg)) ∨ (op = 7 ∧ jn = -1 ∧ sd = 0 ∧ io = b) ∨ (op = 8 ∧ jn = -1 ∧ sd = 0 ∧ io = c) ∨ (op = 10 ∧ jn = rg (3 * f + a.toNatClampNeg) ∧ io = b)
def fd_F (ops o1 o2 o3 st pr pc rg jn sd br io : Nat → Int32) (f : Nat) : Prop :=
  ((st f = 1 ∨ st f = 2 ∨ st f = 3 ∨ st f = 4) → vp_in (pr f) 6 ∧ vp_in (pc f) 13) ∧
  (st f = 3 → vp_in (pc f) 12 ∧ fd_gd (ops (fd_k pr pc f)) (o1 (fd_k pr pc f)) (o2 (fd_k pr pc f)) (o3 (fd_k pr pc f)) ∧ fd_Wt (ops (fd_k pr pc f)) (o1 (fd_k pr pc f)) (o2 (fd_k pr pc f)) (o3 (fd_k pr pc f)) (jn f) (sd f) (br f) (io f) rg f)
def fd_at (op a b y : Int32) : Prop := ((op = 6 ∨ op = 7 ∨ op = 8) ∧ a = y) ∨ (op = 8 ∧ b = y)
def fd_wa (ops o1 o2 st pr pc : Nat → Int32) (y : Int32) (f : Nat) : Prop := st f = 3 ∧ fd_at (ops (fd_k pr pc f)) (o1 (fd_k pr pc f)) (o2 (fd_k pr pc f)) y
def fd_R (st : Nat → Int32) (sp : Nat → Int64) (rc : Int32) (rr : Nat → Int32) : Prop := ∃ L : List Nat, fd_Q (fun f => st f = 1) sp L ∧ fd_H rr 0 L ∧ rc = nI L.length
def fd_V (W : Int32 → Nat → Prop) (sp : Nat → Int64) (wt wc : Nat → Int32) : Prop := ∀ y : Int32, vp_in y 4 → ∃ L : List Nat, fd_Q (W y) sp L ∧ fd_H wt (12 * y.toNatClampNeg) L ∧ wc y.toNatClampNeg = nI L.length
def fd_S (sp : Nat → Int64) (ss : Int64) (s : Nat) : Prop := 0 ≤ ss.toInt ∧ ss.toInt ≤ s ∧ ∀ f, f < 12 → sp f ≤ ss
def fd_C (cp ct : Nat → Int32) : Prop := ∀ y : Int32, vp_in y 4 → vp_in (cp y.toNatClampNeg) 4 ∧ vp_in (ct y.toNatClampNeg) 4
def fd_O (no : Int32) (ox ly : Nat → Int32) (B : Nat) : Prop := ∃ n, n ≤ B ∧ no = nI n ∧ ∀ i, i < 16 → i < n → ox ((n - 1 - i) % 16) = ly i
def fd_N (cc : Int32) (st ab dx dy : Nat → Int32) (k0 : Nat) : Prop := (∃ n, 1 ≤ n ∧ n ≤ 3 ∧ cc = nI n) ∧ (∀ k, k < 3 → ab k = -1 ∨ (vp_in (ab k) 12 ∧ (k ≠ k0 → st (ab k).toNatClampNeg = 2) ∧ dx k = dy k)) ∧ (∀ k j, k < 3 → j < 3 → ab k = ab j → ab k ≠ -1 → k = j)
def fd_K (B s k0 : Nat) (rc cc sl nw no : Int32) (ops o1 o2 o3 sz st pr pc rg wk jn sd br io cp cl hd ct wt wc rr ab dx ox : Nat → Int32) (ss : Int64) (yy : Int32) (sp : Nat → Int64) (dy ly : Nat → Int32) : Prop := fd_G ops o1 o2 o3 sz ∧ (∀ f, f < 12 → fd_F ops o1 o2 o3 st pr pc rg jn sd br io f) ∧ fd_R st sp rc rr ∧ fd_V (fd_wa ops o1 o2 st pr pc) sp wt wc ∧ fd_S sp ss s ∧ fd_C cp ct ∧ fd_O no ox ly B ∧ fd_N cc st ab dx dy k0
def fd_Rel (B s k0 : Nat) (W0 : Int32 → Nat → Prop) (st0 pc0 ab0 : Nat → Int32) (yy0 : Int32) (u : SX) (v : SY) : Prop := ∃ (rc cc sl nw no : Int32) (ops o1 o2 o3 sz st pr pc rg wk jn sd br io cp cl hd ct wt wc rr ab dx ox : Nat → Int32) (ss : Int64) (yy : Int32) (sp : Nat → Int64) (dy ly : Nat → Int32), u = (rc, cc, sl, nw, no, ops, o1, o2, o3, sz, st, pr, pc, rg, wk, jn, sd, br, io, cp, cl, hd, ct, wt, wc, rr, ab, dx, ox) ∧ v = (cc, sl, nw, no, ss, yy, ops, o1, o2, o3, sz, st, pr, pc, rg, wk, sp, cp, cl, hd, ct, ab, dy, ly) ∧ fd_K B s k0 rc cc sl nw no ops o1 o2 o3 sz st pr pc rg wk jn sd br io cp cl hd ct wt wc rr ab dx ox ss yy sp dy ly ∧ (∀ y g, fd_wa ops o1 o2 st pr pc y g → W0 y g) ∧ (∀ g, st0 g = 2 → st g = 2 ∧ pc g = pc0 g) ∧ ab = ab0 ∧ yy = yy0
/-- both walks end, in the states that Q holds of -/
def fd_Do (wx : (SX → Prop) → Prop) (wy : (SY → Prop) → Prop) (Q : SX → SY → Prop) : Prop := ∃ u v, (∀ post : SX → Prop, post u → wx post) ∧ (∀ post : SY → Prop, post v → wy post) ∧ Q u v
def fd_ag (f : Nat) (a a' : Nat → Int32) : Prop := ∀ g, g ≠ f → a' g = a g
theorem fd_ag_r {f : Nat} {a : Nat → Int32} : fd_ag f a a := fun _ _ => rfl
theorem fd_ag_u {f : Nat} {a : Nat → Int32} {x : Int32} : fd_ag f a (upd a f x) := fun _ h => pk_un h
theorem fd_ag_t {f : Nat} {a b c : Nat → Int32} (h : fd_ag f a b) (h' : fd_ag f b c) : fd_ag f a c := fun g e => (h' g e).trans (h g e)
def fd_agL (f : Nat) (a a' : Nat → Int64) : Prop := ∀ g, g ≠ f → a' g = a g
theorem fd_agL_r {f : Nat} {a : Nat → Int64} : fd_agL f a a := fun _ _ => rfl
theorem fd_agL_u {f : Nat} {a : Nat → Int64} {x : Int64} : fd_agL f a (vp_updL a f x) := fun _ h => pk_uLn h
def fd_agr (f : Nat) (a a' : Nat → Int32) : Prop := ∀ g, g ≠ f → ∀ j, j < 3 → a' (3 * g + j) = a (3 * g + j)
theorem fd_agr_r {f : Nat} {a : Nat → Int32} : fd_agr f a a := fun _ _ _ _ => rfl
theorem fd_agr_u {f j : Nat} {a : Nat → Int32} {x : Int32} (hj : j < 3) : fd_agr f a (upd a (3 * f + j) x) := fun g h i hi => pk_un (by omega)
theorem fd_agr_t {f : Nat} {a b c : Nat → Int32} (h : fd_agr f a b) (h' : fd_agr f b c) : fd_agr f a c := fun g e j hj => (h' g e j hj).trans (h g e j hj)
section
variable {ops o1 o2 o3 st pr pc rg jn sd br io st' pr' pc' rg' jn' sd' br' io' : Nat → Int32} {f : Nat}
theorem fd_F_c (h : fd_F ops o1 o2 o3 st pr pc rg jn sd br io f) (e1 : st' f = st f) (e2 : pr' f = pr f) (e3 : pc' f = pc f) (e4 : jn' f = jn f) (e5 : sd' f = sd f) (e6 : br' f = br f) (e7 : io' f = io f) (e8 : ∀ j, j < 3 → rg' (3 * f + j) = rg (3 * f + j)) : fd_F ops o1 o2 o3 st' pr' pc' rg' jn' sd' br' io' f := by
  have ek : fd_k pr' pc' f = fd_k pr pc f := by unfold fd_k; rw [e2, e3]
  unfold fd_F
  rw [e1, e2, e3, e4, e5, e6, e7, ek]
  refine ⟨h.1, fun z => ?_⟩
  obtain ⟨h1, h2, h3⟩ := h.2 z
  refine ⟨h1, h2, ?_⟩
  rcases h3 with q | q | q | q
  · refine Or.inl ⟨q.1, q.2.1, q.2.2.1, ?_⟩
    rw [e8 _ (fd_lt (h2.2.2.2.2.2.1 (Or.inl q.1)).2)]; exact q.2.2.2
  · exact Or.inr (Or.inl q)
  · exact Or.inr (Or.inr (Or.inl q))
  · refine Or.inr (Or.inr (Or.inr ⟨q.1, ?_, q.2.2⟩))
    rw [e8 _ (fd_lt (h2.2.2.1 (Or.inr q.1)).1)]; exact q.2.1
theorem fd_Fs (hF : ∀ g, g < 12 → fd_F ops o1 o2 o3 st pr pc rg jn sd br io g) (a1 : fd_ag f st st') (a2 : fd_ag f pr pr') (a3 : fd_ag f pc pc') (a4 : fd_ag f jn jn') (a5 : fd_ag f sd sd') (a6 : fd_ag f br br') (a7 : fd_ag f io io') (a8 : fd_agr f rg rg') (hf : fd_F ops o1 o2 o3 st' pr' pc' rg' jn' sd' br' io' f) : ∀ g, g < 12 → fd_F ops o1 o2 o3 st' pr' pc' rg' jn' sd' br' io' g := by
  intro g hg
  by_cases e : g = f
  · rw [e]; exact hf
  · exact fd_F_c (hF g hg) (a1 g e) (a2 g e) (a3 g e) (a4 g e) (a5 g e) (a6 g e) (a7 g e) (a8 g e)
/-- a fibre that doesn't wait -/
theorem fd_F_n (hn : st f ≠ 3) (h : vp_in (pr f) 6 ∧ vp_in (pc f) 13) : fd_F ops o1 o2 o3 st pr pc rg jn sd br io f := ⟨fun _ => h, fun z => absurd z hn⟩
/-- a fibre that isn't at work -/
theorem fd_F_o (h : ¬ (st f = 1 ∨ st f = 2 ∨ st f = 3 ∨ st f = 4)) : fd_F ops o1 o2 o3 st pr pc rg jn sd br io f := ⟨fun z => absurd z h, fun z => absurd (Or.inr (Or.inr (Or.inl z))) h⟩
theorem fd_wa_c {y : Int32} {g : Nat} (e1 : st' g = st g) (e2 : pr' g = pr g) (e3 : pc' g = pc g) : fd_wa ops o1 o2 st' pr' pc' y g ↔ fd_wa ops o1 o2 st pr pc y g := by
  have ek : fd_k pr' pc' g = fd_k pr pc g := by unfold fd_k; rw [e2, e3]
  unfold fd_wa
  rw [e1, ek]
theorem fd_wa_n {y : Int32} {g : Nat} (h : st g ≠ 3) : ¬ fd_wa ops o1 o2 st pr pc y g := fun z => h z.1
section
variable {sp sp' : Nat → Int64} {rc : Int32} {rr : Nat → Int32} {ss : Int64} {s : Nat}
theorem fd_R_s (h : fd_R st sp rc rr) (a : fd_ag f st st') (aL : fd_agL f sp sp') (h0 : st f ≠ 1) (h1 : st' f ≠ 1) : fd_R st' sp' rc rr := by
  obtain ⟨L, hQ, hH, hc⟩ := h
  refine ⟨L, fd_Qa hQ (fun g hg => ?_) (fun g hg z => ?_), hH, hc⟩
  · by_cases e : g = f
    · rw [e]; exact ⟨fun z => absurd z h1, fun z => absurd z h0⟩
    · show st' g = 1 ↔ st g = 1
      rw [a g e]
  · exact aL g (fun e => h0 (e ▸ z))
theorem fd_ssp (h : fd_S sp ss s) (hs : s < 2 ^ 62) : (ss + 1).toInt = ss.toInt + 1 := by
  have e1 : (1 : Int64).toInt = 1 := by decide
  rw [Int64.toInt_add, e1]
  have h0 := h.1
  have h1 := h.2.1
  exact Int.bmod_eq_of_le (by omega) (by omega)
theorem fd_S_lt (h : fd_S sp ss s) (hs : s < 2 ^ 62) {g : Nat} (hg : g < 12) : sp g < ss + 1 := by
  have q := h.2.2 g hg
  rw [Int64.le_iff_toInt_le] at q
  rw [Int64.lt_iff_toInt_lt, fd_ssp h hs]
  omega
theorem fd_S_u (h : fd_S sp ss s) (hs : s < 2 ^ 62) : fd_S (vp_updL sp f (ss + 1)) (ss + 1) (s + 1) := by
  refine ⟨?_, ?_, fun g hg => ?_⟩
  · rw [fd_ssp h hs]; have := h.1; omega
  · rw [fd_ssp h hs]; have := h.2.1; omega
  · by_cases e : g = f
    · rw [e, pk_uLs]; exact Int64.le_refl _
    · rw [pk_uLn e]; exact Int64.le_of_lt (fd_S_lt h hs hg)
theorem fd_S_m {s' : Nat} (h : fd_S sp ss s) (hs : s ≤ s') : fd_S sp ss s' := ⟨h.1, by have := h.2.1; omega, h.2.2⟩
theorem fd_R_a (h : fd_R st sp rc rr) (hS : fd_S sp ss s) (hs : s < 2 ^ 62) (hf : f < 12) (a : fd_ag f st st') (h0 : st f ≠ 1) (h1 : st' f = 1) {x : Int32} (ex : x = nI f) : vp_in rc 12 ∧ fd_R st' (vp_updL sp f (ss + 1)) (rc + 1) (upd rr rc.toNatClampNeg x) := by
  obtain ⟨L, hQ, hH, hc⟩ := h
  have l := fd_Q_lt hQ hf h0
  subst hc
  refine ⟨vp_in_nI l (by omega), L ++ [f], fd_Qapp hQ hf h0 h1 (fun g hg e => ?_) (fun g hg e => pk_uLn e) (fun g hg z => ?_), ?_, ?_⟩
  · show st' g = 1 ↔ st g = 1
    rw [a g e]
  · rw [pk_uLs]; exact fd_S_lt hS hs hg
  · rw [nI_clamp (by omega), ex]
    have q := fd_H_app (f := f) hH (rfl : L.length = L.length)
    rw [Nat.zero_add] at q
    exact q
  · rw [nI_1, List.length_append]; rfl
theorem fd_V_s {wt wc : Nat → Int32} (h : fd_V (fd_wa ops o1 o2 st pr pc) sp wt wc) (a1 : fd_ag f st st') (a2 : fd_ag f pr pr') (a3 : fd_ag f pc pc') (aL : fd_agL f sp sp') (h0 : st f ≠ 3) (h1 : st' f ≠ 3) : fd_V (fd_wa ops o1 o2 st' pr' pc') sp' wt wc := by
  intro y hy
  obtain ⟨L, hQ, hH, hc⟩ := h y hy
  refine ⟨L, fd_Qa hQ (fun g hg => ?_) (fun g hg z => ?_), hH, hc⟩
  · by_cases e : g = f
    · rw [e]; exact ⟨fun z => absurd z.1 h1, fun z => absurd z.1 h0⟩
    · exact fd_wa_c (a1 g e) (a2 g e) (a3 g e)
  · exact aL g (fun e => h0 (e ▸ z.1))
def fd_lv (wt wc wt' wc' : Nat → Int32) (f : Nat) : Prop := ∀ y : Int32, vp_in y 4 → ∀ L : List Nat, (∀ g, g ∈ L → g < 12) → L.length ≤ 12 → fd_H wt (12 * y.toNatClampNeg) L → wc y.toNatClampNeg = nI L.length → fd_H wt' (12 * y.toNatClampNeg) (L.filter (fun g => decide (g ≠ f))) ∧ wc' y.toNatClampNeg = nI (L.filter (fun g => decide (g ≠ f))).length
theorem fd_V_r {wt wc wt' wc' : Nat → Int32} (h : fd_V (fd_wa ops o1 o2 st pr pc) sp wt wc) (hl : fd_lv wt wc wt' wc' f) (a1 : fd_ag f st st') (a2 : fd_ag f pr pr') (a3 : fd_ag f pc pc') (aL : fd_agL f sp sp') (h1 : st' f ≠ 3) : fd_V (fd_wa ops o1 o2 st' pr' pc') sp' wt' wc' := by
  intro y hy
  obtain ⟨L, hQ, hH, hc⟩ := h y hy
  obtain ⟨hH', hc'⟩ := hl y hy L (fun g hg => ((hQ.1 g).mp hg).1) (fd_Q_len hQ) hH hc
  exact ⟨_, fd_Qrem hQ (fd_wa_n h1) (fun g hg e => fd_wa_c (a1 g e) (a2 g e) (a3 g e)) (fun g hg e => aL g e), hH', hc'⟩
theorem fd_V_sp {W : Int32 → Nat → Prop} {wt wc : Nat → Int32} (h : fd_V W sp wt wc) (aL : fd_agL f sp sp') (hn : ∀ y, ¬ W y f) : fd_V W sp' wt wc := by
  intro y hy
  obtain ⟨L, hQ, hH, hc⟩ := h y hy
  exact ⟨L, fd_Qa hQ (fun g hg => Iff.rfl) (fun g hg z => aL g (fun e => hn y (e ▸ z))), hH, hc⟩
theorem fd_V_c {W W' : Int32 → Nat → Prop} {wt wc : Nat → Int32} (h : fd_V W sp wt wc) (hn : ∀ y, vp_in y 4 → ∀ g, g < 12 → (W' y g ↔ W y g)) : fd_V W' sp wt wc := by
  intro y hy
  obtain ⟨L, hQ, hH, hc⟩ := h y hy
  exact ⟨L, fd_Qa hQ (hn y hy) (fun g hg z => rfl), hH, hc⟩
theorem fd_V_a {W W' : Int32 → Nat → Prop} {wt wc : Nat → Int32} {y0 x : Int32} (h : fd_V W sp wt wc) (hy0 : vp_in y0 4) (hf : f < 12) (ex : x = nI f) (hn : ¬ W y0 f) (hW : ∀ y, vp_in y 4 → ∀ g, g < 12 → (W' y g ↔ (W y g ∨ (y = y0 ∧ g = f)))) (hm : ∀ g, g < 12 → g ≠ f → sp g < sp f) : vp_in (wc y0.toNatClampNeg) 12 ∧ fd_V W' sp (upd wt (12 * y0.toNatClampNeg + (wc y0.toNatClampNeg).toNatClampNeg) x) (upd wc y0.toNatClampNeg (wc y0.toNatClampNeg + 1)) := by
  obtain ⟨L0, hQ0, hH0, hc0⟩ := h y0 hy0
  have l0 := fd_Q_lt hQ0 hf hn
  refine ⟨by rw [hc0]; exact vp_in_nI l0 (by omega), fun y hy => ?_⟩
  have c0 := fd_lt hy0
  have c1 := fd_lt hy
  by_cases e : y = y0
  · subst e
    refine ⟨L0 ++ [f], fd_Qapp hQ0 hf hn ((hW y hy f hf).mpr (Or.inr ⟨rfl, rfl⟩)) (fun g hg e => ?_) (fun g hg e => rfl) (fun g hg z => hm g hg (fun e => hn (e ▸ z))), ?_, ?_⟩
    · exact ⟨fun z => ((hW y hy g hg).mp z).elim id (fun q => absurd q.2 e), fun z => (hW y hy g hg).mpr (Or.inl z)⟩
    · rw [hc0, nI_clamp (by omega), ex]; exact fd_H_app hH0 rfl
    · rw [pk_us, hc0, nI_1, List.length_append]; rfl
  · obtain ⟨L, hQ, hH, hc⟩ := h y hy
    have ne : y.toNatClampNeg ≠ y0.toNatClampNeg := fun q => e (fd_inj hy hy0 q)
    have ll := fd_Q_len hQ
    refine ⟨L, fd_Qa hQ (fun g hg => ?_) (fun g hg z => rfl), fd_H_un hH (fun i hi => ?_), ?_⟩
    · exact ⟨fun z => ((hW y hy g hg).mp z).elim id (fun q => absurd q.1 e), fun z => (hW y hy g hg).mpr (Or.inl z)⟩
    · rw [hc0, nI_clamp (by omega)]; omega
    · rw [pk_un ne]; exact hc
theorem fd_N_s {cc : Int32} {ab dx dy : Nat → Int32} {k0 : Nat} (h : fd_N cc st ab dx dy k0) (a : fd_ag f st st') (hk : st f ≠ 2 ∨ (k0 < 3 ∧ ab k0 = nI f ∧ f < 12)) : fd_N cc st' ab dx dy k0 := by
  refine ⟨h.1, fun k hk3 => ?_, h.2.2⟩
  rcases h.2.1 k hk3 with e | ⟨h1, h2, h3⟩
  · exact Or.inl e
  · refine Or.inr ⟨h1, fun ne => ?_, h3⟩
    by_cases e : (ab k).toNatClampNeg = f
    · rcases hk with q | ⟨q1, q2, q3⟩
      · exact absurd (e ▸ h2 ne) q
      · exact absurd (h.2.2 k k0 hk3 q1 (by rw [q2, ← e]; exact fd_eq h1) (fd_m1 h1)) ne
    · rw [a _ e]; exact h2 ne
end
end
