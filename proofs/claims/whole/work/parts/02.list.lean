theorem fd_lt {x : Int32} {n : Nat} (h : vp_in x n) : x.toNatClampNeg < n := Nat.lt_of_not_le (fun z => h (Or.inr z))
theorem fd_nn {x : Int32} {n : Nat} (h : vp_in x n) : ¬ x < 0 := fun z => h (Or.inl z)
theorem fd_eq {x : Int32} {n : Nat} (h : vp_in x n) : x = nI x.toNatClampNeg := by
  obtain ⟨j, hj, rfl⟩ := nI_of (fd_nn h)
  rw [nI_clamp hj]
theorem fd_mk {x : Int32} {n : Nat} (h0 : ¬ x < 0) (h1 : x.toNatClampNeg < n) : vp_in x n := fun z => z.elim h0 (fun q => absurd h1 (Nat.not_lt_of_le q))
theorem fd_mono {x : Int32} {m n : Nat} (h : vp_in x m) (hm : m ≤ n) : vp_in x n := fd_mk (fd_nn h) (Nat.lt_of_lt_of_le (fd_lt h) hm)
theorem fd_inj {x y : Int32} {m n : Nat} (hx : vp_in x m) (hy : vp_in y n) (h : x.toNatClampNeg = y.toNatClampNeg) : x = y := by
  rw [fd_eq hx, fd_eq hy, h]
theorem fd_m1 {x : Int32} {n : Nat} (h : vp_in x n) : x ≠ -1 := by
  intro e; subst e; exact fd_nn h (by decide)
theorem fd_neg1 : (-1 : Int32) < 0 := by decide
theorem fd_ge0 {x : Int32} {n : Nat} (h : vp_in x n) : 0 ≤ x := Int32.not_lt.mp (fd_nn h)
theorem fd_ixA (a : Nat) {x y : Int32} {m n : Nat} (N : Nat) (hx : vp_in x m) (hy : vp_in y n) (hN : a * m + n ≤ N + a) (hb : N < 2 ^ 31) : vp_in (nI a * x + y) N ∧ (nI a * x + y).toNatClampNeg = a * x.toNatClampNeg + y.toNatClampNeg := by
  have hi := fd_lt hx
  have hj := fd_lt hy
  have e : nI a * x + y = nI (a * x.toNatClampNeg + y.toNatClampNeg) := by
    conv => lhs; rw [fd_eq hx, fd_eq hy]
    rw [pk_mul, nI_add]
  have q := Nat.mul_le_mul_left a (Nat.succ_le_of_lt hi)
  rw [Nat.mul_succ] at q
  have l : a * x.toNatClampNeg + y.toNatClampNeg < N := by omega
  rw [e]
  exact ⟨vp_in_nI l hb, nI_clamp (by omega)⟩
theorem fd_0in {n : Nat} (h : 0 < n) : vp_in (0 : Int32) n := fd_mk (by decide) (by simpa using h)
theorem fd_3 {x y : Int32} (hx : vp_in x 12) (hy : vp_in y 3) : vp_in (3 * x + y) 36 ∧ (3 * x + y).toNatClampNeg = 3 * x.toNatClampNeg + y.toNatClampNeg := fd_ixA 3 36 hx hy (by omega) (by omega)
theorem fd_3' {x y : Int32} (hx : vp_in x 12) (hy : vp_in y 3) : vp_in (x * 3 + y) 36 ∧ (x * 3 + y).toNatClampNeg = 3 * x.toNatClampNeg + y.toNatClampNeg := by
  rw [Int32.mul_comm x 3]; exact fd_3 hx hy
theorem fd_30 {x : Int32} (hx : vp_in x 12) : vp_in (3 * x) 36 ∧ (3 * x).toNatClampNeg = 3 * x.toNatClampNeg := by
  have q := fd_3 hx (y := 0) (fd_0in (by omega))
  rw [Int32.add_zero] at q
  exact q
theorem fd_30' {x : Int32} (hx : vp_in x 12) : vp_in (x * 3) 36 ∧ (x * 3).toNatClampNeg = 3 * x.toNatClampNeg := by
  rw [Int32.mul_comm x 3]; exact fd_30 hx
theorem fd_c3 {x y : Int32} (hx : vp_in x 4) (hy : vp_in y 3) : vp_in (3 * x + y) 12 ∧ (3 * x + y).toNatClampNeg = 3 * x.toNatClampNeg + y.toNatClampNeg := fd_ixA 3 12 hx hy (by omega) (by omega)
theorem fd_c3' {x y : Int32} (hx : vp_in x 4) (hy : vp_in y 3) : vp_in (x * 3 + y) 12 ∧ (x * 3 + y).toNatClampNeg = 3 * x.toNatClampNeg + y.toNatClampNeg := by
  rw [Int32.mul_comm x 3]; exact fd_c3 hx hy
theorem fd_c30 {x : Int32} (hx : vp_in x 4) : vp_in (3 * x) 12 ∧ (3 * x).toNatClampNeg = 3 * x.toNatClampNeg := by
  have q := fd_c3 hx (y := 0) (fd_0in (by omega))
  rw [Int32.add_zero] at q
  exact q
theorem fd_c30' {x : Int32} (hx : vp_in x 4) : vp_in (x * 3) 12 ∧ (x * 3).toNatClampNeg = 3 * x.toNatClampNeg := by
  rw [Int32.mul_comm x 3]; exact fd_c30 hx
theorem fd_c12 {x y : Int32} (hx : vp_in x 4) (hy : vp_in y 12) : vp_in (x * 12 + y) 48 ∧ (x * 12 + y).toNatClampNeg = 12 * x.toNatClampNeg + y.toNatClampNeg := by
  rw [Int32.mul_comm x 12]; exact fd_ixA 12 48 hx hy (by omega) (by omega)
theorem fd_c120 {x : Int32} (hx : vp_in x 4) : vp_in (x * 12) 48 ∧ (x * 12).toNatClampNeg = 12 * x.toNatClampNeg := by
  have q := fd_c12 hx (y := 0) (fd_0in (by omega))
  rw [Int32.add_zero] at q
  exact q
theorem fd_p12 {x y : Int32} (hx : vp_in x 6) (hy : vp_in y 13) : vp_in (12 * x + y) 84 ∧ (12 * x + y).toNatClampNeg = 12 * x.toNatClampNeg + y.toNatClampNeg := fd_ixA 12 84 hx hy (by omega) (by omega)
theorem fd_p12' {x y : Int32} (hx : vp_in x 6) (hy : vp_in y 13) : vp_in (x * 12 + y) 84 ∧ (x * 12 + y).toNatClampNeg = 12 * x.toNatClampNeg + y.toNatClampNeg := by
  rw [Int32.mul_comm x 12]; exact fd_p12 hx hy
theorem fd_inc {x : Int32} {n : Nat} (hx : vp_in x n) (hn : n < 2 ^ 30) : vp_in (x + 1) (n + 1) ∧ (x + 1).toNatClampNeg = x.toNatClampNeg + 1 := by
  have l := fd_lt hx
  have e : x + 1 = nI (x.toNatClampNeg + 1) := by
    conv => lhs; rw [fd_eq hx]
    rw [nI_1]
  rw [e]
  exact ⟨vp_in_nI (by omega) (by omega), nI_clamp (by omega)⟩
def fd_Q (P : Nat → Prop) (sp : Nat → Int64) (L : List Nat) : Prop := (∀ f, f ∈ L ↔ (f < 12 ∧ P f)) ∧ L.Pairwise (fun a b => sp a < sp b)
def fd_H (a : Nat → Int32) (o : Nat) (L : List Nat) : Prop := ∀ i, (h : i < L.length) → a (o + i) = nI (L[i]'h)
theorem fd_len : ∀ (n : Nat) (L : List Nat), L.Nodup → (∀ x, x ∈ L → x < n) → L.length ≤ n := by
  intro n
  induction n with
  | zero =>
    intro L _ h
    cases L with
    | nil => exact Nat.le_refl _
    | cons a l => exact absurd (h a List.mem_cons_self) (Nat.not_lt_zero _)
  | succ n ih =>
    intro L hd h
    by_cases m : n ∈ L
    · have e := List.length_erase_of_mem m
      have q := ih (L.erase n) (hd.erase n) (fun x hx => by
        have a := (hd.mem_erase_iff).mp hx
        have b := h x a.2
        omega)
      have := List.length_pos_of_mem m
      omega
    · exact Nat.le_succ_of_le (ih L hd (fun x hx => by
        have a := h x hx
        have b : x ≠ n := fun e => m (e ▸ hx)
        omega))
section
variable {P P' K : Nat → Prop} {sp sp' : Nat → Int64} {L : List Nat}
theorem fd_Q_nd (h : fd_Q P sp L) : L.Nodup := List.Pairwise.imp (fun {a b} hab e => by subst e; exact Int64.lt_irrefl hab) h.2
theorem fd_Q_len (h : fd_Q P sp L) : L.length ≤ 12 := fd_len 12 L (fd_Q_nd h) (fun x hx => ((h.1 x).mp hx).1)
theorem fd_Q_lt (h : fd_Q P sp L) {f : Nat} (hf : f < 12) (hn : ¬ P f) : L.length < 12 :=
  fd_len 12 (f :: L) (List.nodup_cons.mpr ⟨fun m => hn ((h.1 f).mp m).2, fd_Q_nd h⟩) (fun x hx => by
   rcases List.mem_cons.mp hx with e | m
   · rw [e]; exact hf
   · exact ((h.1 x).mp m).1)
theorem fd_Qa (h : fd_Q P sp L) (hp : ∀ g, g < 12 → (P' g ↔ P g)) (hs : ∀ g, g < 12 → P g → sp' g = sp g) : fd_Q P' sp' L :=
  ⟨fun f => ⟨fun m => have q := (h.1 f).mp m; ⟨q.1, (hp f q.1).mpr q.2⟩, fun q => (h.1 f).mpr ⟨q.1, (hp f q.1).mp q.2⟩⟩,
   List.Pairwise.imp_of_mem (fun {a b} ha hb hab => by
     have qa := (h.1 a).mp ha
     have qb := (h.1 b).mp hb
     rw [hs a qa.1 qa.2, hs b qb.1 qb.2]; exact hab) h.2⟩
theorem fd_Qapp {f : Nat} (h : fd_Q P sp L) (hf : f < 12) (hn : ¬ P f) (hy : P' f) (hp : ∀ g, g < 12 → g ≠ f → (P' g ↔ P g)) (hs : ∀ g, g < 12 → g ≠ f → sp' g = sp g) (hm : ∀ g, g < 12 → P g → sp g < sp' f) : fd_Q P' sp' (L ++ [f]) := by
  constructor
  · intro g
    rw [List.mem_append, List.mem_singleton, h.1 g]
    by_cases e : g = f
    · rw [e]; exact ⟨fun _ => ⟨hf, hy⟩, fun _ => Or.inr rfl⟩
    · exact ⟨fun q => q.elim (fun q => ⟨q.1, (hp g q.1 e).mpr q.2⟩) (fun z => absurd z e), fun q => Or.inl ⟨q.1, (hp g q.1 e).mp q.2⟩⟩
  · have hmem : ∀ {a : Nat}, a ∈ L → a < 12 ∧ P a ∧ a ≠ f := fun {a} m => have q := (h.1 a).mp m; ⟨q.1, q.2, fun e => hn (e ▸ q.2)⟩
    refine List.pairwise_append.mpr ⟨List.Pairwise.imp_of_mem (fun {a b} ha hb hab => ?_) h.2, List.pairwise_singleton _ _, fun a ha b hb => ?_⟩
    · have qa := hmem ha
      have qb := hmem hb
      rw [hs a qa.1 qa.2.2, hs b qb.1 qb.2.2]; exact hab
    · have qa := hmem ha
      rw [List.mem_singleton] at hb
      rw [hb, hs a qa.1 qa.2.2]; exact hm a qa.1 qa.2.1
theorem fd_Qrem {f : Nat} (h : fd_Q P sp L) (hn : ¬ P' f) (hp : ∀ g, g < 12 → g ≠ f → (P' g ↔ P g)) (hs : ∀ g, g < 12 → g ≠ f → sp' g = sp g) : fd_Q P' sp' (L.filter (fun g => decide (g ≠ f))) := by
  constructor
  · intro g
    rw [List.mem_filter, h.1 g, decide_eq_true_iff]
    by_cases e : g = f
    · rw [e]; exact ⟨fun q => absurd rfl q.2, fun q => absurd q.2 hn⟩
    · exact ⟨fun q => ⟨q.1.1, (hp g q.1.1 e).mpr q.1.2⟩, fun q => ⟨⟨q.1, (hp g q.1 e).mp q.2⟩, e⟩⟩
  · refine List.Pairwise.imp_of_mem (fun {a b} ha hb hab => ?_) (h.2.filter _)
    have ma := List.mem_filter.mp ha
    have mb := List.mem_filter.mp hb
    have qa := (h.1 a).mp ma.1
    have qb := (h.1 b).mp mb.1
    rw [hs a qa.1 (of_decide_eq_true ma.2), hs b qb.1 (of_decide_eq_true mb.2)]; exact hab
theorem fd_pw {R : Nat → Nat → Prop} {L : List Nat} (h : L.Pairwise R) {a b : Nat} (ha : a ∈ L) (hb : b ∈ L) : a = b ∨ R a b ∨ R b a := by
  obtain ⟨i, hi, rfl⟩ := List.getElem_of_mem ha
  obtain ⟨j, hj, rfl⟩ := List.getElem_of_mem hb
  have q := List.pairwise_iff_getElem.mp h
  rcases Nat.lt_trichotomy i j with l | e | l
  · exact Or.inr (Or.inl (q i j hi hj l))
  · subst e; exact Or.inl rfl
  · exact Or.inr (Or.inr (q j i hj hi l))
def fd_Mi (P : Nat → Prop) (sp : Nat → Int64) (i : Nat) (r : Int32) : Prop := (r = -1 ∧ ∀ g, g < i → ¬ P g) ∨ ∃ b, b < i ∧ r = nI b ∧ P b ∧ ∀ g, g < i → P g → sp b ≤ sp g
theorem fd_Mi_c {i : Nat} {r : Int32} (h : fd_Mi P sp i r) (hp : ∀ g, g < i → (P' g ↔ P g)) : fd_Mi P' sp i r := by
  rcases h with ⟨e, h⟩ | ⟨b, hb, e, pb, h⟩
  · exact Or.inl ⟨e, fun g hg z => h g hg ((hp g hg).mp z)⟩
  · exact Or.inr ⟨b, hb, e, (hp b hb).mpr pb, fun g hg z => h g hg ((hp g hg).mp z)⟩
theorem fd_M_u {r r' : Int32} (h : fd_Q P sp L) (hK : ∀ g, K g → P g) (a : fd_Mi K sp 12 r) (b : fd_Mi K sp 12 r') : r = r' := by
  rcases a with ⟨e, n⟩ | ⟨b1, hb1, e, k1, m1⟩
  · rcases b with ⟨e', _⟩ | ⟨b2, hb2, e', k2, m2⟩
    · rw [e, e']
    · exact absurd k2 (n b2 hb2)
  · rcases b with ⟨e', n⟩ | ⟨b2, hb2, e', k2, m2⟩
    · exact absurd k1 (n b1 hb1)
    · rcases fd_pw h.2 ((h.1 b1).mpr ⟨hb1, hK b1 k1⟩) ((h.1 b2).mpr ⟨hb2, hK b2 k2⟩) with q | q | q
      · rw [e, e', q]
      · exact absurd q (Int64.not_lt.mpr (m2 b1 hb1 k1))
      · exact absurd q (Int64.not_lt.mpr (m1 b2 hb2 k2))
theorem fd_Mi_0 : fd_Mi P sp 0 (-1) := Or.inl ⟨rfl, fun g hg => absurd hg (Nat.not_lt_zero g)⟩
theorem fd_Mi_no {i : Nat} {r : Int32} (h : fd_Mi P sp i r) (hn : ¬ P i) : fd_Mi P sp (i + 1) r := by
  rcases h with ⟨e, h⟩ | ⟨b, hb, e, pb, h⟩
  · exact Or.inl ⟨e, lt_s h hn⟩
  · exact Or.inr ⟨b, Nat.lt_succ_of_lt hb, e, pb, lt_s h (fun z => absurd z hn)⟩
theorem fd_Mi_in {i : Nat} {r : Int32} (h : fd_Mi P sp i r) (hi : i ≤ 12) (hr : ¬ r < 0) : vp_in r 12 := by
  rcases h with ⟨e, _⟩ | ⟨b, hb, e, _⟩
  · exact absurd fd_neg1 (e ▸ hr)
  · rw [e]; exact vp_in_nI (by omega) (by omega)
theorem fd_Mi_1 {i : Nat} {r : Int32} (h : fd_Mi P sp i r) (hi : i ≤ 12) (hr : r < 0) (hP : P i) : fd_Mi P sp (i + 1) (nI i) := by
  rcases h with ⟨e, h⟩ | ⟨b, hb, e, _⟩
  · exact Or.inr ⟨i, Nat.lt_succ_self i, rfl, hP, lt_s (fun g hg z => absurd z (h g hg)) (fun _ => Int64.le_refl _)⟩
  · exact absurd hr (e ▸ nI_pos (by omega))
theorem fd_Mi_k {i : Nat} {r : Int32} (h : fd_Mi P sp i r) (hi : i ≤ 12) (hr : ¬ r < 0) (hs : sp r.toNatClampNeg ≤ sp i) : fd_Mi P sp (i + 1) r := by
  rcases h with ⟨e, _⟩ | ⟨b, hb, e, pb, h⟩
  · exact absurd fd_neg1 (e ▸ hr)
  · subst e
    rw [nI_clamp (by omega)] at hs
    exact Or.inr ⟨b, Nat.lt_succ_of_lt hb, rfl, pb, lt_s h (fun _ => hs)⟩
theorem fd_Mi_n {i : Nat} {r : Int32} (h : fd_Mi P sp i r) (hi : i ≤ 12) (hr : ¬ r < 0) (hs : ¬ sp r.toNatClampNeg ≤ sp i) (hP : P i) : fd_Mi P sp (i + 1) (nI i) := by
  rcases h with ⟨e, _⟩ | ⟨b, hb, e, pb, h⟩
  · exact absurd fd_neg1 (e ▸ hr)
  · subst e
    rw [nI_clamp (by omega)] at hs
    have l := Int64.not_le.mp hs
    exact Or.inr ⟨i, Nat.lt_succ_self i, rfl, hP, lt_s (fun g hg z => Int64.le_of_lt (Int64.lt_of_lt_of_le l (h g hg z))) (fun _ => Int64.le_refl _)⟩
theorem fd_M_no {r : Int32} (h : fd_Mi P sp 12 r) (hr : r = -1) (g : Nat) (hg : g < 12) : ¬ P g := by
  rcases h with ⟨_, h⟩ | ⟨b, hb, e, _⟩
  · exact h g hg
  · exact absurd (e.symm.trans hr) (fd_m1 (vp_in_nI hb (by omega)))
theorem fd_M_neg {r : Int32} (h : fd_Mi P sp 12 r) : r < 0 ↔ r = -1 := by
  rcases h with ⟨e, h⟩ | ⟨b, hb, e, _⟩
  · rw [e]; exact ⟨fun _ => rfl, fun _ => fd_neg1⟩
  · rw [e]; exact ⟨fun z => absurd z (nI_pos (by omega)), fun z => absurd z (fd_m1 (vp_in_nI hb (by omega)))⟩
theorem fd_M_ge {r : Int32} (h : fd_Mi P sp 12 r) : 0 ≤ r ↔ ¬ r = -1 := by
  rw [← fd_M_neg h]; exact Int32.not_lt.symm
theorem fd_M_yes {r : Int32} (h : fd_Mi P sp 12 r) (hr : ¬ r = -1) : vp_in r 12 ∧ P r.toNatClampNeg := by
  rcases h with ⟨e, _⟩ | ⟨b, hb, e, pb, _⟩
  · exact absurd e hr
  · subst e
    rw [nI_clamp (by omega)]
    exact ⟨vp_in_nI hb (by omega), pb⟩
/-- the first in the list with K is the least by stamp -/
theorem fd_M_first (h : fd_Q P sp L) (j : Nat) (hj : j < L.length) (hk : K (L[j]'hj)) (hb : ∀ i, (hi : i < L.length) → i < j → ¬ K (L[i]'hi)) : fd_Mi (fun g => P g ∧ K g) sp 12 (nI (L[j]'hj)) := by
  have m := (h.1 _).mp (List.getElem_mem hj)
  refine Or.inr ⟨_, m.1, rfl, ⟨m.2, hk⟩, fun g hg q => ?_⟩
  obtain ⟨i, hi, e⟩ := List.getElem_of_mem ((h.1 g).mpr ⟨hg, q.1⟩)
  rcases Nat.lt_trichotomy i j with l | l | l
  · exact absurd q.2 (e ▸ hb i hi l)
  · subst l; rw [e]; exact Int64.le_refl _
  · rw [← e]; exact Int64.le_of_lt (List.pairwise_iff_getElem.mp h.2 j i hj hi l)
theorem fd_M_none (h : fd_Q P sp L) (hb : ∀ i, (hi : i < L.length) → ¬ K (L[i]'hi)) : fd_Mi (fun g => P g ∧ K g) sp 12 (-1) := by
  refine Or.inl ⟨rfl, fun g hg q => ?_⟩
  obtain ⟨i, hi, e⟩ := List.getElem_of_mem ((h.1 g).mpr ⟨hg, q.1⟩)
  exact absurd q.2 (e ▸ hb i hi)
end
theorem fd_H_app {a : Nat → Int32} {o n f : Nat} {L : List Nat} (h : fd_H a o L) (hn : n = L.length) : fd_H (upd a (o + n) (nI f)) o (L ++ [f]) := by
  intro i hi
  by_cases l : i < L.length
  · rw [pk_un (by omega), List.getElem_append_left l]; exact h i l
  · have e : i = n := by rw [List.length_append] at hi; simp at hi; omega
    subst e
    rw [pk_us]
    subst hn
    simp
theorem fd_H_un {a : Nat → Int32} {o j : Nat} {x : Int32} {L : List Nat} (h : fd_H a o L) (hj : ∀ i, i < L.length → o + i ≠ j) : fd_H (upd a j x) o L := by
  intro i hi
  rw [pk_un (hj i hi)]; exact h i hi
theorem fd_H_c {a b : Nat → Int32} {o : Nat} {L : List Nat} (h : fd_H a o L) (e : ∀ i, i < L.length → b (o + i) = a (o + i)) : fd_H b o L := by
  intro i hi
  rw [e i hi]; exact h i hi
theorem fd_cnt {L : List Nat} (hd : L.Nodup) (q : Nat → Bool) (i : Nat) : L.countP (fun g => decide (g < i + 1) && q g) = L.countP (fun g => decide (g < i) && q g) + (if i ∈ L ∧ q i = true then 1 else 0) := by
  induction L with
  | nil => simp
  | cons a l ih =>
    have hnd := List.nodup_cons.mp hd
    rw [List.countP_cons, List.countP_cons, ih hnd.2]
    by_cases e : a = i
    · subst e
      have h1 : decide (a < a + 1) = true := decide_eq_true (Nat.lt_succ_self a)
      have h2 : decide (a < a) = false := decide_eq_false (Nat.lt_irrefl a)
      simp [hnd.1]
    · have h1 : decide (a < i + 1) = decide (a < i) := by
        by_cases l : a < i
        · rw [decide_eq_true l, decide_eq_true (Nat.lt_succ_of_lt l)]
        · rw [decide_eq_false l, decide_eq_false (by omega)]
      have h2 : (i ∈ a :: l ∧ q i = true) ↔ (i ∈ l ∧ q i = true) := by
        rw [List.mem_cons]
        exact ⟨fun z => ⟨z.1.elim (fun w => absurd w.symm e) id, z.2⟩, fun z => ⟨Or.inr z.1, z.2⟩⟩
      rw [h1]
      simp only [h2]
      omega
theorem fd_rank {sp : Nat → Int64} : ∀ {L : List Nat}, L.Pairwise (fun a b => sp a < sp b) → ∀ (j : Nat) (hj : j < L.length), L.countP (fun g => decide (sp g < sp (L[j]'hj))) = j := by
  intro L
  induction L with
  | nil => intro _ j hj; exact absurd hj (Nat.not_lt_zero j)
  | cons a l ih =>
    intro h j hj
    have hp := List.pairwise_cons.mp h
    cases j with
    | zero =>
      rw [List.countP_eq_zero]
      intro g hg z
      have z' := of_decide_eq_true z
      rcases List.mem_cons.mp hg with e | m
      · rw [e] at z'; exact Int64.lt_irrefl z'
      · exact Int64.lt_irrefl (Int64.lt_trans z' (hp.1 g m))
    | succ j =>
      have hj' : j < l.length := by simpa using hj
      have e : (a :: l)[j + 1]'hj = l[j]'hj' := rfl
      rw [e, List.countP_cons, ih hp.2 j hj', if_pos]
      exact decide_eq_true (hp.1 _ (List.getElem_mem hj'))
