section
theorem pk_us {f : Nat → Int32} {k : Nat} {x : Int32} : upd f k x k = x := if_pos rfl
theorem pk_un {f : Nat → Int32} {k j : Nat} {x : Int32} (h : j ≠ k) : upd f k x j = f j := if_neg h
theorem pk_uLs {f : Nat → Int64} {k : Nat} {x : Int64} : vp_updL f k x k = x := if_pos rfl
theorem pk_uLn {f : Nat → Int64} {k j : Nat} {x : Int64} (h : j ≠ k) : vp_updL f k x j = f j := if_neg h
theorem pk_sub {a b : Nat} (h : b ≤ a) : nI a - nI b = nI (a - b) := by
  obtain ⟨c, rfl⟩ : ∃ c, a = c + b := ⟨a - b, by omega⟩
  rw [← nI_add, Int32.add_sub_cancel, Nat.add_sub_cancel]
theorem pk_m1 (n : Nat) : nI (n + 1) + (-1) = nI n := by
  rw [← nI_1, Int32.add_assoc, show (1 : Int32) + (-1) = 0 from rfl, Int32.add_zero]
theorem pk_mul (a b : Nat) : nI a * nI b = nI (a * b) := (Int32.ofNat_mul a b).symm
theorem pk_div {a d : Nat} (ha : a < 2 ^ 31) (h0 : 0 < d) (hd : d < 2 ^ 31) : nI a / nI d = nI (a / d) := by
  apply Int32.toInt_inj.mp
  rw [lg_idiv_nonneg (by rw [nI_toInt ha]; omega) (by rw [nI_toInt hd]; omega), nI_toInt ha, nI_toInt hd, nI_toInt (Nat.lt_of_le_of_lt (Nat.div_le_self a d) ha)]
  first | rfl | exact (Int.natCast_ediv _ _).symm
theorem pk_rem {a d : Nat} (ha : a < 2 ^ 31) (h0 : 0 < d) (hd : d < 2 ^ 31) : nI a - nI a / nI d * nI d = nI (a % d) := by
  rw [pk_div ha h0 hd, pk_mul, pk_sub (Nat.div_mul_le_self a d)]
  exact congrArg nI (by have := Nat.div_add_mod' a d; omega)
theorem pk_ix (x : Int32) {n : Nat} (hn : n < 2 ^ 31) : x < 0 ∨ nI n ≤ x ∨ ∃ j : Nat, j < n ∧ x = nI j := by
  by_cases h : x < 0
  · exact Or.inl h
  · obtain ⟨j, hj, rfl⟩ := nI_of h
    by_cases h2 : j < n
    · exact Or.inr (Or.inr ⟨j, h2, rfl⟩)
    · exact Or.inr (Or.inl (nI_le (by omega) hj))
theorem pk_le {x y : Int32} {A B : Prop} (a b : Nat) (f : a ≤ b → A) (g : b < a → B) (hx : x = nI a := by rfl) (hy : y = nI b := by rfl) (ha : a < 2 ^ 31 := by omega) (hb : b < 2 ^ 31 := by omega) : (x ≤ y → A) ∧ (¬ x ≤ y → B) := by
  subst hx hy
  rw [nI_leI ha hb]
  exact ⟨f, fun z => g (by omega)⟩
theorem pk_lt {x y : Int32} {A B : Prop} (a b : Nat) (f : a < b → A) (g : b ≤ a → B) (hx : x = nI a := by rfl) (hy : y = nI b := by rfl) (ha : a < 2 ^ 31 := by omega) (hb : b < 2 ^ 31 := by omega) : (x < y → A) ∧ (¬ x < y → B) := by
  subst hx hy
  rw [nI_ltI ha hb]
  exact ⟨f, fun z => g (by omega)⟩
theorem pk_eq {x y : Int32} {A B : Prop} (a b : Nat) (f : a = b → A) (g : a ≠ b → B) (hx : x = nI a := by rfl) (hy : y = nI b := by rfl) (ha : a < 2 ^ 31 := by omega) (hb : b < 2 ^ 31 := by omega) : (x = y → A) ∧ (¬ x = y → B) := by
  subst hx hy
  rw [nI_eq ha hb]
  exact ⟨f, g⟩
theorem pk_in {x : Int32} (n N : Nat) (h : n < N) (hx : x = nI n := by rfl) (hN : N < 2 ^ 31 := by omega) : vp_in x N := by
  subst hx
  exact vp_in_nI h hN
theorem pk_cl {x : Int32} (n : Nat) (hx : x = nI n := by rfl) (h : n < 2 ^ 31 := by omega) : x.toNatClampNeg = n := by
  subst hx
  exact nI_clamp h
theorem pk_tn {n : Nat} (h : n < 2 ^ 32) : (nI n).toBitVec.toNat = n := Nat.mod_eq_of_lt h
theorem pk_and (x : Int32) {m : Int32} (k : Nat) (hm : m.toBitVec.toNat = 2 ^ k - 1) : x &&& m = nI (x.toBitVec.toNat % 2 ^ k) := by
  apply Int32.toBitVec_inj.mp
  apply BitVec.eq_of_toNat_eq
  rw [Int32.toBitVec_and, BitVec.toNat_and, hm, Nat.and_two_pow_sub_one_eq_mod]
  show _ = (BitVec.ofNat 32 _).toNat
  rw [BitVec.toNat_ofNat]
  exact (Nat.mod_eq_of_lt (Nat.lt_of_le_of_lt (Nat.mod_le _ _) x.toBitVec.isLt)).symm
theorem pk_andE (x : Int32) {m : Int32} (k : Nat) (hm : m.toBitVec.toNat = 2 ^ k - 1) : ∃ j : Nat, j < 2 ^ k ∧ x &&& m = nI j := ⟨_, Nat.mod_lt _ (Nat.two_pow_pos k), pk_and x k hm⟩
theorem pk_andIn (x : Int32) {m : Int32} (k : Nat) (hm : m.toBitVec.toNat = 2 ^ k - 1) (hk : k ≤ 30) : vp_in (x &&& m) (2 ^ k) := by
  obtain ⟨j, hj, e⟩ := pk_andE x k hm
  rw [e]
  exact vp_in_nI hj (Nat.lt_of_le_of_lt (Nat.pow_le_pow_right (by decide) hk) (by decide))
theorem pk_lT {n : Nat} (h : n < 2 ^ 63) : (lN n).toInt = (n : Int) := lg_ofNat_toInt h
theorem pk_lLT {a b : Nat} (ha : a < 2 ^ 63) (hb : b < 2 ^ 63) : lN a < lN b ↔ a < b := by
  rw [Int64.lt_iff_toInt_lt, pk_lT ha, pk_lT hb]; omega
theorem pk_lLE {a b : Nat} (ha : a < 2 ^ 63) (hb : b < 2 ^ 63) : lN a ≤ lN b ↔ a ≤ b := by
  rw [Int64.le_iff_toInt_le, pk_lT ha, pk_lT hb]; omega
end
section
theorem fd_lt {x : Int32} {n : Nat} (h : vp_in x n) : x.toNatClampNeg < n := Nat.lt_of_not_le (fun z => h (Or.inr z))
theorem fd_nn {x : Int32} {n : Nat} (h : vp_in x n) : ¬ x < 0 := fun z => h (Or.inl z)
theorem fd_eq {x : Int32} {n : Nat} (h : vp_in x n) : x = nI x.toNatClampNeg := by
  obtain ⟨j, hj, rfl⟩ := nI_of (fd_nn h)
  rw [nI_clamp hj]
theorem fd_mk {x : Int32} {n : Nat} (h0 : ¬ x < 0) (h1 : x.toNatClampNeg < n) : vp_in x n := fun z => z.elim h0 (fun q => absurd h1 (Nat.not_lt_of_le q))
theorem fd_mono {x : Int32} {m n : Nat} (h : vp_in x m) (hm : m ≤ n) : vp_in x n := fd_mk (fd_nn h) (Nat.lt_of_lt_of_le (fd_lt h) hm)
theorem fd_inj {x y : Int32} {m n : Nat} (hx : vp_in x m) (hy : vp_in y n) (h : x.toNatClampNeg = y.toNatClampNeg) : x = y := by
  rw [fd_eq hx, fd_eq hy, h]
theorem fd_m1 {x : Int32} {n : Nat} (h : vp_in x n) : x ≠ -1 := by
  intro e; subst e; exact fd_nn h (by decide)
theorem fd_neg1 : (-1 : Int32) < 0 := by decide
theorem fd_ge0 {x : Int32} {n : Nat} (h : vp_in x n) : 0 ≤ x := Int32.not_lt.mp (fd_nn h)
theorem fd_ixA (a : Nat) {x y : Int32} {m n : Nat} (N : Nat) (hx : vp_in x m) (hy : vp_in y n) (hN : a * m + n ≤ N + a) (hb : N < 2 ^ 31) : vp_in (nI a * x + y) N ∧ (nI a * x + y).toNatClampNeg = a * x.toNatClampNeg + y.toNatClampNeg := by
  have hi := fd_lt hx
  have hj := fd_lt hy
  have e : nI a * x + y = nI (a * x.toNatClampNeg + y.toNatClampNeg) := by
    conv => lhs; rw [fd_eq hx, fd_eq hy]
    rw [pk_mul, nI_add]
  have q := Nat.mul_le_mul_left a (Nat.succ_le_of_lt hi)
  rw [Nat.mul_succ] at q
  have l : a * x.toNatClampNeg + y.toNatClampNeg < N := by omega
  rw [e]
  exact ⟨vp_in_nI l hb, nI_clamp (by omega)⟩
theorem fd_0in {n : Nat} (h : 0 < n) : vp_in (0 : Int32) n := fd_mk (by decide) (by simpa using h)
theorem fd_3 {x y : Int32} (hx : vp_in x 12) (hy : vp_in y 3) : vp_in (3 * x + y) 36 ∧ (3 * x + y).toNatClampNeg = 3 * x.toNatClampNeg + y.toNatClampNeg := fd_ixA 3 36 hx hy (by omega) (by omega)
theorem fd_3' {x y : Int32} (hx : vp_in x 12) (hy : vp_in y 3) : vp_in (x * 3 + y) 36 ∧ (x * 3 + y).toNatClampNeg = 3 * x.toNatClampNeg + y.toNatClampNeg := by
  rw [Int32.mul_comm x 3]; exact fd_3 hx hy
theorem fd_30 {x : Int32} (hx : vp_in x 12) : vp_in (3 * x) 36 ∧ (3 * x).toNatClampNeg = 3 * x.toNatClampNeg := by
  have q := fd_3 hx (y := 0) (fd_0in (by omega))
  rw [Int32.add_zero] at q
  exact q
theorem fd_30' {x : Int32} (hx : vp_in x 12) : vp_in (x * 3) 36 ∧ (x * 3).toNatClampNeg = 3 * x.toNatClampNeg := by
  rw [Int32.mul_comm x 3]; exact fd_30 hx
theorem fd_c3 {x y : Int32} (hx : vp_in x 4) (hy : vp_in y 3) : vp_in (3 * x + y) 12 ∧ (3 * x + y).toNatClampNeg = 3 * x.toNatClampNeg + y.toNatClampNeg := fd_ixA 3 12 hx hy (by omega) (by omega)
theorem fd_c3' {x y : Int32} (hx : vp_in x 4) (hy : vp_in y 3) : vp_in (x * 3 + y) 12 ∧ (x * 3 + y).toNatClampNeg = 3 * x.toNatClampNeg + y.toNatClampNeg := by
  rw [Int32.mul_comm x 3]; exact fd_c3 hx hy
theorem fd_c30 {x : Int32} (hx : vp_in x 4) : vp_in (3 * x) 12 ∧ (3 * x).toNatClampNeg = 3 * x.toNatClampNeg := by
  have q := fd_c3 hx (y := 0) (fd_0in (by omega))
  rw [Int32.add_zero] at q
  exact q
theorem fd_c30' {x : Int32} (hx : vp_in x 4) : vp_in (x * 3) 12 ∧ (x * 3).toNatClampNeg = 3 * x.toNatClampNeg := by
  rw [Int32.mul_comm x 3]; exact fd_c30 hx
theorem fd_c12 {x y : Int32} (hx : vp_in x 4) (hy : vp_in y 12) : vp_in (x * 12 + y) 48 ∧ (x * 12 + y).toNatClampNeg = 12 * x.toNatClampNeg + y.toNatClampNeg := by
  rw [Int32.mul_comm x 12]; exact fd_ixA 12 48 hx hy (by omega) (by omega)
theorem fd_c120 {x : Int32} (hx : vp_in x 4) : vp_in (x * 12) 48 ∧ (x * 12).toNatClampNeg = 12 * x.toNatClampNeg := by
  have q := fd_c12 hx (y := 0) (fd_0in (by omega))
  rw [Int32.add_zero] at q
  exact q
theorem fd_p12 {x y : Int32} (hx : vp_in x 6) (hy : vp_in y 13) : vp_in (12 * x + y) 84 ∧ (12 * x + y).toNatClampNeg = 12 * x.toNatClampNeg + y.toNatClampNeg := fd_ixA 12 84 hx hy (by omega) (by omega)
theorem fd_p12' {x y : Int32} (hx : vp_in x 6) (hy : vp_in y 13) : vp_in (x * 12 + y) 84 ∧ (x * 12 + y).toNatClampNeg = 12 * x.toNatClampNeg + y.toNatClampNeg := by
  rw [Int32.mul_comm x 12]; exact fd_p12 hx hy
theorem fd_inc {x : Int32} {n : Nat} (hx : vp_in x n) (hn : n < 2 ^ 30) : vp_in (x + 1) (n + 1) ∧ (x + 1).toNatClampNeg = x.toNatClampNeg + 1 := by
  have l := fd_lt hx
  have e : x + 1 = nI (x.toNatClampNeg + 1) := by
    conv => lhs; rw [fd_eq hx]
    rw [nI_1]
  rw [e]
  exact ⟨vp_in_nI (by omega) (by omega), nI_clamp (by omega)⟩
def fd_Q (P : Nat → Prop) (sp : Nat → Int64) (L : List Nat) : Prop := (∀ f, f ∈ L ↔ (f < 12 ∧ P f)) ∧ L.Pairwise (fun a b => sp a < sp b)
def fd_H (a : Nat → Int32) (o : Nat) (L : List Nat) : Prop := ∀ i, (h : i < L.length) → a (o + i) = nI (L[i]'h)
theorem fd_len : ∀ (n : Nat) (L : List Nat), L.Nodup → (∀ x, x ∈ L → x < n) → L.length ≤ n := by
  intro n
  induction n with
  | zero =>
    intro L _ h
    cases L with
    | nil => exact Nat.le_refl _
    | cons a l => exact absurd (h a List.mem_cons_self) (Nat.not_lt_zero _)
  | succ n ih =>
    intro L hd h
    by_cases m : n ∈ L
    · have e := List.length_erase_of_mem m
      have q := ih (L.erase n) (hd.erase n) (fun x hx => by
        have a := (hd.mem_erase_iff).mp hx
        have b := h x a.2
        omega)
      have := List.length_pos_of_mem m
      omega
    · exact Nat.le_succ_of_le (ih L hd (fun x hx => by
        have a := h x hx
        have b : x ≠ n := fun e => m (e ▸ hx)
        omega))
section
variable {P P' K : Nat → Prop} {sp sp' : Nat → Int64} {L : List Nat}
theorem fd_Q_nd (h : fd_Q P sp L) : L.Nodup := List.Pairwise.imp (fun {a b} hab e => by subst e; exact Int64.lt_irrefl hab) h.2
theorem fd_Q_len (h : fd_Q P sp L) : L.length ≤ 12 := fd_len 12 L (fd_Q_nd h) (fun x hx => ((h.1 x).mp hx).1)
theorem fd_Q_lt (h : fd_Q P sp L) {f : Nat} (hf : f < 12) (hn : ¬ P f) : L.length < 12 :=
  fd_len 12 (f :: L) (List.nodup_cons.mpr ⟨fun m => hn ((h.1 f).mp m).2, fd_Q_nd h⟩) (fun x hx => by
   rcases List.mem_cons.mp hx with e | m
   · rw [e]; exact hf
   · exact ((h.1 x).mp m).1)
theorem fd_Qa (h : fd_Q P sp L) (hp : ∀ g, g < 12 → (P' g ↔ P g)) (hs : ∀ g, g < 12 → P g → sp' g = sp g) : fd_Q P' sp' L :=
  ⟨fun f => ⟨fun m => have q := (h.1 f).mp m; ⟨q.1, (hp f q.1).mpr q.2⟩, fun q => (h.1 f).mpr ⟨q.1, (hp f q.1).mp q.2⟩⟩,
   List.Pairwise.imp_of_mem (fun {a b} ha hb hab => by
     have qa := (h.1 a).mp ha
     have qb := (h.1 b).mp hb
     rw [hs a qa.1 qa.2, hs b qb.1 qb.2]; exact hab) h.2⟩
theorem fd_Qapp {f : Nat} (h : fd_Q P sp L) (hf : f < 12) (hn : ¬ P f) (hy : P' f) (hp : ∀ g, g < 12 → g ≠ f → (P' g ↔ P g)) (hs : ∀ g, g < 12 → g ≠ f → sp' g = sp g) (hm : ∀ g, g < 12 → P g → sp g < sp' f) : fd_Q P' sp' (L ++ [f]) := by
  constructor
  · intro g
    rw [List.mem_append, List.mem_singleton, h.1 g]
    by_cases e : g = f
    · rw [e]; exact ⟨fun _ => ⟨hf, hy⟩, fun _ => Or.inr rfl⟩
    · exact ⟨fun q => q.elim (fun q => ⟨q.1, (hp g q.1 e).mpr q.2⟩) (fun z => absurd z e), fun q => Or.inl ⟨q.1, (hp g q.1 e).mp q.2⟩⟩
  · have hmem : ∀ {a : Nat}, a ∈ L → a < 12 ∧ P a ∧ a ≠ f := fun {a} m => have q := (h.1 a).mp m; ⟨q.1, q.2, fun e => hn (e ▸ q.2)⟩
    refine List.pairwise_append.mpr ⟨List.Pairwise.imp_of_mem (fun {a b} ha hb hab => ?_) h.2, List.pairwise_singleton _ _, fun a ha b hb => ?_⟩
    · have qa := hmem ha
      have qb := hmem hb
      rw [hs a qa.1 qa.2.2, hs b qb.1 qb.2.2]; exact hab
    · have qa := hmem ha
      rw [List.mem_singleton] at hb
      rw [hb, hs a qa.1 qa.2.2]; exact hm a qa.1 qa.2.1
theorem fd_Qrem {f : Nat} (h : fd_Q P sp L) (hn : ¬ P' f) (hp : ∀ g, g < 12 → g ≠ f → (P' g ↔ P g)) (hs : ∀ g, g < 12 → g ≠ f → sp' g = sp g) : fd_Q P' sp' (L.filter (fun g => decide (g ≠ f))) := by
  constructor
  · intro g
    rw [List.mem_filter, h.1 g, decide_eq_true_iff]
    by_cases e : g = f
    · rw [e]; exact ⟨fun q => absurd rfl q.2, fun q => absurd q.2 hn⟩
    · exact ⟨fun q => ⟨q.1.1, (hp g q.1.1 e).mpr q.1.2⟩, fun q => ⟨⟨q.1, (hp g q.1 e).mp q.2⟩, e⟩⟩
  · refine List.Pairwise.imp_of_mem (fun {a b} ha hb hab => ?_) (h.2.filter _)
    have ma := List.mem_filter.mp ha
    have mb := List.mem_filter.mp hb
    have qa := (h.1 a).mp ma.1
    have qb := (h.1 b).mp mb.1
    rw [hs a qa.1 (of_decide_eq_true ma.2), hs b qb.1 (of_decide_eq_true mb.2)]; exact hab
theorem fd_pw {R : Nat → Nat → Prop} {L : List Nat} (h : L.Pairwise R) {a b : Nat} (ha : a ∈ L) (hb : b ∈ L) : a = b ∨ R a b ∨ R b a := by
  obtain ⟨i, hi, rfl⟩ := List.getElem_of_mem ha
  obtain ⟨j, hj, rfl⟩ := List.getElem_of_mem hb
  have q := List.pairwise_iff_getElem.mp h
  rcases Nat.lt_trichotomy i j with l | e | l
  · exact Or.inr (Or.inl (q i j hi hj l))
  · subst e; exact Or.inl rfl
  · exact Or.inr (Or.inr (q j i hj hi l))
def fd_Mi (P : Nat → Prop) (sp : Nat → Int64) (i : Nat) (r : Int32) : Prop := (r = -1 ∧ ∀ g, g < i → ¬ P g) ∨ ∃ b, b < i ∧ r = nI b ∧ P b ∧ ∀ g, g < i → P g → sp b ≤ sp g
theorem fd_Mi_c {i : Nat} {r : Int32} (h : fd_Mi P sp i r) (hp : ∀ g, g < i → (P' g ↔ P g)) : fd_Mi P' sp i r := by
  rcases h with ⟨e, h⟩ | ⟨b, hb, e, pb, h⟩
  · exact Or.inl ⟨e, fun g hg z => h g hg ((hp g hg).mp z)⟩
  · exact Or.inr ⟨b, hb, e, (hp b hb).mpr pb, fun g hg z => h g hg ((hp g hg).mp z)⟩
theorem fd_M_u {r r' : Int32} (h : fd_Q P sp L) (hK : ∀ g, K g → P g) (a : fd_Mi K sp 12 r) (b : fd_Mi K sp 12 r') : r = r' := by
  rcases a with ⟨e, n⟩ | ⟨b1, hb1, e, k1, m1⟩
  · rcases b with ⟨e', _⟩ | ⟨b2, hb2, e', k2, m2⟩
    · rw [e, e']
    · exact absurd k2 (n b2 hb2)
  · rcases b with ⟨e', n⟩ | ⟨b2, hb2, e', k2, m2⟩
    · exact absurd k1 (n b1 hb1)
    · rcases fd_pw h.2 ((h.1 b1).mpr ⟨hb1, hK b1 k1⟩) ((h.1 b2).mpr ⟨hb2, hK b2 k2⟩) with q | q | q
      · rw [e, e', q]
      · exact absurd q (Int64.not_lt.mpr (m2 b1 hb1 k1))
      · exact absurd q (Int64.not_lt.mpr (m1 b2 hb2 k2))
theorem fd_Mi_0 : fd_Mi P sp 0 (-1) := Or.inl ⟨rfl, fun g hg => absurd hg (Nat.not_lt_zero g)⟩
theorem fd_Mi_no {i : Nat} {r : Int32} (h : fd_Mi P sp i r) (hn : ¬ P i) : fd_Mi P sp (i + 1) r := by
  rcases h with ⟨e, h⟩ | ⟨b, hb, e, pb, h⟩
  · exact Or.inl ⟨e, lt_s h hn⟩
  · exact Or.inr ⟨b, Nat.lt_succ_of_lt hb, e, pb, lt_s h (fun z => absurd z hn)⟩
theorem fd_Mi_in {i : Nat} {r : Int32} (h : fd_Mi P sp i r) (hi : i ≤ 12) (hr : ¬ r < 0) : vp_in r 12 := by
  rcases h with ⟨e, _⟩ | ⟨b, hb, e, _⟩
  · exact absurd fd_neg1 (e ▸ hr)
  · rw [e]; exact vp_in_nI (by omega) (by omega)
theorem fd_Mi_1 {i : Nat} {r : Int32} (h : fd_Mi P sp i r) (hi : i ≤ 12) (hr : r < 0) (hP : P i) : fd_Mi P sp (i + 1) (nI i) := by
  rcases h with ⟨e, h⟩ | ⟨b, hb, e, _⟩
  · exact Or.inr ⟨i, Nat.lt_succ_self i, rfl, hP, lt_s (fun g hg z => absurd z (h g hg)) (fun _ => Int64.le_refl _)⟩
  · exact absurd hr (e ▸ nI_pos (by omega))
theorem fd_Mi_k {i : Nat} {r : Int32} (h : fd_Mi P sp i r) (hi : i ≤ 12) (hr : ¬ r < 0) (hs : sp r.toNatClampNeg ≤ sp i) : fd_Mi P sp (i + 1) r := by
  rcases h with ⟨e, _⟩ | ⟨b, hb, e, pb, h⟩
  · exact absurd fd_neg1 (e ▸ hr)
  · subst e
    rw [nI_clamp (by omega)] at hs
    exact Or.inr ⟨b, Nat.lt_succ_of_lt hb, rfl, pb, lt_s h (fun _ => hs)⟩
theorem fd_Mi_n {i : Nat} {r : Int32} (h : fd_Mi P sp i r) (hi : i ≤ 12) (hr : ¬ r < 0) (hs : ¬ sp r.toNatClampNeg ≤ sp i) (hP : P i) : fd_Mi P sp (i + 1) (nI i) := by
  rcases h with ⟨e, _⟩ | ⟨b, hb, e, pb, h⟩
  · exact absurd fd_neg1 (e ▸ hr)
  · subst e
    rw [nI_clamp (by omega)] at hs
    have l := Int64.not_le.mp hs
    exact Or.inr ⟨i, Nat.lt_succ_self i, rfl, hP, lt_s (fun g hg z => Int64.le_of_lt (Int64.lt_of_lt_of_le l (h g hg z))) (fun _ => Int64.le_refl _)⟩
theorem fd_M_no {r : Int32} (h : fd_Mi P sp 12 r) (hr : r = -1) (g : Nat) (hg : g < 12) : ¬ P g := by
  rcases h with ⟨_, h⟩ | ⟨b, hb, e, _⟩
  · exact h g hg
  · exact absurd (e.symm.trans hr) (fd_m1 (vp_in_nI hb (by omega)))
theorem fd_M_neg {r : Int32} (h : fd_Mi P sp 12 r) : r < 0 ↔ r = -1 := by
  rcases h with ⟨e, h⟩ | ⟨b, hb, e, _⟩
  · rw [e]; exact ⟨fun _ => rfl, fun _ => fd_neg1⟩
  · rw [e]; exact ⟨fun z => absurd z (nI_pos (by omega)), fun z => absurd z (fd_m1 (vp_in_nI hb (by omega)))⟩
theorem fd_M_ge {r : Int32} (h : fd_Mi P sp 12 r) : 0 ≤ r ↔ ¬ r = -1 := by
  rw [← fd_M_neg h]; exact Int32.not_lt.symm
theorem fd_M_yes {r : Int32} (h : fd_Mi P sp 12 r) (hr : ¬ r = -1) : vp_in r 12 ∧ P r.toNatClampNeg := by
  rcases h with ⟨e, _⟩ | ⟨b, hb, e, pb, _⟩
  · exact absurd e hr
  · subst e
    rw [nI_clamp (by omega)]
    exact ⟨vp_in_nI hb (by omega), pb⟩
/-- the first in the list with K is the least by stamp -/
theorem fd_M_first (h : fd_Q P sp L) (j : Nat) (hj : j < L.length) (hk : K (L[j]'hj)) (hb : ∀ i, (hi : i < L.length) → i < j → ¬ K (L[i]'hi)) : fd_Mi (fun g => P g ∧ K g) sp 12 (nI (L[j]'hj)) := by
  have m := (h.1 _).mp (List.getElem_mem hj)
  refine Or.inr ⟨_, m.1, rfl, ⟨m.2, hk⟩, fun g hg q => ?_⟩
  obtain ⟨i, hi, e⟩ := List.getElem_of_mem ((h.1 g).mpr ⟨hg, q.1⟩)
  rcases Nat.lt_trichotomy i j with l | l | l
  · exact absurd q.2 (e ▸ hb i hi l)
  · subst l; rw [e]; exact Int64.le_refl _
  · rw [← e]; exact Int64.le_of_lt (List.pairwise_iff_getElem.mp h.2 j i hj hi l)
theorem fd_M_none (h : fd_Q P sp L) (hb : ∀ i, (hi : i < L.length) → ¬ K (L[i]'hi)) : fd_Mi (fun g => P g ∧ K g) sp 12 (-1) := by
  refine Or.inl ⟨rfl, fun g hg q => ?_⟩
  obtain ⟨i, hi, e⟩ := List.getElem_of_mem ((h.1 g).mpr ⟨hg, q.1⟩)
  exact absurd q.2 (e ▸ hb i hi)
end
theorem fd_H_app {a : Nat → Int32} {o n f : Nat} {L : List Nat} (h : fd_H a o L) (hn : n = L.length) : fd_H (upd a (o + n) (nI f)) o (L ++ [f]) := by
  intro i hi
  by_cases l : i < L.length
  · rw [pk_un (by omega), List.getElem_append_left l]; exact h i l
  · have e : i = n := by rw [List.length_append] at hi; simp at hi; omega
    subst e
    rw [pk_us]
    subst hn
    simp
theorem fd_H_un {a : Nat → Int32} {o j : Nat} {x : Int32} {L : List Nat} (h : fd_H a o L) (hj : ∀ i, i < L.length → o + i ≠ j) : fd_H (upd a j x) o L := by
  intro i hi
  rw [pk_un (hj i hi)]; exact h i hi
theorem fd_H_c {a b : Nat → Int32} {o : Nat} {L : List Nat} (h : fd_H a o L) (e : ∀ i, i < L.length → b (o + i) = a (o + i)) : fd_H b o L := by
  intro i hi
  rw [e i hi]; exact h i hi
theorem fd_cnt {L : List Nat} (hd : L.Nodup) (q : Nat → Bool) (i : Nat) : L.countP (fun g => decide (g < i + 1) && q g) = L.countP (fun g => decide (g < i) && q g) + (if i ∈ L ∧ q i = true then 1 else 0) := by
  induction L with
  | nil => simp
  | cons a l ih =>
    have hnd := List.nodup_cons.mp hd
    rw [List.countP_cons, List.countP_cons, ih hnd.2]
    by_cases e : a = i
    · subst e
      have h1 : decide (a < a + 1) = true := decide_eq_true (Nat.lt_succ_self a)
      have h2 : decide (a < a) = false := decide_eq_false (Nat.lt_irrefl a)
      simp [hnd.1]
    · have h1 : decide (a < i + 1) = decide (a < i) := by
        by_cases l : a < i
        · rw [decide_eq_true l, decide_eq_true (Nat.lt_succ_of_lt l)]
        · rw [decide_eq_false l, decide_eq_false (by omega)]
      have h2 : (i ∈ a :: l ∧ q i = true) ↔ (i ∈ l ∧ q i = true) := by
        rw [List.mem_cons]
        exact ⟨fun z => ⟨z.1.elim (fun w => absurd w.symm e) id, z.2⟩, fun z => ⟨Or.inr z.1, z.2⟩⟩
      rw [h1]
      simp only [h2]
      omega
theorem fd_rank {sp : Nat → Int64} : ∀ {L : List Nat}, L.Pairwise (fun a b => sp a < sp b) → ∀ (j : Nat) (hj : j < L.length), L.countP (fun g => decide (sp g < sp (L[j]'hj))) = j := by
  intro L
  induction L with
  | nil => intro _ j hj; exact absurd hj (Nat.not_lt_zero j)
  | cons a l ih =>
    intro h j hj
    have hp := List.pairwise_cons.mp h
    cases j with
    | zero =>
      rw [List.countP_eq_zero]
      intro g hg z
      have z' := of_decide_eq_true z
      rcases List.mem_cons.mp hg with e | m
      · rw [e] at z'; exact Int64.lt_irrefl z'
      · exact Int64.lt_irrefl (Int64.lt_trans z' (hp.1 g m))
    | succ j =>
      have hj' : j < l.length := by simpa using hj
      have e : (a :: l)[j + 1]'hj = l[j]'hj' := rfl
      rw [e, List.countP_cons, ih hp.2 j hj', if_pos]
      exact decide_eq_true (hp.1 _ (List.getElem_mem hj'))
end
section
def fd_gd (op a b c : Int32) : Prop := vp_in op 14 ∧ ((op = 0 ∨ op = 5 ∨ op = 12) → vp_in a 3) ∧ ((op = 1 ∨ op = 10) → vp_in a 3 ∧ vp_in b 3) ∧ (op = 2 → vp_in a 13) ∧ (op = 3 → vp_in a 3 ∧ vp_in b 13) ∧ ((op = 6 ∨ op = 7) → vp_in a 4 ∧ vp_in b 3) ∧ (op = 8 → vp_in a 4 ∧ vp_in b 4 ∧ vp_in c 3) ∧ (op = 9 → vp_in a 6 ∧ vp_in b 3) ∧ (op = 11 → vp_in a 4)
def fd_G (ops o1 o2 o3 sz : Nat → Int32) : Prop := ∀ p, p < 7 → vp_in (sz p) 13 ∧ ∀ i, i < (sz p).toNatClampNeg → fd_gd (ops (12 * p + i)) (o1 (12 * p + i)) (o2 (12 * p + i)) (o3 (12 * p + i))
def fd_k (pr pc : Nat → Int32) (f : Nat) : Nat := 12 * (pr f).toNatClampNeg + (pc f).toNatClampNeg
def fd_Wt (op a b c jn sd br io : Int32) (rg : Nat → Int32) (f : Nat) : Prop :=
  (op = 6 ∧ jn = -1 ∧ sd = 1 ∧ br = rg (3 * f + b.toNatClampNeg)) ∨ (op = 7 ∧ jn = -1 ∧ sd = 0 ∧ io = b) ∨ (op = 8 ∧ jn = -1 ∧ sd = 0 ∧ io = c) ∨ (op = 10 ∧ jn = rg (3 * f + a.toNatClampNeg) ∧ io = b)
def fd_F (ops o1 o2 o3 st pr pc rg jn sd br io : Nat → Int32) (f : Nat) : Prop :=
  ((st f = 1 ∨ st f = 2 ∨ st f = 3 ∨ st f = 4) → vp_in (pr f) 6 ∧ vp_in (pc f) 13) ∧
  (st f = 3 → vp_in (pc f) 12 ∧ fd_gd (ops (fd_k pr pc f)) (o1 (fd_k pr pc f)) (o2 (fd_k pr pc f)) (o3 (fd_k pr pc f)) ∧ fd_Wt (ops (fd_k pr pc f)) (o1 (fd_k pr pc f)) (o2 (fd_k pr pc f)) (o3 (fd_k pr pc f)) (jn f) (sd f) (br f) (io f) rg f)
def fd_at (op a b y : Int32) : Prop := ((op = 6 ∨ op = 7 ∨ op = 8) ∧ a = y) ∨ (op = 8 ∧ b = y)
def fd_wa (ops o1 o2 st pr pc : Nat → Int32) (y : Int32) (f : Nat) : Prop := st f = 3 ∧ fd_at (ops (fd_k pr pc f)) (o1 (fd_k pr pc f)) (o2 (fd_k pr pc f)) y
def fd_R (st : Nat → Int32) (sp : Nat → Int64) (rc : Int32) (rr : Nat → Int32) : Prop := ∃ L : List Nat, fd_Q (fun f => st f = 1) sp L ∧ fd_H rr 0 L ∧ rc = nI L.length
def fd_V (W : Int32 → Nat → Prop) (sp : Nat → Int64) (wt wc : Nat → Int32) : Prop := ∀ y : Int32, vp_in y 4 → ∃ L : List Nat, fd_Q (W y) sp L ∧ fd_H wt (12 * y.toNatClampNeg) L ∧ wc y.toNatClampNeg = nI L.length
def fd_S (sp : Nat → Int64) (ss : Int64) (s : Nat) : Prop := 0 ≤ ss.toInt ∧ ss.toInt ≤ s ∧ ∀ f, f < 12 → sp f ≤ ss
def fd_C (cp ct : Nat → Int32) : Prop := ∀ y : Int32, vp_in y 4 → vp_in (cp y.toNatClampNeg) 4 ∧ vp_in (ct y.toNatClampNeg) 4
def fd_O (no : Int32) (ox ly : Nat → Int32) (B : Nat) : Prop := ∃ n, n ≤ B ∧ no = nI n ∧ ∀ i, i < 16 → i < n → ox ((n - 1 - i) % 16) = ly i
def fd_N (cc : Int32) (st ab dx dy : Nat → Int32) (k0 : Nat) : Prop := (∃ n, 1 ≤ n ∧ n ≤ 3 ∧ cc = nI n) ∧ (∀ k, k < 3 → ab k = -1 ∨ (vp_in (ab k) 12 ∧ (k ≠ k0 → st (ab k).toNatClampNeg = 2) ∧ dx k = dy k)) ∧ (∀ k j, k < 3 → j < 3 → ab k = ab j → ab k ≠ -1 → k = j)
def fd_K (B s k0 : Nat) (rc cc sl nw no : Int32) (ops o1 o2 o3 sz st pr pc rg wk jn sd br io cp cl hd ct wt wc rr ab dx ox : Nat → Int32) (ss : Int64) (yy : Int32) (sp : Nat → Int64) (dy ly : Nat → Int32) : Prop := fd_G ops o1 o2 o3 sz ∧ (∀ f, f < 12 → fd_F ops o1 o2 o3 st pr pc rg jn sd br io f) ∧ fd_R st sp rc rr ∧ fd_V (fd_wa ops o1 o2 st pr pc) sp wt wc ∧ fd_S sp ss s ∧ fd_C cp ct ∧ fd_O no ox ly B ∧ fd_N cc st ab dx dy k0
def fd_Rel (B s k0 : Nat) (W0 : Int32 → Nat → Prop) (st0 pc0 ab0 : Nat → Int32) (yy0 : Int32) (u : SX) (v : SY) : Prop := ∃ (rc cc sl nw no : Int32) (ops o1 o2 o3 sz st pr pc rg wk jn sd br io cp cl hd ct wt wc rr ab dx ox : Nat → Int32) (ss : Int64) (yy : Int32) (sp : Nat → Int64) (dy ly : Nat → Int32), u = (rc, cc, sl, nw, no, ops, o1, o2, o3, sz, st, pr, pc, rg, wk, jn, sd, br, io, cp, cl, hd, ct, wt, wc, rr, ab, dx, ox) ∧ v = (cc, sl, nw, no, ss, yy, ops, o1, o2, o3, sz, st, pr, pc, rg, wk, sp, cp, cl, hd, ct, ab, dy, ly) ∧ fd_K B s k0 rc cc sl nw no ops o1 o2 o3 sz st pr pc rg wk jn sd br io cp cl hd ct wt wc rr ab dx ox ss yy sp dy ly ∧ (∀ y g, fd_wa ops o1 o2 st pr pc y g → W0 y g) ∧ (∀ g, st0 g = 2 → st g = 2 ∧ pc g = pc0 g) ∧ ab = ab0 ∧ yy = yy0
/-- both walks end, in the states that Q holds of -/
def fd_Do (wx : (SX → Prop) → Prop) (wy : (SY → Prop) → Prop) (Q : SX → SY → Prop) : Prop := ∃ u v, (∀ post : SX → Prop, post u → wx post) ∧ (∀ post : SY → Prop, post v → wy post) ∧ Q u v
def fd_ag (f : Nat) (a a' : Nat → Int32) : Prop := ∀ g, g ≠ f → a' g = a g
theorem fd_ag_r {f : Nat} {a : Nat → Int32} : fd_ag f a a := fun _ _ => rfl
theorem fd_ag_u {f : Nat} {a : Nat → Int32} {x : Int32} : fd_ag f a (upd a f x) := fun _ h => pk_un h
theorem fd_ag_t {f : Nat} {a b c : Nat → Int32} (h : fd_ag f a b) (h' : fd_ag f b c) : fd_ag f a c := fun g e => (h' g e).trans (h g e)
def fd_agL (f : Nat) (a a' : Nat → Int64) : Prop := ∀ g, g ≠ f → a' g = a g
theorem fd_agL_r {f : Nat} {a : Nat → Int64} : fd_agL f a a := fun _ _ => rfl
theorem fd_agL_u {f : Nat} {a : Nat → Int64} {x : Int64} : fd_agL f a (vp_updL a f x) := fun _ h => pk_uLn h
def fd_agr (f : Nat) (a a' : Nat → Int32) : Prop := ∀ g, g ≠ f → ∀ j, j < 3 → a' (3 * g + j) = a (3 * g + j)
theorem fd_agr_r {f : Nat} {a : Nat → Int32} : fd_agr f a a := fun _ _ _ _ => rfl
theorem fd_agr_u {f j : Nat} {a : Nat → Int32} {x : Int32} (hj : j < 3) : fd_agr f a (upd a (3 * f + j) x) := fun g h i hi => pk_un (by omega)
theorem fd_agr_t {f : Nat} {a b c : Nat → Int32} (h : fd_agr f a b) (h' : fd_agr f b c) : fd_agr f a c := fun g e j hj => (h' g e j hj).trans (h g e j hj)
section
variable {ops o1 o2 o3 st pr pc rg jn sd br io st' pr' pc' rg' jn' sd' br' io' : Nat → Int32} {f : Nat}
theorem fd_F_c (h : fd_F ops o1 o2 o3 st pr pc rg jn sd br io f) (e1 : st' f = st f) (e2 : pr' f = pr f) (e3 : pc' f = pc f) (e4 : jn' f = jn f) (e5 : sd' f = sd f) (e6 : br' f = br f) (e7 : io' f = io f) (e8 : ∀ j, j < 3 → rg' (3 * f + j) = rg (3 * f + j)) : fd_F ops o1 o2 o3 st' pr' pc' rg' jn' sd' br' io' f := by
  have ek : fd_k pr' pc' f = fd_k pr pc f := by unfold fd_k; rw [e2, e3]
  unfold fd_F
  rw [e1, e2, e3, e4, e5, e6, e7, ek]
  refine ⟨h.1, fun z => ?_⟩
  obtain ⟨h1, h2, h3⟩ := h.2 z
  refine ⟨h1, h2, ?_⟩
  rcases h3 with q | q | q | q
  · refine Or.inl ⟨q.1, q.2.1, q.2.2.1, ?_⟩
    rw [e8 _ (fd_lt (h2.2.2.2.2.2.1 (Or.inl q.1)).2)]; exact q.2.2.2
  · exact Or.inr (Or.inl q)
  · exact Or.inr (Or.inr (Or.inl q))
  · refine Or.inr (Or.inr (Or.inr ⟨q.1, ?_, q.2.2⟩))
    rw [e8 _ (fd_lt (h2.2.2.1 (Or.inr q.1)).1)]; exact q.2.1
theorem fd_Fs (hF : ∀ g, g < 12 → fd_F ops o1 o2 o3 st pr pc rg jn sd br io g) (a1 : fd_ag f st st') (a2 : fd_ag f pr pr') (a3 : fd_ag f pc pc') (a4 : fd_ag f jn jn') (a5 : fd_ag f sd sd') (a6 : fd_ag f br br') (a7 : fd_ag f io io') (a8 : fd_agr f rg rg') (hf : fd_F ops o1 o2 o3 st' pr' pc' rg' jn' sd' br' io' f) : ∀ g, g < 12 → fd_F ops o1 o2 o3 st' pr' pc' rg' jn' sd' br' io' g := by
  intro g hg
  by_cases e : g = f
  · rw [e]; exact hf
  · exact fd_F_c (hF g hg) (a1 g e) (a2 g e) (a3 g e) (a4 g e) (a5 g e) (a6 g e) (a7 g e) (a8 g e)
/-- a fibre that doesn't wait -/
theorem fd_F_n (hn : st f ≠ 3) (h : vp_in (pr f) 6 ∧ vp_in (pc f) 13) : fd_F ops o1 o2 o3 st pr pc rg jn sd br io f := ⟨fun _ => h, fun z => absurd z hn⟩
/-- a fibre that isn't at work -/
theorem fd_F_o (h : ¬ (st f = 1 ∨ st f = 2 ∨ st f = 3 ∨ st f = 4)) : fd_F ops o1 o2 o3 st pr pc rg jn sd br io f := ⟨fun z => absurd z h, fun z => absurd (Or.inr (Or.inr (Or.inl z))) h⟩
theorem fd_wa_c {y : Int32} {g : Nat} (e1 : st' g = st g) (e2 : pr' g = pr g) (e3 : pc' g = pc g) : fd_wa ops o1 o2 st' pr' pc' y g ↔ fd_wa ops o1 o2 st pr pc y g := by
  have ek : fd_k pr' pc' g = fd_k pr pc g := by unfold fd_k; rw [e2, e3]
  unfold fd_wa
  rw [e1, ek]
theorem fd_wa_n {y : Int32} {g : Nat} (h : st g ≠ 3) : ¬ fd_wa ops o1 o2 st pr pc y g := fun z => h z.1
section
variable {sp sp' : Nat → Int64} {rc : Int32} {rr : Nat → Int32} {ss : Int64} {s : Nat}
theorem fd_R_s (h : fd_R st sp rc rr) (a : fd_ag f st st') (aL : fd_agL f sp sp') (h0 : st f ≠ 1) (h1 : st' f ≠ 1) : fd_R st' sp' rc rr := by
  obtain ⟨L, hQ, hH, hc⟩ := h
  refine ⟨L, fd_Qa hQ (fun g hg => ?_) (fun g hg z => ?_), hH, hc⟩
  · by_cases e : g = f
    · rw [e]; exact ⟨fun z => absurd z h1, fun z => absurd z h0⟩
    · show st' g = 1 ↔ st g = 1
      rw [a g e]
  · exact aL g (fun e => h0 (e ▸ z))
theorem fd_ssp (h : fd_S sp ss s) (hs : s < 2 ^ 62) : (ss + 1).toInt = ss.toInt + 1 := by
  have e1 : (1 : Int64).toInt = 1 := by decide
  rw [Int64.toInt_add, e1]
  have h0 := h.1
  have h1 := h.2.1
  exact Int.bmod_eq_of_le (by omega) (by omega)
theorem fd_S_lt (h : fd_S sp ss s) (hs : s < 2 ^ 62) {g : Nat} (hg : g < 12) : sp g < ss + 1 := by
  have q := h.2.2 g hg
  rw [Int64.le_iff_toInt_le] at q
  rw [Int64.lt_iff_toInt_lt, fd_ssp h hs]
  omega
theorem fd_S_u (h : fd_S sp ss s) (hs : s < 2 ^ 62) : fd_S (vp_updL sp f (ss + 1)) (ss + 1) (s + 1) := by
  refine ⟨?_, ?_, fun g hg => ?_⟩
  · rw [fd_ssp h hs]; have := h.1; omega
  · rw [fd_ssp h hs]; have := h.2.1; omega
  · by_cases e : g = f
    · rw [e, pk_uLs]; exact Int64.le_refl _
    · rw [pk_uLn e]; exact Int64.le_of_lt (fd_S_lt h hs hg)
theorem fd_S_m {s' : Nat} (h : fd_S sp ss s) (hs : s ≤ s') : fd_S sp ss s' := ⟨h.1, by have := h.2.1; omega, h.2.2⟩
theorem fd_R_a (h : fd_R st sp rc rr) (hS : fd_S sp ss s) (hs : s < 2 ^ 62) (hf : f < 12) (a : fd_ag f st st') (h0 : st f ≠ 1) (h1 : st' f = 1) {x : Int32} (ex : x = nI f) : vp_in rc 12 ∧ fd_R st' (vp_updL sp f (ss + 1)) (rc + 1) (upd rr rc.toNatClampNeg x) := by
  obtain ⟨L, hQ, hH, hc⟩ := h
  have l := fd_Q_lt hQ hf h0
  subst hc
  refine ⟨vp_in_nI l (by omega), L ++ [f], fd_Qapp hQ hf h0 h1 (fun g hg e => ?_) (fun g hg e => pk_uLn e) (fun g hg z => ?_), ?_, ?_⟩
  · show st' g = 1 ↔ st g = 1
    rw [a g e]
  · rw [pk_uLs]; exact fd_S_lt hS hs hg
  · rw [nI_clamp (by omega), ex]
    have q := fd_H_app (f := f) hH (rfl : L.length = L.length)
    rw [Nat.zero_add] at q
    exact q
  · rw [nI_1, List.length_append]; rfl
theorem fd_V_s {wt wc : Nat → Int32} (h : fd_V (fd_wa ops o1 o2 st pr pc) sp wt wc) (a1 : fd_ag f st st') (a2 : fd_ag f pr pr') (a3 : fd_ag f pc pc') (aL : fd_agL f sp sp') (h0 : st f ≠ 3) (h1 : st' f ≠ 3) : fd_V (fd_wa ops o1 o2 st' pr' pc') sp' wt wc := by
  intro y hy
  obtain ⟨L, hQ, hH, hc⟩ := h y hy
  refine ⟨L, fd_Qa hQ (fun g hg => ?_) (fun g hg z => ?_), hH, hc⟩
  · by_cases e : g = f
    · rw [e]; exact ⟨fun z => absurd z.1 h1, fun z => absurd z.1 h0⟩
    · exact fd_wa_c (a1 g e) (a2 g e) (a3 g e)
  · exact aL g (fun e => h0 (e ▸ z.1))
def fd_lv (wt wc wt' wc' : Nat → Int32) (f : Nat) : Prop := ∀ y : Int32, vp_in y 4 → ∀ L : List Nat, (∀ g, g ∈ L → g < 12) → L.length ≤ 12 → fd_H wt (12 * y.toNatClampNeg) L → wc y.toNatClampNeg = nI L.length → fd_H wt' (12 * y.toNatClampNeg) (L.filter (fun g => decide (g ≠ f))) ∧ wc' y.toNatClampNeg = nI (L.filter (fun g => decide (g ≠ f))).length
theorem fd_V_r {wt wc wt' wc' : Nat → Int32} (h : fd_V (fd_wa ops o1 o2 st pr pc) sp wt wc) (hl : fd_lv wt wc wt' wc' f) (a1 : fd_ag f st st') (a2 : fd_ag f pr pr') (a3 : fd_ag f pc pc') (aL : fd_agL f sp sp') (h1 : st' f ≠ 3) : fd_V (fd_wa ops o1 o2 st' pr' pc') sp' wt' wc' := by
  intro y hy
  obtain ⟨L, hQ, hH, hc⟩ := h y hy
  obtain ⟨hH', hc'⟩ := hl y hy L (fun g hg => ((hQ.1 g).mp hg).1) (fd_Q_len hQ) hH hc
  exact ⟨_, fd_Qrem hQ (fd_wa_n h1) (fun g hg e => fd_wa_c (a1 g e) (a2 g e) (a3 g e)) (fun g hg e => aL g e), hH', hc'⟩
theorem fd_V_sp {W : Int32 → Nat → Prop} {wt wc : Nat → Int32} (h : fd_V W sp wt wc) (aL : fd_agL f sp sp') (hn : ∀ y, ¬ W y f) : fd_V W sp' wt wc := by
  intro y hy
  obtain ⟨L, hQ, hH, hc⟩ := h y hy
  exact ⟨L, fd_Qa hQ (fun g hg => Iff.rfl) (fun g hg z => aL g (fun e => hn y (e ▸ z))), hH, hc⟩
theorem fd_V_c {W W' : Int32 → Nat → Prop} {wt wc : Nat → Int32} (h : fd_V W sp wt wc) (hn : ∀ y, vp_in y 4 → ∀ g, g < 12 → (W' y g ↔ W y g)) : fd_V W' sp wt wc := by
  intro y hy
  obtain ⟨L, hQ, hH, hc⟩ := h y hy
  exact ⟨L, fd_Qa hQ (hn y hy) (fun g hg z => rfl), hH, hc⟩
theorem fd_V_a {W W' : Int32 → Nat → Prop} {wt wc : Nat → Int32} {y0 x : Int32} (h : fd_V W sp wt wc) (hy0 : vp_in y0 4) (hf : f < 12) (ex : x = nI f) (hn : ¬ W y0 f) (hW : ∀ y, vp_in y 4 → ∀ g, g < 12 → (W' y g ↔ (W y g ∨ (y = y0 ∧ g = f)))) (hm : ∀ g, g < 12 → g ≠ f → sp g < sp f) : vp_in (wc y0.toNatClampNeg) 12 ∧ fd_V W' sp (upd wt (12 * y0.toNatClampNeg + (wc y0.toNatClampNeg).toNatClampNeg) x) (upd wc y0.toNatClampNeg (wc y0.toNatClampNeg + 1)) := by
  obtain ⟨L0, hQ0, hH0, hc0⟩ := h y0 hy0
  have l0 := fd_Q_lt hQ0 hf hn
  refine ⟨by rw [hc0]; exact vp_in_nI l0 (by omega), fun y hy => ?_⟩
  have c0 := fd_lt hy0
  have c1 := fd_lt hy
  by_cases e : y = y0
  · subst e
    refine ⟨L0 ++ [f], fd_Qapp hQ0 hf hn ((hW y hy f hf).mpr (Or.inr ⟨rfl, rfl⟩)) (fun g hg e => ?_) (fun g hg e => rfl) (fun g hg z => hm g hg (fun e => hn (e ▸ z))), ?_, ?_⟩
    · exact ⟨fun z => ((hW y hy g hg).mp z).elim id (fun q => absurd q.2 e), fun z => (hW y hy g hg).mpr (Or.inl z)⟩
    · rw [hc0, nI_clamp (by omega), ex]; exact fd_H_app hH0 rfl
    · rw [pk_us, hc0, nI_1, List.length_append]; rfl
  · obtain ⟨L, hQ, hH, hc⟩ := h y hy
    have ne : y.toNatClampNeg ≠ y0.toNatClampNeg := fun q => e (fd_inj hy hy0 q)
    have ll := fd_Q_len hQ
    refine ⟨L, fd_Qa hQ (fun g hg => ?_) (fun g hg z => rfl), fd_H_un hH (fun i hi => ?_), ?_⟩
    · exact ⟨fun z => ((hW y hy g hg).mp z).elim id (fun q => absurd q.1 e), fun z => (hW y hy g hg).mpr (Or.inl z)⟩
    · rw [hc0, nI_clamp (by omega)]; omega
    · rw [pk_un ne]; exact hc
theorem fd_N_s {cc : Int32} {ab dx dy : Nat → Int32} {k0 : Nat} (h : fd_N cc st ab dx dy k0) (a : fd_ag f st st') (hk : st f ≠ 2 ∨ (k0 < 3 ∧ ab k0 = nI f ∧ f < 12)) : fd_N cc st' ab dx dy k0 := by
  refine ⟨h.1, fun k hk3 => ?_, h.2.2⟩
  rcases h.2.1 k hk3 with e | ⟨h1, h2, h3⟩
  · exact Or.inl e
  · refine Or.inr ⟨h1, fun ne => ?_, h3⟩
    by_cases e : (ab k).toNatClampNeg = f
    · rcases hk with q | ⟨q1, q2, q3⟩
      · exact absurd (e ▸ h2 ne) q
      · exact absurd (h.2.2 k k0 hk3 q1 (by rw [q2, ← e]; exact fd_eq h1) (fd_m1 h1)) ne
    · rw [a _ e]; exact h2 ne
end
end
end
section
def fd_aw (z : Int32) : Prop := z = 1 ∨ z = 2 ∨ z = 3 ∨ z = 4
theorem fd_aw_i (z : Int32) : fd_aw z ↔ (¬ z < 1 ∧ ¬ 4 < z) := by
  constructor
  · rintro (e | e | e | e) <;> subst e <;> decide
  · rintro ⟨h1, h2⟩
    have h0 : ¬ z < 0 := fun q => h1 (Int32.lt_trans q (by decide))
    obtain ⟨j, hj, rfl⟩ := nI_of2 (M := 4) (n := 4) (by decide) h0 (Int32.not_lt.mp h2)
    have j0 : j ≠ 0 := fun e => h1 (by rw [e]; decide)
    have : j = 1 ∨ j = 2 ∨ j = 3 ∨ j = 4 := by omega
    rcases this with e | e | e | e <;> subst e
    · exact Or.inl rfl
    · exact Or.inr (Or.inl rfl)
    · exact Or.inr (Or.inr (Or.inl rfl))
    · exact Or.inr (Or.inr (Or.inr rfl))
theorem fd_bl {x : Int32} {n : Nat} (hn : n < 2 ^ 31) : vp_in x n ↔ (¬ x < 0 ∧ ¬ nI n ≤ x) := by
  constructor
  · intro h
    obtain ⟨j, hj, rfl⟩ := vp_in_of h hn
    exact ⟨fd_nn h, nI_ge hj hn⟩
  · rintro ⟨h0, h1⟩
    obtain ⟨j, hj, rfl⟩ := nI_of h0
    rw [nI_leI hn hj] at h1
    exact vp_in_nI (by omega) hn
theorem fd_wi {x : Int32} {n : Nat} (hn : n + 1 < 2 ^ 31) : vp_in x (n + 1) ↔ (¬ x < 0 ∧ ¬ nI n < x) := by
  constructor
  · intro h
    obtain ⟨j, hj, rfl⟩ := vp_in_of h hn
    exact ⟨fd_nn h, nI_nlt (by omega) (by omega)⟩
  · rintro ⟨h0, h1⟩
    obtain ⟨j, hj, rfl⟩ := nI_of h0
    rw [nI_ltI (by omega) hj] at h1
    exact vp_in_nI (by omega) hn
theorem fd_X_bl {x N : Int32} {post : Int32 → Prop} (n : Nat) (hn : n < 2 ^ 31) (hN : N = nI n) (h1 : vp_in x n → post 1) (h0 : ¬ vp_in x n → post 0) : wpX_isBelow post x N := by
  subst hN
  exact And.intro (fun q => h0 (fun z => fd_nn z q)) (fun q => ⟨fun q' => h0 (fun z => ((fd_bl hn).mp z).2 q'), fun q' => h1 ((fd_bl hn).mpr ⟨q, q'⟩)⟩)
theorem fd_Y_wi {x N : Int32} {post : Int32 → Prop} (n : Nat) (hn : n + 1 < 2 ^ 31) (hN : N = nI n) (h1 : vp_in x (n + 1) → post 1) (h0 : ¬ vp_in x (n + 1) → post 0) : wpY_within post x 0 N := by
  subst hN
  exact And.intro (fun q => h0 (fun z => fd_nn z q)) (fun q => ⟨fun q' => h0 (fun z => ((fd_wi hn).mp z).2 q'), fun q' => h1 ((fd_wi hn).mpr ⟨q, q'⟩)⟩)
/-- a shift to the left by one of the m cells behind a -/
def fd_sh (h : Nat → Int32) (a m : Nat) : Nat → Int32 := fun j => if a ≤ j ∧ j < a + m then h (j + 1) else h j
theorem fd_sh_0 (h : Nat → Int32) (a : Nat) : fd_sh h a 0 = h := by
  funext j
  exact if_neg (by omega)
theorem fd_sh_s (h : Nat → Int32) (a m : Nat) : upd (fd_sh h a m) (a + m) (fd_sh h a m (a + m + 1)) = fd_sh h a (m + 1) := by
  funext j
  unfold fd_sh upd
  by_cases e : j = a + m
  · subst e
    rw [if_pos rfl, if_neg (by omega), if_pos (by omega)]
  · rw [if_neg e]
    dsimp only
    by_cases q : a ≤ j ∧ j < a + m
    · rw [if_pos q, if_pos (by omega)]
    · rw [if_neg q, if_neg (by omega)]
theorem fd_H_u {a : Nat → Int32} {o : Nat} {L L' : List Nat} (h : fd_H a o L) (h' : fd_H a o L') (hl : ∀ g, g ∈ L → g < 12) (hl' : ∀ g, g ∈ L' → g < 12) (e : L.length = L'.length) : L = L' :=
  List.ext_getElem e (fun i h1 h2 => by
    have q := (h i h1).symm.trans (h' i h2)
    have b1 := hl _ (List.getElem_mem h1)
    have b2 := hl' _ (List.getElem_mem h2)
    exact (nI_eq (by omega) (by omega)).mp q)
section
variable {rc cc sl nw no : Int32} {ops o1 o2 o3 sz st pr pc rg wk jn sd br io cp cl hd ct wt wc rr ab dx ox : Nat → Int32}
theorem fd_X_aw {post : Int32 → Prop} {x : Int32} (hx : vp_in x 12) (h1 : fd_aw (st x.toNatClampNeg) → post 1) (h0 : ¬ fd_aw (st x.toNatClampNeg) → post 0) : wpX_isAtWork post (rc, cc, sl, nw, no, ops, o1, o2, o3, sz, st, pr, pc, rg, wk, jn, sd, br, io, cp, cl, hd, ct, wt, wc, rr, ab, dx, ox) x :=
  And.intro hx ⟨fun q => h0 (fun z => ((fd_aw_i _).mp z).1 q), fun q => ⟨hx, fun q' => h0 (fun z => ((fd_aw_i _).mp z).2 q'), fun q' => h1 ((fd_aw_i _).mpr ⟨q, q'⟩)⟩⟩
theorem fd_X_toRow {post : SX → Prop} {x : Int32} (hx : vp_in x 12) (hr : vp_in rc 12) (H : post (rc + 1, cc, sl, nw, no, ops, o1, o2, o3, sz, upd st x.toNatClampNeg 1, pr, pc, rg, wk, jn, sd, br, io, cp, cl, hd, ct, wt, wc, upd rr rc.toNatClampNeg x, ab, dx, ox)) : wpX_toRow post (rc, cc, sl, nw, no, ops, o1, o2, o3, sz, st, pr, pc, rg, wk, jn, sd, br, io, cp, cl, hd, ct, wt, wc, rr, ab, dx, ox) x :=
  And.intro hx (nm_e ⟨hr, nm_e (nm_e H)⟩)
theorem fd_X_fill {post : SX → Prop} {x v : Int32} (hx : vp_in x 12) (hi : vp_in (io x.toNatClampNeg) 3) (H : post (rc, cc, sl, nw, no, ops, o1, o2, o3, sz, st, pr, pc, upd rg (3 * x.toNatClampNeg + (io x.toNatClampNeg).toNatClampNeg) v, wk, jn, sd, br, io, cp, cl, hd, ct, wt, wc, rr, ab, dx, ox)) : wpX_fillRegister post (rc, cc, sl, nw, no, ops, o1, o2, o3, sz, st, pr, pc, rg, wk, jn, sd, br, io, cp, cl, hd, ct, wt, wc, rr, ab, dx, ox) x v :=
  And.intro hx ⟨(fd_3' hx hi).1, nm_r (by rw [(fd_3' hx hi).2]) H⟩
theorem fd_X_lvi {x y : Int32} (hx : vp_in x 12) (hy : vp_in y 4) : ∀ (rest K : List Nat) (i : Nat) (wt : Nat → Int32), (∀ g, g ∈ rest → g < 12) → fd_H wt (12 * y.toNatClampNeg) K → fd_H wt (12 * y.toNatClampNeg + i) rest → K.length ≤ i → i + rest.length ≤ 12 → wc y.toNatClampNeg = nI (i + rest.length) →
    ∃ wt', fd_H wt' (12 * y.toNatClampNeg) (K ++ rest.filter (fun g => decide (g ≠ x.toNatClampNeg))) ∧ (∀ j, (j < 12 * y.toNatClampNeg ∨ 12 * y.toNatClampNeg + 12 ≤ j) → wt' j = wt j) ∧ ∀ (post : SX → Prop) (J2 : Int32 → (Nat → Int32) → (Nat → Int32) → (Nat → Int32) → (Nat → Int32) → (Nat → Int32) → (Nat → Int32) → (Nat → Int32) → (Nat → Int32) → (Nat → Int32) → (Nat → Int32) → (Nat → Int32) → (Nat → Int32) → (Nat → Int32) → (Nat → Int32) → (Nat → Int32) → (Nat → Int32) → (Nat → Int32) → (Nat → Int32) → (Nat → Int32) → (Nat → Int32) → (Nat → Int32) → (Nat → Int32) → (Nat → Int32) → (Nat → Int32) → Prop),
      J2 (y + 1) ops o1 o2 o3 sz st pr pc rg wk jn sd br io cp cl hd ct wt' (upd wc y.toNatClampNeg (nI (K ++ rest.filter (fun g => decide (g ≠ x.toNatClampNeg))).length)) rr ab dx ox → wX_leaveChannels_12 post J2 x y rc cc sl nw no (rest.length + 1) (nI K.length) (nI i) ops o1 o2 o3 sz st pr pc rg wk jn sd br io cp cl hd ct wt wc rr ab dx ox := by
  intro rest
  induction rest with
  | nil =>
    intro K i wt _ hK _ _ _ hc
    refine ⟨wt, by simpa using hK, fun j _ => rfl, fun post J2 H => ?_⟩
    refine And.intro hy (br_t ?_ ⟨hy, nm_e (nm_e ?_)⟩)
    · rw [hc]; exact Int32.le_refl _
    · simpa using H
  | cons g r ih =>
    intro K i wt hr hK hR hl hn hc
    have hl' : (g :: r).length = r.length + 1 := rfl
    have hi : i < 12 := by omega
    have ix := fd_c12 hy (vp_in_nI hi (by omega))
    rw [nI_clamp (by omega)] at ix
    have eg : wt (12 * y.toNatClampNeg + i) = nI g := hR 0 (by omega)
    have hg := hr g List.mem_cons_self
    have hr' : ∀ q, q ∈ r → q < 12 := fun q hq => hr q (List.mem_cons_of_mem g hq)
    have hgt : ¬ wc y.toNatClampNeg ≤ nI i := by rw [hc]; exact nI_ge (by omega) (by omega)
    have hc' : wc y.toNatClampNeg = nI (i + 1 + r.length) := by rw [hc]; congr 1; omega
    by_cases e : g = x.toNatClampNeg
    · have hRt : fd_H wt (12 * y.toNatClampNeg + (i + 1)) r := by
        intro j hj
        have q := hR (j + 1) (by omega)
        rw [show 12 * y.toNatClampNeg + (i + 1) + j = 12 * y.toNatClampNeg + i + (j + 1) by omega]
        exact q
      obtain ⟨wt', h1, h2, h3⟩ := ih K (i + 1) wt hr' hK hRt (by omega) (by omega) hc'
      have ef : (g :: r).filter (fun g => decide (g ≠ x.toNatClampNeg)) = r.filter (fun g => decide (g ≠ x.toNatClampNeg)) := by
        rw [List.filter_cons, if_neg (by simp [e])]
      rw [ef]
      refine ⟨wt', h1, h2, fun post J2 H => ?_⟩
      refine And.intro hy (br_f hgt ⟨ix.1, nm_r (show wt (y * 12 + nI i).toNatClampNeg = nI g by rw [ix.2]; exact eg) (br_t ?_ (nm_r (nI_1 i) (h3 post J2 H)))⟩)
      rw [e]; exact (fd_eq hx).symm
    · have hk : K.length < 12 := by omega
      have iy := fd_c12 hy (vp_in_nI hk (by omega))
      rw [nI_clamp (by omega)] at iy
      have hRt : fd_H (upd wt (12 * y.toNatClampNeg + K.length) (nI g)) (12 * y.toNatClampNeg + (i + 1)) r := by
        intro j hj
        have q := hR (j + 1) (by omega)
        rw [pk_un (by omega), show 12 * y.toNatClampNeg + (i + 1) + j = 12 * y.toNatClampNeg + i + (j + 1) by omega]
        exact q
      obtain ⟨wt', h1, h2, h3⟩ := ih (K ++ [g]) (i + 1) (upd wt (12 * y.toNatClampNeg + K.length) (nI g)) hr' (fd_H_app hK rfl) hRt (by simp; omega) (by omega) hc'
      have ef : K ++ (g :: r).filter (fun g => decide (g ≠ x.toNatClampNeg)) = (K ++ [g]) ++ r.filter (fun g => decide (g ≠ x.toNatClampNeg)) := by
        rw [List.filter_cons, if_pos (by simp [e])]; simp
      rw [ef]
      refine ⟨wt', h1, fun j hj => ?_, fun post J2 H => ?_⟩
      · rw [h2 j hj, pk_un (by omega)]
      refine And.intro hy (br_f hgt ⟨ix.1, nm_r (show wt (y * 12 + nI i).toNatClampNeg = nI g by rw [ix.2]; exact eg) (br_f ?_ ⟨iy.1, nm_r (show upd wt (y * 12 + nI K.length).toNatClampNeg (nI g) = upd wt (12 * y.toNatClampNeg + K.length) (nI g) by rw [iy.2]) (nm_r (e' := nI (K ++ [g]).length) (by rw [nI_1, List.length_append]; rfl) (nm_r (nI_1 i) (h3 post J2 H)))⟩)⟩)
      intro q
      exact e (by rw [← q, nI_clamp (by omega)])
theorem fd_X_lvo {x : Int32} (hx : vp_in x 12) : ∀ (d c : Nat) (wt wc : Nat → Int32), c + d = 4 → (∀ c', c ≤ c' → c' < 4 → ∃ L : List Nat, (∀ g, g ∈ L → g < 12) ∧ L.length ≤ 12 ∧ fd_H wt (12 * c') L ∧ wc c' = nI L.length) →
    ∃ wt' wc', (∀ c', c' < c → (∀ i, i < 12 → wt' (12 * c' + i) = wt (12 * c' + i)) ∧ wc' c' = wc c') ∧ (∀ c', c ≤ c' → c' < 4 → ∀ L : List Nat, (∀ g, g ∈ L → g < 12) → L.length ≤ 12 → fd_H wt (12 * c') L → wc c' = nI L.length → fd_H wt' (12 * c') (L.filter (fun g => decide (g ≠ x.toNatClampNeg))) ∧ wc' c' = nI (L.filter (fun g => decide (g ≠ x.toNatClampNeg))).length) ∧
      ∀ post : SX → Prop, post (rc, cc, sl, nw, no, ops, o1, o2, o3, sz, st, pr, pc, rg, wk, jn, sd, br, io, cp, cl, hd, ct, wt', wc', rr, ab, dx, ox) → wX_leaveChannels_2 post x rc cc sl nw no (d + 1) (nI c) ops o1 o2 o3 sz st pr pc rg wk jn sd br io cp cl hd ct wt wc rr ab dx ox := by
  intro d
  induction d with
  | zero =>
    intro c wt wc hc _
    refine ⟨wt, wc, fun c' _ => ⟨fun i _ => rfl, rfl⟩, fun c' h1 h2 => absurd h2 (by omega), fun post H => br_t ?_ H⟩
    rw [show c = 4 by omega]; decide
  | succ d ih =>
    intro c wt wc hc hL
    obtain ⟨L, hl1, hl2, hl3, hl4⟩ := hL c (Nat.le_refl c) (by omega)
    have hy : vp_in (nI c) 4 := vp_in_nI (by omega) (by omega)
    have ec : (nI c).toNatClampNeg = c := nI_clamp (by omega)
    have nf := List.length_filter_le (fun g => decide (g ≠ x.toNatClampNeg)) L
    obtain ⟨wt1, h1, h2, h3⟩ := fd_X_lvi (rc := rc) (cc := cc) (sl := sl) (nw := nw) (no := no) (ops := ops) (o1 := o1) (o2 := o2) (o3 := o3) (sz := sz) (st := st) (pr := pr) (pc := pc) (rg := rg) (wk := wk) (jn := jn) (sd := sd) (br := br) (io := io) (cp := cp) (cl := cl) (hd := hd) (ct := ct) (wc := wc) (rr := rr) (ab := ab) (dx := dx) (ox := ox) hx hy L [] 0 wt hl1 (fun i hi => absurd hi (Nat.not_lt_zero i)) (by rw [ec]; exact hl3) (Nat.le_refl 0) (by omega) (by rw [ec, hl4, Nat.zero_add])
    rw [ec, List.nil_append] at h1 h3
    rw [ec] at h2
    have hw1 : ∀ c', c' ≠ c → ∀ i, i < 12 → wt1 (12 * c' + i) = wt (12 * c' + i) := fun c' e i hi => h2 _ (by omega)
    obtain ⟨wt', wc', q1, q2, q3⟩ := ih (c + 1) wt1 (upd wc c (nI (L.filter (fun g => decide (g ≠ x.toNatClampNeg))).length)) (by omega) (by
      intro c' g1 g2
      obtain ⟨L', m1, m2, m3, m4⟩ := hL c' (by omega) g2
      exact ⟨L', m1, m2, fd_H_c m3 (fun i hi => hw1 c' (by omega) i (by omega)), by rw [pk_un (by omega)]; exact m4⟩)
    refine ⟨wt', wc', fun c' g => ⟨fun i hi => ?_, ?_⟩, fun c' g1 g2 L' m1 m2 m3 m4 => ?_, fun post H => ?_⟩
    · rw [(q1 c' (by omega)).1 i hi, hw1 c' (by omega) i hi]
    · rw [(q1 c' (by omega)).2, pk_un (by omega)]
    · by_cases e : c' = c
      · subst e
        have el : L' = L := fd_H_u m3 hl3 m1 hl1 ((nI_eq (by omega) (by omega)).mp (m4.symm.trans hl4))
        subst el
        exact ⟨fd_H_c h1 (fun i hi => (q1 c' (by omega)).1 i (by omega)), by rw [(q1 c' (by omega)).2, pk_us]⟩
      · exact q2 c' (by omega) g2 L' m1 m2 (fd_H_c m3 (fun i hi => hw1 c' e i (by omega))) (by rw [pk_un e]; exact m4)
    · refine br_f (nI_ge (b := 4) (by omega) (by decide)) ⟨L.length + 1, ?_⟩
      refine h3 post _ ?_
      rw [nI_1]
      exact q3 post H
end
end
section
section
variable {rc cc sl nw no : Int32} {ops o1 o2 o3 sz st pr pc rg wk jn sd br io cp cl hd ct wt wc rr ab dx ox : Nat → Int32}
theorem fd_X_leave {W : Int32 → Nat → Prop} {sp : Nat → Int64} {x : Int32} (hV : fd_V W sp wt wc) (hx : vp_in x 12) : ∃ wt' wc', fd_lv wt wc wt' wc' x.toNatClampNeg ∧ ∀ post : SX → Prop, post (rc, cc, sl, nw, no, ops, o1, o2, o3, sz, st, pr, pc, rg, wk, jn, sd, br, io, cp, cl, hd, ct, wt', wc', rr, ab, dx, ox) → wpX_leaveChannels post (rc, cc, sl, nw, no, ops, o1, o2, o3, sz, st, pr, pc, rg, wk, jn, sd, br, io, cp, cl, hd, ct, wt, wc, rr, ab, dx, ox) x := by
  obtain ⟨wt', wc', _, h2, h3⟩ := fd_X_lvo (rc := rc) (cc := cc) (sl := sl) (nw := nw) (no := no) (ops := ops) (o1 := o1) (o2 := o2) (o3 := o3) (sz := sz) (st := st) (pr := pr) (pc := pc) (rg := rg) (wk := wk) (jn := jn) (sd := sd) (br := br) (io := io) (cp := cp) (cl := cl) (hd := hd) (ct := ct) (rr := rr) (ab := ab) (dx := dx) (ox := ox) hx 4 0 wt wc rfl (by
    intro c' _ h4
    obtain ⟨L, hQ, hH, hc⟩ := hV (nI c') (vp_in_nI h4 (by omega))
    rw [nI_clamp (by omega)] at hH hc
    exact ⟨L, fun g hg => ((hQ.1 g).mp hg).1, fd_Q_len hQ, hH, hc⟩)
  refine ⟨wt', wc', fun y hy => h2 y.toNatClampNeg (Nat.zero_le _) (fd_lt hy), fun post H => ?_⟩
  unfold wpX_leaveChannels
  exact ⟨5, h3 post H⟩
theorem fd_X_release {W : Int32 → Nat → Prop} {sp : Nat → Int64} {x : Int32} (hV : fd_V W sp wt wc) (hx : vp_in x 12) (hr : vp_in rc 12) : ∃ wt' wc', fd_lv wt wc wt' wc' x.toNatClampNeg ∧ ∀ post : SX → Prop, post (rc + 1, cc, sl, nw, no, ops, o1, o2, o3, sz, upd st x.toNatClampNeg 1, pr, upd pc x.toNatClampNeg (pc x.toNatClampNeg + 1), rg, wk, jn, sd, br, io, cp, cl, hd, ct, wt', wc', upd rr rc.toNatClampNeg x, ab, dx, ox) → wpX_release post (rc, cc, sl, nw, no, ops, o1, o2, o3, sz, st, pr, pc, rg, wk, jn, sd, br, io, cp, cl, hd, ct, wt, wc, rr, ab, dx, ox) x := by
  obtain ⟨wt', wc', h1, h2⟩ := fd_X_leave (rc := rc) (cc := cc) (sl := sl) (nw := nw) (no := no) (ops := ops) (o1 := o1) (o2 := o2) (o3 := o3) (sz := sz) (st := st) (pr := pr) (pc := pc) (rg := rg) (wk := wk) (jn := jn) (sd := sd) (br := br) (io := io) (cp := cp) (cl := cl) (hd := hd) (ct := ct) (rr := rr) (ab := ab) (dx := dx) (ox := ox) hV hx
  refine ⟨wt', wc', h1, fun post H => ?_⟩
  unfold wpX_release
  exact h2 _ (And.intro hx ⟨hx, nm_e (fd_X_toRow hx hr H)⟩)
theorem fd_X_waitAt {post : SX → Prop} {x y : Int32} (hx : vp_in x 12) (hy : vp_in y 4) (hw : vp_in (wc y.toNatClampNeg) 12) (H : post (rc, cc, sl, nw, no, ops, o1, o2, o3, sz, upd st x.toNatClampNeg 3, pr, pc, rg, wk, upd jn x.toNatClampNeg (-1), sd, br, io, cp, cl, hd, ct, upd wt (12 * y.toNatClampNeg + (wc y.toNatClampNeg).toNatClampNeg) x, upd wc y.toNatClampNeg (wc y.toNatClampNeg + 1), rr, ab, dx, ox)) : wpX_waitAt post (rc, cc, sl, nw, no, ops, o1, o2, o3, sz, st, pr, pc, rg, wk, jn, sd, br, io, cp, cl, hd, ct, wt, wc, rr, ab, dx, ox) x y :=
  And.intro hx (nm_e ⟨hx, nm_e ⟨hy, (fd_c12 hy hw).1, nm_r (by rw [(fd_c12 hy hw).2]) ⟨hy, hy, nm_e H⟩⟩⟩)
theorem fd_X_hold {post : SX → Prop} {y v : Int32} (hy : vp_in y 4) (hc : vp_in (ct y.toNatClampNeg) 3) (H : post (rc, cc, sl, nw, no, ops, o1, o2, o3, sz, st, pr, pc, rg, wk, jn, sd, br, io, cp, cl, upd hd (3 * y.toNatClampNeg + (ct y.toNatClampNeg).toNatClampNeg) v, upd ct y.toNatClampNeg (ct y.toNatClampNeg + 1), wt, wc, rr, ab, dx, ox)) : wpX_hold post (rc, cc, sl, nw, no, ops, o1, o2, o3, sz, st, pr, pc, rg, wk, jn, sd, br, io, cp, cl, hd, ct, wt, wc, rr, ab, dx, ox) y v :=
  And.intro hy ⟨(fd_c3' hy hc).1, nm_r (by rw [(fd_c3' hy hc).2]) ⟨hy, hy, nm_e H⟩⟩
theorem fd_X_dl {post : SX → Prop} {y : Int32} (hy : vp_in y 4) {m : Nat} (hm : m < 3) (hc : ct y.toNatClampNeg = nI m) (H : post (rc, cc, sl, nw, no, ops, o1, o2, o3, sz, st, pr, pc, rg, wk, jn, sd, br, io, cp, cl, fd_sh hd (3 * y.toNatClampNeg) m, ct, wt, wc, rr, ab, dx, ox)) : ∀ d i : Nat, i + d = m → wX_dropFirstNumber_12 post y rc cc sl nw no (d + 1) (nI i) ops o1 o2 o3 sz st pr pc rg wk jn sd br io cp cl (fd_sh hd (3 * y.toNatClampNeg) i) ct wt wc rr ab dx ox := by
  intro d
  have hy4 := fd_lt hy
  induction d with
  | zero =>
    intro i hi
    have e : i = m := by omega
    subst e
    exact And.intro hy (br_t (by rw [hc]; exact Int32.le_refl _) H)
  | succ d ih =>
    intro i hi
    have ix := fd_c3' hy (vp_in_nI (n := i) (N := 3) (by omega) (by omega))
    rw [nI_clamp (by omega)] at ix
    have e1 : y * 3 + nI i = nI (3 * y.toNatClampNeg + i) := by rw [← ix.2]; exact fd_eq ix.1
    refine And.intro hy (br_f (by rw [hc]; exact nI_ge (by omega) (by omega)) ?_)
    rw [e1, nI_1, nI_clamp (by omega), nI_clamp (by omega)]
    exact ⟨vp_in_nI (by omega) (by omega), vp_in_nI (by omega) (by omega), nm_r (fd_sh_s hd (3 * y.toNatClampNeg) i) (nm_r (nI_1 i) (ih (i + 1) (by omega)))⟩
theorem fd_X_drop {post : SX → Prop} {y : Int32} (hy : vp_in y 4) {m : Nat} (hm : m < 3) (hc : ct y.toNatClampNeg = nI (m + 1)) (H : post (rc, cc, sl, nw, no, ops, o1, o2, o3, sz, st, pr, pc, rg, wk, jn, sd, br, io, cp, cl, fd_sh hd (3 * y.toNatClampNeg) m, upd ct y.toNatClampNeg (nI m), wt, wc, rr, ab, dx, ox)) : wpX_dropFirstNumber post (rc, cc, sl, nw, no, ops, o1, o2, o3, sz, st, pr, pc, rg, wk, jn, sd, br, io, cp, cl, hd, ct, wt, wc, rr, ab, dx, ox) y := by
  refine And.intro hy ⟨hy, nm_r (e' := upd ct y.toNatClampNeg (nI m)) (by rw [hc, nI_pred]) ⟨m + 1, ?_⟩⟩
  have q := fd_X_dl (rc := rc) (cc := cc) (sl := sl) (nw := nw) (no := no) (ops := ops) (o1 := o1) (o2 := o2) (o3 := o3) (sz := sz) (st := st) (pr := pr) (pc := pc) (rg := rg) (wk := wk) (jn := jn) (sd := sd) (br := br) (io := io) (cp := cp) (cl := cl) (hd := hd) (ct := upd ct y.toNatClampNeg (nI m)) (wt := wt) (wc := wc) (rr := rr) (ab := ab) (dx := dx) (ox := ox) hy hm pk_us H m 0 (Nat.zero_add m)
  rw [fd_sh_0] at q
  exact q
theorem fd_X_bdl {post : SX → Prop} {x z : Int32} (hx : vp_in x 3) (hz : vp_in z 12) {m : Nat} (hm : m < 12) (hc : rc = nI m) (H : post (rc, cc, sl, nw, no, ops, o1, o2, o3, sz, upd st z.toNatClampNeg 2, pr, pc, rg, wk, jn, sd, br, io, cp, cl, hd, ct, wt, wc, fd_sh rr 0 m, upd ab x.toNatClampNeg z, upd dx x.toNatClampNeg 0, ox)) : ∀ d i : Nat, i + d = m → wX_board_37 post x z rc cc sl nw no (d + 1) (nI i) ops o1 o2 o3 sz st pr pc rg wk jn sd br io cp cl hd ct wt wc (fd_sh rr 0 i) ab dx ox := by
  intro d
  induction d with
  | zero =>
    intro i hi
    have e : i = m := by omega
    subst e
    exact br_t (by rw [hc]; exact Int32.le_refl _) ⟨hz, nm_e ⟨hx, nm_e ⟨hx, nm_e H⟩⟩⟩
  | succ d ih =>
    intro i hi
    refine br_f (by rw [hc]; exact nI_ge (by omega) (by omega)) ?_
    have q := fd_sh_s rr 0 i
    rw [Nat.zero_add] at q
    rw [nI_1, nI_clamp (by omega), nI_clamp (by omega)]
    exact ⟨vp_in_nI (by omega) (by omega), vp_in_nI (by omega) (by omega), nm_r q (nm_e (ih (i + 1) (by omega)))⟩
theorem fd_X_board {post : SX → Prop} {x z : Int32} (hx : vp_in x 3) (hz : vp_in z 12) (ha : ab x.toNatClampNeg = -1) (h0 : rr 0 = z) {m : Nat} (hm : m < 12) (hc : rc = nI (m + 1)) (H : post (nI m, cc, sl, nw, no, ops, o1, o2, o3, sz, upd st z.toNatClampNeg 2, pr, pc, rg, wk, jn, sd, br, io, cp, cl, hd, ct, wt, wc, fd_sh rr 0 m, upd ab x.toNatClampNeg z, upd dx x.toNatClampNeg 0, ox)) : wpX_board post (rc, cc, sl, nw, no, ops, o1, o2, o3, sz, st, pr, pc, rg, wk, jn, sd, br, io, cp, cl, hd, ct, wt, wc, rr, ab, dx, ox) x := by
  refine And.intro hx (br_t ha (br_f (by rw [hc]; exact nI_ne0 (by omega) (by omega)) (nm_r h0 (nm_r (e' := nI m) (by rw [hc, nI_pred]) ⟨m + 1, ?_⟩))))
  have q := fd_X_bdl (rc := nI m) (cc := cc) (sl := sl) (nw := nw) (no := no) (ops := ops) (o1 := o1) (o2 := o2) (o3 := o3) (sz := sz) (st := st) (pr := pr) (pc := pc) (rg := rg) (wk := wk) (jn := jn) (sd := sd) (br := br) (io := io) (cp := cp) (cl := cl) (hd := hd) (ct := ct) (wt := wt) (wc := wc) (rr := rr) (ab := ab) (dx := dx) (ox := ox) hx hz hm rfl H m 0 (Nat.zero_add m)
  rw [fd_sh_0] at q
  exact q
theorem fd_X_fwl {W : Nat → Prop} {sp : Nat → Int64} {L : List Nat} {y : Int32} (b : Int32) (hQ : fd_Q W sp L) (hH : fd_H wt (12 * y.toNatClampNeg) L) (hc : wc y.toNatClampNeg = nI L.length) (hy : vp_in y 4) : ∀ d i : Nat, i + d = L.length → (∀ j, (hj : j < L.length) → j < i → ¬ sd (L[j]'hj) = b) → ∃ r, fd_Mi (fun g => W g ∧ sd g = b) sp 12 r ∧ ∀ post : Int32 → Prop, post r → wX_firstWaiting_2 post y b rc cc sl nw no ops o1 o2 o3 sz st pr pc rg wk jn sd br io cp cl hd ct wt wc rr ab dx ox (d + 1) (nI i) := by
  have hl := fd_Q_len hQ
  intro d
  induction d with
  | zero =>
    intro i hi hb
    refine ⟨-1, fd_M_none (K := fun g => sd g = b) hQ (fun j hj => hb j hj (by omega)), fun post H => And.intro hy (br_t ?_ H)⟩
    rw [hc, show i = L.length by omega]; exact Int32.le_refl _
  | succ d ih =>
    intro i hi hb
    have hi' : i < L.length := by omega
    have ix := fd_c12 hy (vp_in_nI (n := i) (N := 12) (by omega) (by omega))
    rw [nI_clamp (by omega)] at ix
    have hg := ((hQ.1 _).mp (List.getElem_mem hi')).1
    have hgt : ¬ wc y.toNatClampNeg ≤ nI i := by rw [hc]; exact nI_ge (by omega) (by omega)
    have eg : wt (y * 12 + nI i).toNatClampNeg = nI (L[i]'hi') := by rw [ix.2]; exact hH i hi'
    by_cases e : sd (L[i]'hi') = b
    · refine ⟨nI (L[i]'hi'), fd_M_first (K := fun g => sd g = b) hQ i hi' e hb, fun post H => And.intro hy (br_f hgt ⟨ix.1, nm_r eg ⟨vp_in_nI hg (by omega), br_t ?_ H⟩⟩)⟩
      rw [nI_clamp (by omega)]; exact e
    · obtain ⟨r, h1, h2⟩ := ih (i + 1) (by omega) (fun j hj l => by
        by_cases q : j = i
        · subst q; exact e
        · exact hb j hj (by omega))
      refine ⟨r, h1, fun post H => And.intro hy (br_f hgt ⟨ix.1, nm_r eg ⟨vp_in_nI hg (by omega), br_f ?_ (nm_r (nI_1 i) (h2 post H))⟩⟩)⟩
      rw [nI_clamp (by omega)]; exact e
theorem fd_X_fw {W : Int32 → Nat → Prop} {sp : Nat → Int64} {y : Int32} (b : Int32) (hV : fd_V W sp wt wc) (hy : vp_in y 4) : ∃ r, fd_Mi (fun g => W y g ∧ sd g = b) sp 12 r ∧ ∀ post : Int32 → Prop, post r → wpX_firstWaiting post (rc, cc, sl, nw, no, ops, o1, o2, o3, sz, st, pr, pc, rg, wk, jn, sd, br, io, cp, cl, hd, ct, wt, wc, rr, ab, dx, ox) y b := by
  obtain ⟨L, hQ, hH, hc⟩ := hV y hy
  obtain ⟨r, h1, h2⟩ := fd_X_fwl (rc := rc) (cc := cc) (sl := sl) (nw := nw) (no := no) (ops := ops) (o1 := o1) (o2 := o2) (o3 := o3) (sz := sz) (st := st) (pr := pr) (pc := pc) (rg := rg) (wk := wk) (jn := jn) (sd := sd) (br := br) (io := io) (cp := cp) (cl := cl) (hd := hd) (ct := ct) (rr := rr) (ab := ab) (dx := dx) (ox := ox) b hQ hH hc hy L.length 0 (Nat.zero_add _) (fun j hj l => absurd l (Nat.not_lt_zero j))
  refine ⟨r, h1, fun post H => ?_⟩
  unfold wpX_firstWaiting
  exact ⟨_, h2 post H⟩
end
theorem fd_c0 {x : Int32} {n : Nat} (h : vp_in x n) : 0 < x ↔ ¬ x = 0 := by
  obtain ⟨j, hj, rfl⟩ := nI_of (fd_nn h)
  rw [← nI_0, nI_ltI (by omega) hj, nI_eq hj (by omega)]
  omega
theorem fd_c0' {x : Int32} {n : Nat} (h : vp_in x n) : x ≤ 0 ↔ x = 0 := by
  rw [← Int32.not_lt, fd_c0 h]
  exact Decidable.not_not
def fd_gv (ct cl r : Int32) : Prop := ¬ ct = 0 ∨ ¬ cl = 0 ∨ ¬ r = -1
section
variable {rc cc sl nw no : Int32} {ops o1 o2 o3 sz st pr pc rg wk jn sd br io cp cl hd ct wt wc rr ab dx ox : Nat → Int32}
theorem fd_X_ga {y r : Int32} (hf : ∀ post : Int32 → Prop, post r → wpX_firstWaiting post (rc, cc, sl, nw, no, ops, o1, o2, o3, sz, st, pr, pc, rg, wk, jn, sd, br, io, cp, cl, hd, ct, wt, wc, rr, ab, dx, ox) y 1) (hy : vp_in y 4) (hc : vp_in (ct y.toNatClampNeg) 4) {post : Int32 → Prop} (h1 : fd_gv (ct y.toNatClampNeg) (cl y.toNatClampNeg) r → post 1) (h0 : ¬ fd_gv (ct y.toNatClampNeg) (cl y.toNatClampNeg) r → post 0) : wpX_givesAtOnce post (rc, cc, sl, nw, no, ops, o1, o2, o3, sz, st, pr, pc, rg, wk, jn, sd, br, io, cp, cl, hd, ct, wt, wc, rr, ab, dx, ox) y := by
  refine And.intro hy ⟨fun q => h1 (Or.inl ((fd_c0 hc).mp q)), fun q => ⟨hy, fun q1 => hf _ ?_, fun q1 => h1 (Or.inr (Or.inl q1))⟩⟩
  refine br_c (fun q2 => h0 ?_) (fun q2 => h1 (Or.inr (Or.inr q2)))
  rintro (z | z | z)
  · exact q ((fd_c0 hc).mpr z)
  · exact z q1
  · exact z q2
end
end
section
def fd_kd (k : Int32) (K Z : Nat → Prop) : Prop := (k = -1 ∧ ∀ g, K g) ∨ (k = 1 ∧ ∀ g, (K g ↔ Z g)) ∨ (k = 0 ∧ ∀ g, (K g ↔ ¬ Z g))
theorem fd_rm (st : Nat → Int32) : (∀ g, g < 12 → fd_aw (st g)) ∨ ∃ b, b < 12 ∧ ¬ fd_aw (st b) ∧ ∀ g, g < b → fd_aw (st g) := by
  have key : ∀ n, n ≤ 12 → (∀ g, g < n → fd_aw (st g)) ∨ ∃ b, b < 12 ∧ ¬ fd_aw (st b) ∧ ∀ g, g < b → fd_aw (st g) := by
    intro n
    induction n with
    | zero => intro _; exact Or.inl (fun g hg => absurd hg (Nat.not_lt_zero g))
    | succ n ih =>
      intro hn
      rcases ih (by omega) with h | h
      · rcases Classical.em (fd_aw (st n)) with q | q
        · exact Or.inl (lt_s h q)
        · exact Or.inr ⟨n, by omega, q, h⟩
      · exact Or.inr h
  exact key 12 (Nat.le_refl 12)
section
variable {rc cc sl nw no : Int32} {ops o1 o2 o3 sz st pr pc rg wk jn sd br io cp cl hd ct wt wc rr ab dx ox : Nat → Int32} {ss : Int64} {yy : Int32} {sp : Nat → Int64} {dy ly : Nat → Int32}
theorem fd_Y_aw {post : Int32 → Prop} {x : Int32} (hx : vp_in x 12) (h1 : fd_aw (st x.toNatClampNeg) → post 1) (h0 : ¬ fd_aw (st x.toNatClampNeg) → post 0) : wpY_isAtWork post (cc, sl, nw, no, ss, yy, ops, o1, o2, o3, sz, st, pr, pc, rg, wk, sp, cp, cl, hd, ct, ab, dy, ly) x :=
  And.intro hx (And.intro (fun q => ⟨rfl, h0 (fun z => ((fd_aw_i _).mp z).1 q)⟩) (fun q => ⟨fun q' => ⟨rfl, h0 (fun z => ((fd_aw_i _).mp z).2 q')⟩, fun q' => ⟨rfl, h1 ((fd_aw_i _).mpr ⟨q, q'⟩)⟩⟩))
theorem fd_Y_wa {post : Int32 → Prop} {x y : Int32} (hx : vp_in x 12) (hF : fd_F ops o1 o2 o3 st pr pc rg jn sd br io x.toNatClampNeg) (h1 : fd_wa ops o1 o2 st pr pc y x.toNatClampNeg → post 1) (h0 : ¬ fd_wa ops o1 o2 st pr pc y x.toNatClampNeg → post 0) : wpY_waitsAt post (cc, sl, nw, no, ss, yy, ops, o1, o2, o3, sz, st, pr, pc, rg, wk, sp, cp, cl, hd, ct, ab, dy, ly) x y := by
  by_cases s : st x.toNatClampNeg = 3
  · have p := hF.1 (Or.inr (Or.inr (Or.inl s)))
    have ix := fd_p12 p.1 p.2
    have ek : fd_k pr pc x.toNatClampNeg = (12 * pr x.toNatClampNeg + pc x.toNatClampNeg).toNatClampNeg := ix.2.symm
    unfold fd_wa at h1 h0
    rw [ek] at h1 h0
    have hr := ix.1
    refine And.intro hx (br_t s (And.intro hx (And.intro hx ?_)))
    show vp_in (12 * pr x.toNatClampNeg + pc x.toNatClampNeg) 84 ∧ _
    generalize 12 * pr x.toNatClampNeg + pc x.toNatClampNeg = r at hr h1 h0
    have n61 : ¬ ((ops r.toNatClampNeg = 6 ∨ ops r.toNatClampNeg = 7 ∨ ops r.toNatClampNeg = 8) ∧ o1 r.toNatClampNeg = y) → wY_waitsAt_61 post y r cc sl nw no ss yy ops o1 o2 o3 sz st pr pc rg wk sp cp cl hd ct ab dy ly := fun nq =>
      And.intro hr (br_c (fun q => ⟨hr, fun q1 => h1 ⟨s, Or.inr ⟨q, q1⟩⟩, fun q1 => h0 (fun z => z.2.elim nq (fun w => q1 w.2))⟩) (fun q => h0 (fun z => z.2.elim nq (fun w => q w.1))))
    have n51 : (ops r.toNatClampNeg = 6 ∨ ops r.toNatClampNeg = 7 ∨ ops r.toNatClampNeg = 8) → wY_waitsAt_51 post y r cc sl nw no ss yy ops o1 o2 o3 sz st pr pc rg wk sp cp cl hd ct ab dy ly := fun q =>
      And.intro hr (br_c (fun q1 => h1 ⟨s, Or.inl ⟨q, q1⟩⟩) (fun q1 => n61 (fun w => q1 w.2)))
    exact ⟨hr, fun q => n51 (Or.inl q), fun a1 => ⟨hr, fun q => n51 (Or.inr (Or.inl q)), fun a2 => ⟨hr, fun q => n51 (Or.inr (Or.inr q)), fun a3 => n61 (fun w => w.1.elim a1 (fun z => z.elim a2 a3))⟩⟩⟩
  · exact And.intro hx (br_f s (h0 (fun z => s z.1)))
theorem fd_Y_sd {post : Int32 → Prop} {x : Int32} (hx : vp_in x 12) (hp : vp_in (pr x.toNatClampNeg) 6 ∧ vp_in (pc x.toNatClampNeg) 13) (h1 : ops (fd_k pr pc x.toNatClampNeg) = 6 → post 1) (h0 : ¬ ops (fd_k pr pc x.toNatClampNeg) = 6 → post 0) : wpY_sends post (cc, sl, nw, no, ss, yy, ops, o1, o2, o3, sz, st, pr, pc, rg, wk, sp, cp, cl, hd, ct, ab, dy, ly) x := by
  have ix := fd_p12 hp.1 hp.2
  have ek : fd_k pr pc x.toNatClampNeg = (12 * pr x.toNatClampNeg + pc x.toNatClampNeg).toNatClampNeg := ix.2.symm
  rw [ek] at h1 h0
  exact And.intro hx (And.intro hx ⟨ix.1, h1, h0⟩)
theorem fd_Y_55 {P : Nat → Prop} {y k r : Int32} {i : Nat} (hi : i < 12) (h : fd_Mi P sp i r) (hP : P i) : ∃ r1, fd_Mi P sp (i + 1) r1 ∧ ∀ (post : Int32 → Prop) (J : Int32 → Int32 → Prop), J r1 (nI (i + 1)) → wY_first_55 post J y k r (nI i) cc sl nw no ss yy ops o1 o2 o3 sz st pr pc rg wk sp cp cl hd ct ab dy ly := by
  have ei : (nI i).toNatClampNeg = i := nI_clamp (by omega)
  by_cases q : r < 0
  · exact ⟨nI i, fd_Mi_1 h (by omega) q hP, fun post J H => br_t q (nm_r (nI_1 i) H)⟩
  · have hr := fd_Mi_in h (by omega) q
    by_cases z : sp r.toNatClampNeg ≤ sp i
    · exact ⟨r, fd_Mi_k h (by omega) q z, fun post J H => br_f q ⟨vp_in_nI hi (by omega), hr, br_t (by rw [ei]; exact z) (nm_r (nI_1 i) H)⟩⟩
    · exact ⟨nI i, fd_Mi_n h (by omega) q z hP, fun post J H => br_f q ⟨vp_in_nI hi (by omega), hr, br_f (by rw [ei]; exact z) (nm_r (nI_1 i) H)⟩⟩
theorem fd_Y_fl {y k : Int32} {K : Nat → Prop} (hF : ∀ g, g < 12 → fd_F ops o1 o2 o3 st pr pc rg jn sd br io g) (hk : fd_kd k K (fun g => ops (fd_k pr pc g) = 6)) : ∀ (d i : Nat) (r : Int32), i + d = 12 → fd_Mi (fun g => fd_wa ops o1 o2 st pr pc y g ∧ K g) sp i r → ∃ r', fd_Mi (fun g => fd_wa ops o1 o2 st pr pc y g ∧ K g) sp 12 r' ∧ ∀ post : Int32 → Prop, post r' → wY_first_5 post y k cc sl nw no ss yy ops o1 o2 o3 sz st pr pc rg wk sp cp cl hd ct ab dy ly (d + 1) r (nI i) := by
  intro d
  induction d with
  | zero =>
    intro i r hi h
    have e : i = 12 := by omega
    subst e
    exact ⟨r, h, fun post H => br_t (by decide) H⟩
  | succ d ih =>
    intro i r hi h
    have ei : (nI i).toNatClampNeg = i := nI_clamp (by omega)
    have hi12 : vp_in (nI i) 12 := vp_in_nI (by omega) (by omega)
    have n12 : ¬ (12 : Int32) ≤ nI i := nI_ge (b := 12) (by omega) (by decide)
    have hFi : fd_F ops o1 o2 o3 st pr pc rg jn sd br io (nI i).toNatClampNeg := by rw [ei]; exact hF i (by omega)
    rcases Classical.em (fd_wa ops o1 o2 st pr pc y i) with w | w
    · have w' : fd_wa ops o1 o2 st pr pc y (nI i).toNatClampNeg := by rw [ei]; exact w
      have hp := hFi.1 (Or.inr (Or.inr (Or.inl w'.1)))
      rcases Classical.em (K i) with kk | kk
      · obtain ⟨r1, g1, g2⟩ := fd_Y_55 (cc := cc) (sl := sl) (nw := nw) (no := no) (ss := ss) (yy := yy) (ops := ops) (o1 := o1) (o2 := o2) (o3 := o3) (sz := sz) (st := st) (pr := pr) (pc := pc) (rg := rg) (wk := wk) (cp := cp) (cl := cl) (hd := hd) (ct := ct) (ab := ab) (dy := dy) (ly := ly) (y := y) (k := k) (by omega) h ⟨w, kk⟩
        obtain ⟨r', h1, h2⟩ := ih (i + 1) r1 (by omega) g1
        refine ⟨r', h1, fun post H => br_f n12 (fd_Y_wa hi12 hFi (fun _ => br_f (by decide) (fd_Y_sd hi12 hp (fun z => ?_) (fun z => ?_))) (fun z => absurd w' z))⟩
        · rw [ei] at z
          rcases hk with ⟨e, _⟩ | ⟨e, e2⟩ | ⟨e, e2⟩
          · exact br_t (by rw [e]; decide) (g2 _ _ (h2 post H))
          · exact br_f (by rw [e]; decide) (br_t e (br_t rfl (g2 _ _ (h2 post H))))
          · exact absurd z ((e2 i).mp kk)
        · rw [ei] at z
          rcases hk with ⟨e, _⟩ | ⟨e, e2⟩ | ⟨e, e2⟩
          · exact br_t (by rw [e]; decide) (g2 _ _ (h2 post H))
          · exact absurd ((e2 i).mp kk) z
          · exact br_f (by rw [e]; decide) (br_f (by rw [e]; decide) (br_t rfl (g2 _ _ (h2 post H))))
      · obtain ⟨r', h1, h2⟩ := ih (i + 1) r (by omega) (fd_Mi_no h (fun z => kk z.2))
        refine ⟨r', h1, fun post H => br_f n12 (fd_Y_wa hi12 hFi (fun _ => br_f (by decide) (fd_Y_sd hi12 hp (fun z => ?_) (fun z => ?_))) (fun z => absurd w' z))⟩
        · rw [ei] at z
          rcases hk with ⟨e, e2⟩ | ⟨e, e2⟩ | ⟨e, e2⟩
          · exact absurd (e2 i) kk
          · exact absurd ((e2 i).mpr z) kk
          · exact br_f (by rw [e]; decide) (br_f (by rw [e]; decide) (br_f (by decide) (nm_r (nI_1 i) (h2 post H))))
        · rw [ei] at z
          rcases hk with ⟨e, e2⟩ | ⟨e, e2⟩ | ⟨e, e2⟩
          · exact absurd (e2 i) kk
          · exact br_f (by rw [e]; decide) (br_t e (br_f (by decide) (nm_r (nI_1 i) (h2 post H))))
          · exact absurd ((e2 i).mpr z) kk
    · have w' : ¬ fd_wa ops o1 o2 st pr pc y (nI i).toNatClampNeg := by rw [ei]; exact w
      obtain ⟨r', h1, h2⟩ := ih (i + 1) r (by omega) (fd_Mi_no h (fun z => w z.1))
      exact ⟨r', h1, fun post H => br_f n12 (fd_Y_wa hi12 hFi (fun z => absurd z w') (fun _ => br_t rfl (nm_r (nI_1 i) (h2 post H))))⟩
theorem fd_Y_first {y k : Int32} {K : Nat → Prop} (hF : ∀ g, g < 12 → fd_F ops o1 o2 o3 st pr pc rg jn sd br io g) (hk : fd_kd k K (fun g => ops (fd_k pr pc g) = 6)) : ∃ r, fd_Mi (fun g => fd_wa ops o1 o2 st pr pc y g ∧ K g) sp 12 r ∧ ∀ post : Int32 → Prop, post r → wpY_first post (cc, sl, nw, no, ss, yy, ops, o1, o2, o3, sz, st, pr, pc, rg, wk, sp, cp, cl, hd, ct, ab, dy, ly) y k := by
  obtain ⟨r, h1, h2⟩ := fd_Y_fl (cc := cc) (sl := sl) (nw := nw) (no := no) (ss := ss) (yy := yy) (sz := sz) (wk := wk) (cp := cp) (cl := cl) (hd := hd) (ct := ct) (ab := ab) (dy := dy) (ly := ly) (y := y) (sp := sp) hF hk 12 0 (-1) rfl fd_Mi_0
  refine ⟨r, h1, fun post H => ?_⟩
  unfold wpY_first
  exact ⟨_, h2 post H⟩
theorem fd_Y_frl : ∀ (d i : Nat) (r : Int32), i + d = 12 → fd_Mi (fun g => st g = 1) sp i r → ∃ r', fd_Mi (fun g => st g = 1) sp 12 r' ∧ ∀ post : Int32 → Prop, post r' → wY_firstReady_4 post cc sl nw no ss yy ops o1 o2 o3 sz st pr pc rg wk sp cp cl hd ct ab dy ly (d + 1) r (nI i) := by
  intro d
  induction d with
  | zero =>
    intro i r hi h
    have e : i = 12 := by omega
    subst e
    exact ⟨r, h, fun post H => br_t (by decide) H⟩
  | succ d ih =>
    intro i r hi h
    have ei : (nI i).toNatClampNeg = i := nI_clamp (by omega)
    have hi12 : vp_in (nI i) 12 := vp_in_nI (by omega) (by omega)
    have n12 : ¬ (12 : Int32) ≤ nI i := nI_ge (b := 12) (by omega) (by decide)
    by_cases w : st i = 1
    · have w' : st (nI i).toNatClampNeg = 1 := by rw [ei]; exact w
      by_cases q : r < 0
      · obtain ⟨r', h1, h2⟩ := ih (i + 1) (nI i) (by omega) (fd_Mi_1 h (by omega) q w)
        exact ⟨r', h1, fun post H => br_f n12 ⟨hi12, br_t w' (br_t q (nm_r (nI_1 i) (h2 post H)))⟩⟩
      · have hr := fd_Mi_in h (by omega) q
        by_cases z : sp r.toNatClampNeg ≤ sp i
        · obtain ⟨r', h1, h2⟩ := ih (i + 1) r (by omega) (fd_Mi_k h (by omega) q z)
          exact ⟨r', h1, fun post H => br_f n12 ⟨hi12, br_t w' (br_f q ⟨hi12, hr, br_t (by rw [ei]; exact z) (nm_r (nI_1 i) (h2 post H))⟩)⟩⟩
        · obtain ⟨r', h1, h2⟩ := ih (i + 1) (nI i) (by omega) (fd_Mi_n h (by omega) q z w)
          exact ⟨r', h1, fun post H => br_f n12 ⟨hi12, br_t w' (br_f q ⟨hi12, hr, br_f (by rw [ei]; exact z) (nm_r (nI_1 i) (h2 post H))⟩)⟩⟩
    · have w' : ¬ st (nI i).toNatClampNeg = 1 := by rw [ei]; exact w
      obtain ⟨r', h1, h2⟩ := ih (i + 1) r (by omega) (fd_Mi_no h w)
      exact ⟨r', h1, fun post H => br_f n12 ⟨hi12, br_f w' (nm_r (nI_1 i) (h2 post H))⟩⟩
theorem fd_Y_fr : ∃ r, fd_Mi (fun g => st g = 1) sp 12 r ∧ ∀ post : Int32 → Prop, post r → wpY_firstReady post (cc, sl, nw, no, ss, yy, ops, o1, o2, o3, sz, st, pr, pc, rg, wk, sp, cp, cl, hd, ct, ab, dy, ly) := by
  obtain ⟨r, h1, h2⟩ := fd_Y_frl (cc := cc) (sl := sl) (nw := nw) (no := no) (ss := ss) (yy := yy) (ops := ops) (o1 := o1) (o2 := o2) (o3 := o3) (sz := sz) (st := st) (pr := pr) (pc := pc) (rg := rg) (wk := wk) (cp := cp) (cl := cl) (hd := hd) (ct := ct) (ab := ab) (dy := dy) (ly := ly) (sp := sp) 12 0 (-1) rfl fd_Mi_0
  refine ⟨r, h1, fun post H => ?_⟩
  unfold wpY_firstReady
  exact ⟨_, h2 post H⟩
theorem fd_Y_ready {post : SY → Prop} {x : Int32} (hx : vp_in x 12) (H : post (cc, sl, nw, no, ss + 1, yy, ops, o1, o2, o3, sz, upd st x.toNatClampNeg 1, pr, pc, rg, wk, vp_updL sp x.toNatClampNeg (ss + 1), cp, cl, hd, ct, ab, dy, ly)) : wpY_ready post (cc, sl, nw, no, ss, yy, ops, o1, o2, o3, sz, st, pr, pc, rg, wk, sp, cp, cl, hd, ct, ab, dy, ly) x :=
  And.intro hx (nm_e (nm_e ⟨hx, nm_e H⟩))
theorem fd_Y_rest {post : SY → Prop} {x : Int32} (hx : vp_in x 12) (H : post (cc, sl, nw, no, ss + 1, yy, ops, o1, o2, o3, sz, upd st x.toNatClampNeg 3, pr, pc, rg, wk, vp_updL sp x.toNatClampNeg (ss + 1), cp, cl, hd, ct, ab, dy, ly)) : wpY_rest post (cc, sl, nw, no, ss, yy, ops, o1, o2, o3, sz, st, pr, pc, rg, wk, sp, cp, cl, hd, ct, ab, dy, ly) x :=
  And.intro hx (nm_e (nm_e ⟨hx, nm_e H⟩))
theorem fd_Y_goOn {post : SY → Prop} {x : Int32} (hx : vp_in x 12) (H : post (cc, sl, nw, no, ss + 1, yy, ops, o1, o2, o3, sz, upd st x.toNatClampNeg 1, pr, upd pc x.toNatClampNeg (pc x.toNatClampNeg + 1), rg, wk, vp_updL sp x.toNatClampNeg (ss + 1), cp, cl, hd, ct, ab, dy, ly)) : wpY_goOn post (cc, sl, nw, no, ss, yy, ops, o1, o2, o3, sz, st, pr, pc, rg, wk, sp, cp, cl, hd, ct, ab, dy, ly) x :=
  And.intro hx ⟨hx, nm_e (fd_Y_ready hx H)⟩
theorem fd_io {f : Nat} (hF : fd_F ops o1 o2 o3 st pr pc rg jn sd br io f) (s : st f = 3) (h6 : ¬ ops (fd_k pr pc f) = 6) : vp_in (io f) 3 ∧ ((ops (fd_k pr pc f) = 8 ∧ io f = o3 (fd_k pr pc f)) ∨ (¬ ops (fd_k pr pc f) = 8 ∧ io f = o2 (fd_k pr pc f))) := by
  obtain ⟨_, hg, hw⟩ := hF.2 s
  obtain ⟨_, _, g3, _, _, g6, g7, _, _⟩ := hg
  rcases hw with q | q | q | q
  · exact absurd q.1 h6
  · exact ⟨by rw [q.2.2.2]; exact (g6 (Or.inr q.1)).2, Or.inr ⟨by rw [q.1]; decide, q.2.2.2⟩⟩
  · exact ⟨by rw [q.2.2.2]; exact (g7 q.1).2.2, Or.inl ⟨q.1, q.2.2.2⟩⟩
  · exact ⟨by rw [q.2.2]; exact (g3 (Or.inr q.1)).2, Or.inr ⟨by rw [q.1]; decide, q.2.2⟩⟩
theorem fd_Y_tg {post : Int32 → Prop} {x : Int32} (hx : vp_in x 12) (hF : fd_F ops o1 o2 o3 st pr pc rg jn sd br io x.toNatClampNeg) (s : st x.toNatClampNeg = 3) (h6 : ¬ ops (fd_k pr pc x.toNatClampNeg) = 6) (H : post (3 * x + io x.toNatClampNeg)) : wpY_target post (cc, sl, nw, no, ss, yy, ops, o1, o2, o3, sz, st, pr, pc, rg, wk, sp, cp, cl, hd, ct, ab, dy, ly) x := by
  have hp := hF.1 (Or.inr (Or.inr (Or.inl s)))
  have ix := fd_p12 hp.1 hp.2
  have ek : fd_k pr pc x.toNatClampNeg = (12 * pr x.toNatClampNeg + pc x.toNatClampNeg).toNatClampNeg := ix.2.symm
  have q := (fd_io hF s h6).2
  rw [ek] at q
  refine And.intro hx (And.intro hx ⟨ix.1, ?_⟩)
  rcases q with ⟨q1, q2⟩ | ⟨q1, q2⟩
  · exact br_t q1 ⟨ix.1, by rw [← q2]; exact H⟩
  · exact br_f q1 ⟨ix.1, by rw [← q2]; exact H⟩
theorem fd_Y_give {post : SY → Prop} {x v : Int32} (hx : vp_in x 12) (hF : fd_F ops o1 o2 o3 st pr pc rg jn sd br io x.toNatClampNeg) (s : st x.toNatClampNeg = 3) (h6 : ¬ ops (fd_k pr pc x.toNatClampNeg) = 6) (H : post (cc, sl, nw, no, ss + 1, yy, ops, o1, o2, o3, sz, upd st x.toNatClampNeg 1, pr, upd pc x.toNatClampNeg (pc x.toNatClampNeg + 1), upd rg (3 * x.toNatClampNeg + (io x.toNatClampNeg).toNatClampNeg) v, wk, vp_updL sp x.toNatClampNeg (ss + 1), cp, cl, hd, ct, ab, dy, ly)) : wpY_give post (cc, sl, nw, no, ss, yy, ops, o1, o2, o3, sz, st, pr, pc, rg, wk, sp, cp, cl, hd, ct, ab, dy, ly) x v := by
  have ii := fd_3 hx (fd_io hF s h6).1
  unfold wpY_give
  exact fd_Y_tg hx hF s h6 ⟨ii.1, nm_r (by rw [ii.2]) (fd_Y_goOn hx H)⟩
theorem fd_Y_sent {post : Int32 → Prop} {x : Int32} (hx : vp_in x 12) (hF : fd_F ops o1 o2 o3 st pr pc rg jn sd br io x.toNatClampNeg) (s : st x.toNatClampNeg = 3) (h6 : ops (fd_k pr pc x.toNatClampNeg) = 6) (H : post (br x.toNatClampNeg)) : wpY_sent post (cc, sl, nw, no, ss, yy, ops, o1, o2, o3, sz, st, pr, pc, rg, wk, sp, cp, cl, hd, ct, ab, dy, ly) x := by
  have hp := hF.1 (Or.inr (Or.inr (Or.inl s)))
  have ix := fd_p12 hp.1 hp.2
  have ek : fd_k pr pc x.toNatClampNeg = (12 * pr x.toNatClampNeg + pc x.toNatClampNeg).toNatClampNeg := ix.2.symm
  obtain ⟨_, hg, hw⟩ := hF.2 s
  have hb := (hg.2.2.2.2.2.1 (Or.inl h6)).2
  have e : br x.toNatClampNeg = rg (3 * x.toNatClampNeg + (o2 (fd_k pr pc x.toNatClampNeg)).toNatClampNeg) := by
    rcases hw with q | q | q | q
    · exact q.2.2.2
    · exact absurd (h6.symm.trans q.1) (by decide)
    · exact absurd (h6.symm.trans q.1) (by decide)
    · exact absurd (h6.symm.trans q.1) (by decide)
  rw [ek] at hb e
  have ii := fd_3 hx hb
  refine And.intro hx (And.intro hx ⟨ix.1, ii.1, ?_⟩)
  show post (rg (3 * x + o2 (12 * pr x.toNatClampNeg + pc x.toNatClampNeg).toNatClampNeg).toNatClampNeg)
  rw [ii.2, ← e]; exact H
theorem fd_Y_rl : (∀ g, g < 12 → fd_aw (st g)) → ∀ {post : Int32 → Prop}, post (-1) → ∀ d i : Nat, i + d = 12 → wY_room_2 post cc sl nw no ss yy ops o1 o2 o3 sz st pr pc rg wk sp cp cl hd ct ab dy ly (d + 1) (nI i) := by
  intro ha post H d
  induction d with
  | zero => intro i hi; have e : i = 12 := by omega
            subst e; exact br_t (by decide) H
  | succ d ih =>
    intro i hi
    have ei : (nI i).toNatClampNeg = i := nI_clamp (by omega)
    exact br_f (nI_ge (b := 12) (by omega) (by decide)) (fd_Y_aw (vp_in_nI (by omega) (by omega)) (fun _ => br_f (by decide) (nm_r (nI_1 i) (ih (i + 1) (by omega)))) (fun z => absurd (by rw [ei]; exact ha i (by omega)) z))
theorem fd_Y_rlb {b : Nat} (hb : b < 12) (hn : ¬ fd_aw (st b)) (ha : ∀ g, g < b → fd_aw (st g)) {post : Int32 → Prop} (H : post (nI b)) : ∀ d i : Nat, i + d = b → wY_room_2 post cc sl nw no ss yy ops o1 o2 o3 sz st pr pc rg wk sp cp cl hd ct ab dy ly (d + 1) (nI i) := by
  intro d
  induction d with
  | zero =>
    intro i hi
    have e : i = b := by omega
    subst e
    have ei : (nI i).toNatClampNeg = i := nI_clamp (by omega)
    exact br_f (nI_ge (b := 12) (by omega) (by decide)) (fd_Y_aw (vp_in_nI (by omega) (by omega)) (fun z => absurd (by rw [ei] at z; exact z) hn) (fun _ => br_t rfl H))
  | succ d ih =>
    intro i hi
    have ei : (nI i).toNatClampNeg = i := nI_clamp (by omega)
    exact br_f (nI_ge (b := 12) (by omega) (by decide)) (fd_Y_aw (vp_in_nI (by omega) (by omega)) (fun _ => br_f (by decide) (nm_r (nI_1 i) (ih (i + 1) (by omega)))) (fun z => absurd (by rw [ei]; exact ha i (by omega)) z))
theorem fd_Y_ww {y r : Int32} (hf : ∀ post : Int32 → Prop, post r → wpY_first post (cc, sl, nw, no, ss, yy, ops, o1, o2, o3, sz, st, pr, pc, rg, wk, sp, cp, cl, hd, ct, ab, dy, ly) y 1) (hr : 0 ≤ r ↔ ¬ r = -1) (hy : vp_in y 4) {post : Int32 → Prop} (h0 : fd_gv (ct y.toNatClampNeg) (cl y.toNatClampNeg) r → post 0) (h1 : ¬ fd_gv (ct y.toNatClampNeg) (cl y.toNatClampNeg) r → post 1) : wpY_wouldWait post (cc, sl, nw, no, ss, yy, ops, o1, o2, o3, sz, st, pr, pc, rg, wk, sp, cp, cl, hd, ct, ab, dy, ly) y := by
  refine And.intro hy (br_c (fun q => ⟨hy, fun q1 => hf _ ?_, fun q1 => h0 (Or.inr (Or.inl q1))⟩) (fun q => h0 (Or.inl q)))
  refine br_c (fun q2 => h0 (Or.inr (Or.inr (hr.mp q2)))) (fun q2 => h1 ?_)
  rintro (z | z | z)
  · exact z q
  · exact z q1
  · exact q2 (hr.mpr z)
theorem fd_Y_tl {post : Int32 → SY → Prop} {y x2 x3 x4 : Int32} (hy : vp_in y 4) {m : Nat} (hm : m < 3) (hc : ct y.toNatClampNeg = nI m) (Hn : x2 < 0 → wY_take_133 post x2 x4 cc sl nw no ss yy ops o1 o2 o3 sz st pr pc rg wk sp cp cl (fd_sh hd (3 * y.toNatClampNeg) m) ct ab dy ly) (Hp : ¬ x2 < 0 → wY_take_133 post x2 x4 cc sl nw no ss yy ops o1 o2 o3 sz st pr pc rg wk sp cp cl (upd (fd_sh hd (3 * y.toNatClampNeg) m) (3 * y.toNatClampNeg + m) x3) (upd ct y.toNatClampNeg (nI m + 1)) ab dy ly) : ∀ d i : Nat, i + d = m → wY_take_71 post y x2 x3 x4 cc sl nw no ss yy (d + 1) (nI (3 * y.toNatClampNeg + i)) ops o1 o2 o3 sz st pr pc rg wk sp cp cl (fd_sh hd (3 * y.toNatClampNeg) i) ct ab dy ly := by
  have hy4 := fd_lt hy
  have im := fd_c3 hy (vp_in_nI (n := m) (N := 3) hm (by omega))
  rw [nI_clamp (by omega)] at im
  have em : 3 * y + nI m = nI (3 * y.toNatClampNeg + m) := by rw [← im.2]; exact fd_eq im.1
  intro d
  induction d with
  | zero =>
    intro i hi
    have e : i = m := by omega
    subst e
    refine And.intro hy (br_t (by rw [hc, em]; exact Int32.le_refl _) (br_c Hn (fun q => ?_)))
    rw [hc, em, nI_clamp (by omega)]
    exact ⟨hy, hy, nm_e ⟨vp_in_nI (by omega) (by omega), nm_e (Hp q)⟩⟩
  | succ d ih =>
    intro i hi
    refine And.intro hy (br_f (by rw [hc, em]; exact nI_ge (by omega) (by omega)) ?_)
    rw [nI_1, nI_clamp (by omega), nI_clamp (by omega)]
    exact ⟨vp_in_nI (by omega) (by omega), vp_in_nI (by omega) (by omega), nm_r (fd_sh_s hd (3 * y.toNatClampNeg) i) (nm_e (ih (i + 1) (by omega)))⟩
end
end
section
def fd_run (k0 : Nat) (st ab : Nat → Int32) (x : Int32) : Prop := vp_in x 12 ∧ st x.toNatClampNeg = 2 ∧ k0 < 3 ∧ ab k0 = x
def fd_e (e : Int32) : Prop := e = 5 ∨ e = 6
theorem fd_e_n {e : Int32} (h : fd_e e) : ¬ (e = 1 ∨ e = 2 ∨ e = 3 ∨ e = 4) := by
  rcases h with h | h <;> subst h <;> decide
theorem fd_e_1 {e : Int32} (h : fd_e e) : e ≠ 1 := fun z => fd_e_n h (Or.inl z)
theorem fd_e_3 {e : Int32} (h : fd_e e) : e ≠ 3 := fun z => fd_e_n h (Or.inr (Or.inr (Or.inl z)))
theorem fd_Rel_m {B B' s s' k0 : Nat} {W0 W0' : Int32 → Nat → Prop} {st0 pc0 st1 pc1 ab0 : Nat → Int32} {yy0 : Int32} {u : SX} {v : SY} (h : fd_Rel B s k0 W0 st0 pc0 ab0 yy0 u v) (hB : B ≤ B') (hs : s ≤ s') (hW : ∀ y g, W0 y g → W0' y g) (hf : ∀ g, st1 g = 2 → st0 g = 2 ∧ pc0 g = pc1 g) : fd_Rel B' s' k0 W0' st1 pc1 ab0 yy0 u v := by
  obtain ⟨rc, cc, sl, nw, no, ops, o1, o2, o3, sz, st, pr, pc, rg, wk, jn, sd, br, io, cp, cl, hd, ct, wt, wc, rr, ab, dx, ox, ss, yy, sp, dy, ly, e1, e2, ⟨hG, hF, hR, hV, hS, hC, ⟨n, hO1, hO2⟩, hN⟩, h2, h3, h4⟩ := h
  exact ⟨rc, cc, sl, nw, no, ops, o1, o2, o3, sz, st, pr, pc, rg, wk, jn, sd, br, io, cp, cl, hd, ct, wt, wc, rr, ab, dx, ox, ss, yy, sp, dy, ly, e1, e2, ⟨hG, hF, hR, hV, fd_S_m hS hs, hC, ⟨n, by omega, hO2⟩, hN⟩, fun y g z => hW y g (h2 y g z), fun g z => ⟨(h3 g (hf g z).1).1, ((h3 g (hf g z).1).2).trans (hf g z).2⟩, h4⟩
theorem fd_Rel_0 {B s k0 : Nat} {W0 : Int32 → Nat → Prop} {st0 pc0 ab0 : Nat → Int32} {yy0 : Int32} {u : SX} {v : SY} (h : fd_Rel B s k0 W0 st0 pc0 ab0 yy0 u v) (B' s' : Nat) (hB : B ≤ B') (hs : s ≤ s') : fd_Rel B' s' k0 (fun _ _ => True) (fun _ => 0) (fun _ => 0) ab0 yy0 u v :=
  fd_Rel_m h hB hs (fun _ _ _ => trivial) (fun g z => absurd (z : (0 : Int32) = 2) (by decide))
section
variable {rc cc sl nw no : Int32} {ops o1 o2 o3 sz st pr pc rg wk jn sd br io cp cl hd ct wt wc rr ab dx ox : Nat → Int32} {ss : Int64} {yy : Int32} {sp : Nat → Int64} {dy ly : Nat → Int32} {B s k0 : Nat}
theorem fd_K_Rel (h : fd_K B s k0 rc cc sl nw no ops o1 o2 o3 sz st pr pc rg wk jn sd br io cp cl hd ct wt wc rr ab dx ox ss yy sp dy ly) : fd_Rel B s k0 (fd_wa ops o1 o2 st pr pc) st pc ab yy (rc, cc, sl, nw, no, ops, o1, o2, o3, sz, st, pr, pc, rg, wk, jn, sd, br, io, cp, cl, hd, ct, wt, wc, rr, ab, dx, ox) (cc, sl, nw, no, ss, yy, ops, o1, o2, o3, sz, st, pr, pc, rg, wk, sp, cp, cl, hd, ct, ab, dy, ly) := ⟨rc, cc, sl, nw, no, ops, o1, o2, o3, sz, st, pr, pc, rg, wk, jn, sd, br, io, cp, cl, hd, ct, wt, wc, rr, ab, dx, ox, ss, yy, sp, dy, ly, rfl, rfl, h, fun _ _ z => z, fun _ z => ⟨z, rfl⟩, rfl, rfl⟩
theorem fd_K_Rel0 (h : fd_K B s k0 rc cc sl nw no ops o1 o2 o3 sz st pr pc rg wk jn sd br io cp cl hd ct wt wc rr ab dx ox ss yy sp dy ly) (B' s' : Nat) (hB : B ≤ B') (hs : s ≤ s') : fd_Rel B' s' k0 (fun _ _ => True) (fun _ => 0) (fun _ => 0) ab yy (rc, cc, sl, nw, no, ops, o1, o2, o3, sz, st, pr, pc, rg, wk, jn, sd, br, io, cp, cl, hd, ct, wt, wc, rr, ab, dx, ox) (cc, sl, nw, no, ss, yy, ops, o1, o2, o3, sz, st, pr, pc, rg, wk, sp, cp, cl, hd, ct, ab, dy, ly) := fd_Rel_0 (fd_K_Rel h) B' s' hB hs
theorem fd_run_N {x : Int32} (h : fd_run k0 st ab x) : st x.toNatClampNeg ≠ 2 ∨ (k0 < 3 ∧ ab k0 = nI x.toNatClampNeg ∧ x.toNatClampNeg < 12) := Or.inr ⟨h.2.2.1, h.2.2.2.trans (fd_eq h.1), fd_lt h.1⟩
theorem fd_K_rel {x : Int32} {rg' wt' wc' : Nat → Int32} (h : fd_K B s k0 rc cc sl nw no ops o1 o2 o3 sz st pr pc rg wk jn sd br io cp cl hd ct wt wc rr ab dx ox ss yy sp dy ly) (hs : s < 2 ^ 62) (hx : vp_in x 12) (s3 : st x.toNatClampNeg = 3) (ar : fd_agr x.toNatClampNeg rg rg') (hl : fd_lv wt wc wt' wc' x.toNatClampNeg) : fd_K B (s + 1) k0 (rc + 1) cc sl nw no ops o1 o2 o3 sz (upd st x.toNatClampNeg 1) pr (upd pc x.toNatClampNeg (pc x.toNatClampNeg + 1)) rg' wk jn sd br io cp cl hd ct wt' wc' (upd rr rc.toNatClampNeg x) ab dx ox (ss + 1) yy (vp_updL sp x.toNatClampNeg (ss + 1)) dy ly := by
  obtain ⟨hG, hF, hR, hV, hS, hC, hO, hN⟩ := h
  have hf := fd_lt hx
  have n1 : st x.toNatClampNeg ≠ 1 := by rw [s3]; decide
  have n2 : st x.toNatClampNeg ≠ 2 := by rw [s3]; decide
  have m3 : upd st x.toNatClampNeg 1 x.toNatClampNeg ≠ 3 := by rw [pk_us]; decide
  have hp := (hF x.toNatClampNeg hf).1 (Or.inr (Or.inr (Or.inl s3)))
  have hc := ((hF x.toNatClampNeg hf).2 s3).1
  exact ⟨hG, fd_Fs hF fd_ag_u fd_ag_r fd_ag_u fd_ag_r fd_ag_r fd_ag_r fd_ag_r ar (fd_F_n m3 ⟨hp.1, by rw [pk_us]; exact (fd_inc hc (by omega)).1⟩), (fd_R_a hR hS hs hf fd_ag_u n1 pk_us (fd_eq hx)).2, fd_V_r hV hl fd_ag_u fd_ag_r fd_ag_u fd_agL_u m3, fd_S_u hS hs, hC, hO, fd_N_s hN fd_ag_u (Or.inl n2)⟩
theorem fd_K_rc {x : Int32} (h : fd_K B s k0 rc cc sl nw no ops o1 o2 o3 sz st pr pc rg wk jn sd br io cp cl hd ct wt wc rr ab dx ox ss yy sp dy ly) (hx : vp_in x 12) (n1 : st x.toNatClampNeg ≠ 1) : vp_in rc 12 := by
  obtain ⟨L, hQ, _, hc⟩ := h.2.2.1
  rw [hc]
  exact vp_in_nI (fd_Q_lt hQ (fd_lt hx) n1) (by omega)
theorem fd_fr_u {x v w : Int32} (n2 : st x.toNatClampNeg ≠ 2) : ∀ g, st g = 2 → upd st x.toNatClampNeg v g = 2 ∧ upd pc x.toNatClampNeg w g = pc g := fun g z => by
  have e : g ≠ x.toNatClampNeg := fun q => n2 (q ▸ z)
  exact ⟨(pk_un e).trans z, pk_un e⟩
theorem fd_fr_u' {x v : Int32} (n2 : st x.toNatClampNeg ≠ 2) : ∀ g, st g = 2 → upd st x.toNatClampNeg v g = 2 ∧ pc g = pc g := fun g z => by
  have e : g ≠ x.toNatClampNeg := fun q => n2 (q ▸ z)
  exact ⟨(pk_un e).trans z, rfl⟩
theorem fd_wa_u {x y : Int32} {g : Nat} {w w' : Int32} (n3 : w ≠ 3) (h : fd_wa ops o1 o2 (upd st x.toNatClampNeg w) pr (upd pc x.toNatClampNeg w') y g) : fd_wa ops o1 o2 st pr pc y g ∧ g ≠ x.toNatClampNeg := by
  by_cases e : g = x.toNatClampNeg
  · rw [e] at h; exact absurd (pk_us.symm.trans h.1) n3
  · exact ⟨(fd_wa_c (pk_un e) rfl (pk_un e)).mp h, e⟩
theorem fd_wa_u' {x y : Int32} {g : Nat} {w : Int32} (n3 : w ≠ 3) (h : fd_wa ops o1 o2 (upd st x.toNatClampNeg w) pr pc y g) : fd_wa ops o1 o2 st pr pc y g ∧ g ≠ x.toNatClampNeg := by
  by_cases e : g = x.toNatClampNeg
  · rw [e] at h; exact absurd (pk_us.symm.trans h.1) n3
  · exact ⟨(fd_wa_c (pk_un e) rfl rfl).mp h, e⟩
/-- the running fibre ends -/
theorem fd_K_end {x e : Int32} (h : fd_K B s k0 rc cc sl nw no ops o1 o2 o3 sz st pr pc rg wk jn sd br io cp cl hd ct wt wc rr ab dx ox ss yy sp dy ly) (hr : fd_run k0 st ab x) (he : fd_e e) : fd_K B s k0 rc cc sl nw no ops o1 o2 o3 sz (upd st x.toNatClampNeg e) pr pc rg wk jn sd br io cp cl hd ct wt wc rr ab dx ox ss yy sp dy ly := by
  obtain ⟨hG, hF, hR, hV, hS, hC, hO, hN⟩ := h
  have n1 : st x.toNatClampNeg ≠ 1 := by rw [hr.2.1]; decide
  have n3 : st x.toNatClampNeg ≠ 3 := by rw [hr.2.1]; decide
  have m1 : upd st x.toNatClampNeg e x.toNatClampNeg ≠ 1 := by rw [pk_us]; exact fd_e_1 he
  have m3 : upd st x.toNatClampNeg e x.toNatClampNeg ≠ 3 := by rw [pk_us]; exact fd_e_3 he
  exact ⟨hG, fd_Fs hF fd_ag_u fd_ag_r fd_ag_r fd_ag_r fd_ag_r fd_ag_r fd_ag_r fd_agr_r (fd_F_o (by rw [pk_us]; exact fd_e_n he)), fd_R_s hR fd_ag_u fd_agL_r n1 m1, fd_V_s hV fd_ag_u fd_ag_r fd_ag_r fd_agL_r n3 m3, hS, hC, hO, fd_N_s hN fd_ag_u (fd_run_N hr)⟩
/-- a waiting fibre ends -/
theorem fd_K_end3 {x e : Int32} {wt' wc' : Nat → Int32} (h : fd_K B s k0 rc cc sl nw no ops o1 o2 o3 sz st pr pc rg wk jn sd br io cp cl hd ct wt wc rr ab dx ox ss yy sp dy ly) (s3 : st x.toNatClampNeg = 3) (he : fd_e e) (hl : fd_lv wt wc wt' wc' x.toNatClampNeg) : fd_K B s k0 rc cc sl nw no ops o1 o2 o3 sz (upd st x.toNatClampNeg e) pr pc rg wk jn sd br io cp cl hd ct wt' wc' rr ab dx ox ss yy sp dy ly := by
  obtain ⟨hG, hF, hR, hV, hS, hC, hO, hN⟩ := h
  have n1 : st x.toNatClampNeg ≠ 1 := by rw [s3]; decide
  have n2 : st x.toNatClampNeg ≠ 2 := by rw [s3]; decide
  have m1 : upd st x.toNatClampNeg e x.toNatClampNeg ≠ 1 := by rw [pk_us]; exact fd_e_1 he
  have m3 : upd st x.toNatClampNeg e x.toNatClampNeg ≠ 3 := by rw [pk_us]; exact fd_e_3 he
  exact ⟨hG, fd_Fs hF fd_ag_u fd_ag_r fd_ag_r fd_ag_r fd_ag_r fd_ag_r fd_ag_r fd_agr_r (fd_F_o (by rw [pk_us]; exact fd_e_n he)), fd_R_s hR fd_ag_u fd_agL_r n1 m1, fd_V_r hV hl fd_ag_u fd_ag_r fd_ag_r fd_agL_r m3, hS, hC, hO, fd_N_s hN fd_ag_u (Or.inl n2)⟩
/-- the running fibre's own registers and place -/
theorem fd_K_own {x : Int32} {rg' pc' : Nat → Int32} (h : fd_K B s k0 rc cc sl nw no ops o1 o2 o3 sz st pr pc rg wk jn sd br io cp cl hd ct wt wc rr ab dx ox ss yy sp dy ly) (hx : vp_in x 12) (h2 : st x.toNatClampNeg = 2) (ar : fd_agr x.toNatClampNeg rg rg') (ap : fd_ag x.toNatClampNeg pc pc') (hp : vp_in (pc' x.toNatClampNeg) 13) : fd_K B s k0 rc cc sl nw no ops o1 o2 o3 sz st pr pc' rg' wk jn sd br io cp cl hd ct wt wc rr ab dx ox ss yy sp dy ly := by
  obtain ⟨hG, hF, hR, hV, hS, hC, hO, hN⟩ := h
  have n3 : st x.toNatClampNeg ≠ 3 := by rw [h2]; decide
  have hp0 := (hF x.toNatClampNeg (fd_lt hx)).1 (Or.inr (Or.inl h2))
  exact ⟨hG, fd_Fs hF fd_ag_r fd_ag_r ap fd_ag_r fd_ag_r fd_ag_r fd_ag_r ar (fd_F_n n3 ⟨hp0.1, hp⟩), hR, fd_V_s hV fd_ag_r fd_ag_r ap fd_agL_r n3 n3, hS, hC, hO, hN⟩
/-- a fibre that ran or slept comes to the row -/
theorem fd_K_row {x : Int32} {pc' : Nat → Int32} (h : fd_K B s k0 rc cc sl nw no ops o1 o2 o3 sz st pr pc rg wk jn sd br io cp cl hd ct wt wc rr ab dx ox ss yy sp dy ly) (hs : s < 2 ^ 62) (hx : vp_in x 12) (h2 : fd_run k0 st ab x ∨ st x.toNatClampNeg = 4) (ap : fd_ag x.toNatClampNeg pc pc') (hp : vp_in (pc' x.toNatClampNeg) 13) : fd_K B (s + 1) k0 (rc + 1) cc sl nw no ops o1 o2 o3 sz (upd st x.toNatClampNeg 1) pr pc' rg wk jn sd br io cp cl hd ct wt wc (upd rr rc.toNatClampNeg x) ab dx ox (ss + 1) yy (vp_updL sp x.toNatClampNeg (ss + 1)) dy ly := by
  obtain ⟨hG, hF, hR, hV, hS, hC, hO, hN⟩ := h
  have hf := fd_lt hx
  have n1 : st x.toNatClampNeg ≠ 1 := by
    rcases h2 with q | q
    · rw [q.2.1]; decide
    · rw [q]; decide
  have n3 : st x.toNatClampNeg ≠ 3 := by
    rcases h2 with q | q
    · rw [q.2.1]; decide
    · rw [q]; decide
  have hk : st x.toNatClampNeg ≠ 2 ∨ (k0 < 3 ∧ ab k0 = nI x.toNatClampNeg ∧ x.toNatClampNeg < 12) := by
    rcases h2 with q | q
    · exact fd_run_N q
    · exact Or.inl (by rw [q]; decide)
  have m3 : upd st x.toNatClampNeg 1 x.toNatClampNeg ≠ 3 := by rw [pk_us]; decide
  have hp0 : vp_in (pr x.toNatClampNeg) 6 := by
    rcases h2 with q | q
    · exact ((hF x.toNatClampNeg hf).1 (Or.inr (Or.inl q.2.1))).1
    · exact ((hF x.toNatClampNeg hf).1 (Or.inr (Or.inr (Or.inr q)))).1
  exact ⟨hG, fd_Fs hF fd_ag_u fd_ag_r ap fd_ag_r fd_ag_r fd_ag_r fd_ag_r fd_agr_r (fd_F_n m3 ⟨hp0, hp⟩), (fd_R_a hR hS hs hf fd_ag_u n1 pk_us (fd_eq hx)).2, fd_V_s hV fd_ag_u fd_ag_r ap fd_agL_u n3 m3, fd_S_u hS hs, hC, hO, fd_N_s hN fd_ag_u hk⟩
/-- the running fibre falls asleep -/
theorem fd_K_sleep {x : Int32} {pc' wk' : Nat → Int32} (h : fd_K B s k0 rc cc sl nw no ops o1 o2 o3 sz st pr pc rg wk jn sd br io cp cl hd ct wt wc rr ab dx ox ss yy sp dy ly) (hr : fd_run k0 st ab x) (ap : fd_ag x.toNatClampNeg pc pc') (hp : vp_in (pc' x.toNatClampNeg) 13) : fd_K B s k0 rc cc sl nw no ops o1 o2 o3 sz (upd st x.toNatClampNeg 4) pr pc' rg wk' jn sd br io cp cl hd ct wt wc rr ab dx ox ss yy sp dy ly := by
  obtain ⟨hG, hF, hR, hV, hS, hC, hO, hN⟩ := h
  have n1 : st x.toNatClampNeg ≠ 1 := by rw [hr.2.1]; decide
  have n3 : st x.toNatClampNeg ≠ 3 := by rw [hr.2.1]; decide
  have m1 : upd st x.toNatClampNeg 4 x.toNatClampNeg ≠ 1 := by rw [pk_us]; decide
  have m3 : upd st x.toNatClampNeg 4 x.toNatClampNeg ≠ 3 := by rw [pk_us]; decide
  have hp0 := (hF x.toNatClampNeg (fd_lt hr.1)).1 (Or.inr (Or.inl hr.2.1))
  exact ⟨hG, fd_Fs hF fd_ag_u fd_ag_r ap fd_ag_r fd_ag_r fd_ag_r fd_ag_r fd_agr_r (fd_F_n m3 ⟨hp0.1, hp⟩), fd_R_s hR fd_ag_u fd_agL_r n1 m1, fd_V_s hV fd_ag_u fd_ag_r ap fd_agL_r n3 m3, hS, hC, hO, fd_N_s hN fd_ag_u (fd_run_N hr)⟩
/-- a fibre that isn't at work is begun -/
theorem fd_K_new {x : Int32} {pr' pc' rg' : Nat → Int32} (h : fd_K B s k0 rc cc sl nw no ops o1 o2 o3 sz st pr pc rg wk jn sd br io cp cl hd ct wt wc rr ab dx ox ss yy sp dy ly) (hs : s < 2 ^ 62) (hx : vp_in x 12) (hn : ¬ fd_aw (st x.toNatClampNeg)) (ap : fd_ag x.toNatClampNeg pr pr') (ac : fd_ag x.toNatClampNeg pc pc') (ar : fd_agr x.toNatClampNeg rg rg') (hp : vp_in (pr' x.toNatClampNeg) 6) (hc : vp_in (pc' x.toNatClampNeg) 13) : fd_K B (s + 1) k0 (rc + 1) cc sl nw no ops o1 o2 o3 sz (upd st x.toNatClampNeg 1) pr' pc' rg' wk jn sd br io cp cl hd ct wt wc (upd rr rc.toNatClampNeg x) ab dx ox (ss + 1) yy (vp_updL sp x.toNatClampNeg (ss + 1)) dy ly := by
  obtain ⟨hG, hF, hR, hV, hS, hC, hO, hN⟩ := h
  have n1 : st x.toNatClampNeg ≠ 1 := fun z => hn (Or.inl z)
  have n2 : st x.toNatClampNeg ≠ 2 := fun z => hn (Or.inr (Or.inl z))
  have n3 : st x.toNatClampNeg ≠ 3 := fun z => hn (Or.inr (Or.inr (Or.inl z)))
  have m3 : upd st x.toNatClampNeg 1 x.toNatClampNeg ≠ 3 := by rw [pk_us]; decide
  exact ⟨hG, fd_Fs hF fd_ag_u ap ac fd_ag_r fd_ag_r fd_ag_r fd_ag_r ar (fd_F_n m3 ⟨hp, hc⟩), (fd_R_a hR hS hs (fd_lt hx) fd_ag_u n1 pk_us (fd_eq hx)).2, fd_V_s hV fd_ag_u ap ac fd_agL_u n3 m3, fd_S_u hS hs, hC, hO, fd_N_s hN fd_ag_u (Or.inl n2)⟩
/-- the running fibre comes to wait -/
theorem fd_K_rest {x : Int32} {jn' sd' br' io' wt' wc' : Nat → Int32} (h : fd_K B s k0 rc cc sl nw no ops o1 o2 o3 sz st pr pc rg wk jn sd br io cp cl hd ct wt wc rr ab dx ox ss yy sp dy ly) (hs : s < 2 ^ 62) (hr : fd_run k0 st ab x) (hc : vp_in (pc x.toNatClampNeg) 12) (hg : fd_gd (ops (fd_k pr pc x.toNatClampNeg)) (o1 (fd_k pr pc x.toNatClampNeg)) (o2 (fd_k pr pc x.toNatClampNeg)) (o3 (fd_k pr pc x.toNatClampNeg))) (a4 : fd_ag x.toNatClampNeg jn jn') (a5 : fd_ag x.toNatClampNeg sd sd') (a6 : fd_ag x.toNatClampNeg br br') (a7 : fd_ag x.toNatClampNeg io io') (hW : fd_Wt (ops (fd_k pr pc x.toNatClampNeg)) (o1 (fd_k pr pc x.toNatClampNeg)) (o2 (fd_k pr pc x.toNatClampNeg)) (o3 (fd_k pr pc x.toNatClampNeg)) (jn' x.toNatClampNeg) (sd' x.toNatClampNeg) (br' x.toNatClampNeg) (io' x.toNatClampNeg) rg x.toNatClampNeg) (hV' : fd_V (fd_wa ops o1 o2 (upd st x.toNatClampNeg 3) pr pc) (vp_updL sp x.toNatClampNeg (ss + 1)) wt' wc') : fd_K B (s + 1) k0 rc cc sl nw no ops o1 o2 o3 sz (upd st x.toNatClampNeg 3) pr pc rg wk jn' sd' br' io' cp cl hd ct wt' wc' rr ab dx ox (ss + 1) yy (vp_updL sp x.toNatClampNeg (ss + 1)) dy ly := by
  obtain ⟨hG, hF, hR, hV, hS, hC, hO, hN⟩ := h
  have n1 : st x.toNatClampNeg ≠ 1 := by rw [hr.2.1]; decide
  have m1 : upd st x.toNatClampNeg 3 x.toNatClampNeg ≠ 1 := by rw [pk_us]; decide
  have hp0 := (hF x.toNatClampNeg (fd_lt hr.1)).1 (Or.inr (Or.inl hr.2.1))
  exact ⟨hG, fd_Fs hF fd_ag_u fd_ag_r fd_ag_r a4 a5 a6 a7 fd_agr_r ⟨fun _ => hp0, fun _ => ⟨hc, hg, hW⟩⟩, fd_R_s hR fd_ag_u fd_agL_u n1 m1, hV', fd_S_u hS hs, hC, hO, fd_N_s hN fd_ag_u (fd_run_N hr)⟩
theorem fd_sp_m {x : Int32} (hS : fd_S sp ss s) (hs : s < 2 ^ 62) : ∀ g, g < 12 → g ≠ x.toNatClampNeg → vp_updL sp x.toNatClampNeg (ss + 1) g < vp_updL sp x.toNatClampNeg (ss + 1) x.toNatClampNeg := fun g hg e => by
  rw [pk_uLn e, pk_uLs]; exact fd_S_lt hS hs hg
/-- one channel -/
theorem fd_V_1 {x y : Int32} (h : fd_K B s k0 rc cc sl nw no ops o1 o2 o3 sz st pr pc rg wk jn sd br io cp cl hd ct wt wc rr ab dx ox ss yy sp dy ly) (hs : s < 2 ^ 62) (hx : vp_in x 12) (h2 : st x.toNatClampNeg = 2) (hy : vp_in y 4) (hat : ∀ y', fd_at (ops (fd_k pr pc x.toNatClampNeg)) (o1 (fd_k pr pc x.toNatClampNeg)) (o2 (fd_k pr pc x.toNatClampNeg)) y' ↔ y' = y) : vp_in (wc y.toNatClampNeg) 12 ∧ fd_V (fd_wa ops o1 o2 (upd st x.toNatClampNeg 3) pr pc) (vp_updL sp x.toNatClampNeg (ss + 1)) (upd wt (12 * y.toNatClampNeg + (wc y.toNatClampNeg).toNatClampNeg) x) (upd wc y.toNatClampNeg (wc y.toNatClampNeg + 1)) := by
  have n3 : st x.toNatClampNeg ≠ 3 := by rw [h2]; decide
  refine fd_V_a (fd_V_sp h.2.2.2.1 (fd_agL_u (f := x.toNatClampNeg)) (fun y' => fd_wa_n n3)) hy (fd_lt hx) (fd_eq hx) (fd_wa_n n3) (fun y' hy' g hg => ?_) (fd_sp_m h.2.2.2.2.1 hs)
  by_cases e : g = x.toNatClampNeg
  · subst e
    exact ⟨fun z => Or.inr ⟨(hat y').mp z.2, rfl⟩, fun z => ⟨pk_us, (hat y').mpr (z.elim (fun q => absurd q.1 n3) (fun q => q.1))⟩⟩
  · rw [fd_wa_c (st := st) (pr := pr) (pc := pc) (pk_un e) rfl rfl]
    exact ⟨Or.inl, fun z => z.elim id (fun q => absurd q.2 e)⟩
/-- two channels -/
theorem fd_V_2 {x y z : Int32} (h : fd_K B s k0 rc cc sl nw no ops o1 o2 o3 sz st pr pc rg wk jn sd br io cp cl hd ct wt wc rr ab dx ox ss yy sp dy ly) (hs : s < 2 ^ 62) (hx : vp_in x 12) (h2 : st x.toNatClampNeg = 2) (hy : vp_in y 4) (hz : vp_in z 4) (ne : z ≠ y) (hat : ∀ y', fd_at (ops (fd_k pr pc x.toNatClampNeg)) (o1 (fd_k pr pc x.toNatClampNeg)) (o2 (fd_k pr pc x.toNatClampNeg)) y' ↔ (y' = y ∨ y' = z)) : vp_in (wc y.toNatClampNeg) 12 ∧ vp_in (upd wc y.toNatClampNeg (wc y.toNatClampNeg + 1) z.toNatClampNeg) 12 ∧ fd_V (fd_wa ops o1 o2 (upd st x.toNatClampNeg 3) pr pc) (vp_updL sp x.toNatClampNeg (ss + 1)) (upd (upd wt (12 * y.toNatClampNeg + (wc y.toNatClampNeg).toNatClampNeg) x) (12 * z.toNatClampNeg + (upd wc y.toNatClampNeg (wc y.toNatClampNeg + 1) z.toNatClampNeg).toNatClampNeg) x) (upd (upd wc y.toNatClampNeg (wc y.toNatClampNeg + 1)) z.toNatClampNeg (upd wc y.toNatClampNeg (wc y.toNatClampNeg + 1) z.toNatClampNeg + 1)) := by
  have n3 : st x.toNatClampNeg ≠ 3 := by rw [h2]; decide
  obtain ⟨q1, q2⟩ := fd_V_a (W' := fun y' g => fd_wa ops o1 o2 st pr pc y' g ∨ (y' = y ∧ g = x.toNatClampNeg)) (fd_V_sp h.2.2.2.1 (fd_agL_u (f := x.toNatClampNeg)) (fun y' => fd_wa_n n3)) hy (fd_lt hx) (fd_eq hx) (fd_wa_n n3) (fun y' hy' g hg => Iff.rfl) (fd_sp_m h.2.2.2.2.1 hs)
  have q3 := fd_V_a (W' := fd_wa ops o1 o2 (upd st x.toNatClampNeg 3) pr pc) q2 hz (fd_lt hx) (fd_eq hx) (fun w => w.elim (fun q => n3 q.1) (fun q => ne q.1)) (fun y' hy' g hg => by
    by_cases e : g = x.toNatClampNeg
    · subst e
      exact ⟨fun w => ((hat y').mp w.2).elim (fun q => Or.inl (Or.inr ⟨q, rfl⟩)) (fun q => Or.inr ⟨q, rfl⟩), fun w => ⟨pk_us, (hat y').mpr (w.elim (fun q => q.elim (fun q => absurd q.1 n3) (fun q => Or.inl q.1)) (fun q => Or.inr q.1))⟩⟩
    · rw [fd_wa_c (st := st) (pr := pr) (pc := pc) (pk_un e) rfl rfl]
      exact ⟨fun w => Or.inl (Or.inl w), fun w => w.elim (fun q => q.elim id (fun q => absurd q.2 e)) (fun q => absurd q.2 e)⟩) (fd_sp_m h.2.2.2.2.1 hs)
  exact ⟨q1, q3⟩
/-- no channel -/
theorem fd_V_0 {x : Int32} (h : fd_K B s k0 rc cc sl nw no ops o1 o2 o3 sz st pr pc rg wk jn sd br io cp cl hd ct wt wc rr ab dx ox ss yy sp dy ly) (h2 : st x.toNatClampNeg = 2) (hat : ∀ y', ¬ fd_at (ops (fd_k pr pc x.toNatClampNeg)) (o1 (fd_k pr pc x.toNatClampNeg)) (o2 (fd_k pr pc x.toNatClampNeg)) y') : fd_V (fd_wa ops o1 o2 (upd st x.toNatClampNeg 3) pr pc) (vp_updL sp x.toNatClampNeg (ss + 1)) wt wc := by
  have n3 : st x.toNatClampNeg ≠ 3 := by rw [h2]; decide
  refine fd_V_c (fd_V_sp h.2.2.2.1 (fd_agL_u (f := x.toNatClampNeg)) (fun y' => fd_wa_n n3)) (fun y' hy' g hg => ?_)
  by_cases e : g = x.toNatClampNeg
  · subst e
    exact ⟨fun z => absurd z.2 (hat y'), fun z => absurd z.1 n3⟩
  · exact fd_wa_c (pk_un e) rfl rfl
end
end
section
section
variable {B k0 : Nat}
theorem fd_fin {x1 x3 : Int32} (hx1 : vp_in x1 12) : ∀ (d i s : Nat) (rc cc sl nw no : Int32) (ops o1 o2 o3 sz st pr pc rg wk jn sd br io cp cl hd ct wt wc rr ab dx ox : Nat → Int32) (ss : Int64) (yy : Int32) (sp : Nat → Int64) (dy ly : Nat → Int32), i + d = 12 → s + d < 2 ^ 62 → fd_K B s k0 rc cc sl nw no ops o1 o2 o3 sz st pr pc rg wk jn sd br io cp cl hd ct wt wc rr ab dx ox ss yy sp dy ly → fd_Do (fun post => wX_finish_29 post x1 x3 (d + 1) (nI i) rc cc sl nw no ops o1 o2 o3 sz st pr pc rg wk jn sd br io cp cl hd ct wt wc rr ab dx ox) (fun post => wY_finish_29 post x1 x3 (d + 1) (nI i) cc sl nw no ss yy ops o1 o2 o3 sz st pr pc rg wk sp cp cl hd ct ab dy ly) (fd_Rel B (s + d) k0 (fd_wa ops o1 o2 st pr pc) st pc ab yy) := by
  intro d
  induction d with
  | zero =>
    intro i s rc cc sl nw no ops o1 o2 o3 sz st pr pc rg wk jn sd br io cp cl hd ct wt wc rr ab dx ox ss yy sp dy ly hi hs h
    have e : i = 12 := by omega
    subst e
    exact ⟨_, _, fun post H => br_t (by decide) H, fun post H => br_t (by decide) H, fd_K_Rel h⟩
  | succ d ih =>
    intro i s rc cc sl nw no ops o1 o2 o3 sz st pr pc rg wk jn sd br io cp cl hd ct wt wc rr ab dx ox ss yy sp dy ly hi hs h
    have hx : vp_in (nI i) 12 := vp_in_nI (by omega) (by omega)
    have n12 : ¬ (12 : Int32) ≤ nI i := nI_ge (b := 12) (by omega) (by decide)
    have hi1 : nI i + 1 = nI (i + 1) := nI_1 i
    generalize nI i = x at hx n12 hi1
    have hF := h.2.1 x.toNatClampNeg (fd_lt hx)
    have skip : fd_Do (fun post => wX_finish_29 post x1 x3 (d + 1) (nI (i + 1)) rc cc sl nw no ops o1 o2 o3 sz st pr pc rg wk jn sd br io cp cl hd ct wt wc rr ab dx ox) (fun post => wY_finish_29 post x1 x3 (d + 1) (nI (i + 1)) cc sl nw no ss yy ops o1 o2 o3 sz st pr pc rg wk sp cp cl hd ct ab dy ly) (fd_Rel B (s + (d + 1)) k0 (fd_wa ops o1 o2 st pr pc) st pc ab yy) := by
      obtain ⟨u, v, h1, h2, h3⟩ := ih (i + 1) s rc cc sl nw no ops o1 o2 o3 sz st pr pc rg wk jn sd br io cp cl hd ct wt wc rr ab dx ox ss yy sp dy ly (by omega) (by omega) h
      exact ⟨u, v, h1, h2, fd_Rel_m h3 (Nat.le_refl B) (by omega) (fun _ _ z => z) (fun _ z => ⟨z, rfl⟩)⟩
    by_cases s3 : st x.toNatClampNeg = 3
    · obtain ⟨hp1, hp2⟩ := hF.1 (Or.inr (Or.inr (Or.inl s3)))
      have ix := fd_p12 hp1 hp2
      have ek : fd_k pr pc x.toNatClampNeg = (12 * pr x.toNatClampNeg + pc x.toNatClampNeg).toNatClampNeg := ix.2.symm
      obtain ⟨hc, hg, hw⟩ := hF.2 s3
      by_cases j : jn x.toNatClampNeg = x1
      · have op : ops (fd_k pr pc x.toNatClampNeg) = 10 ∧ jn x.toNatClampNeg = rg (3 * x.toNatClampNeg + (o1 (fd_k pr pc x.toNatClampNeg)).toNatClampNeg) ∧ io x.toNatClampNeg = o2 (fd_k pr pc x.toNatClampNeg) := by
          rcases hw with q | q | q | q
          · exact absurd (q.2.1.symm.trans j) (fd_m1 hx1).symm
          · exact absurd (q.2.1.symm.trans j) (fd_m1 hx1).symm
          · exact absurd (q.2.1.symm.trans j) (fd_m1 hx1).symm
          · exact q
        have n6 : ¬ ops (fd_k pr pc x.toNatClampNeg) = 6 := by rw [op.1]; decide
        have hio := (fd_io hF s3 n6).1
        have ha := (hg.2.2.1 (Or.inr op.1)).1
        have rj := op.2.1.symm.trans j
        rw [ek] at ha rj
        have ia := fd_3 hx ha
        have hrc := fd_K_rc h hx (by rw [s3]; decide)
        obtain ⟨wt', wc', hl, hrl⟩ := fd_X_release (cc := cc) (sl := sl) (nw := nw) (no := no) (ops := ops) (o1 := o1) (o2 := o2) (o3 := o3) (sz := sz) (st := st) (pr := pr) (pc := pc) (rg := upd rg (3 * x.toNatClampNeg + (io x.toNatClampNeg).toNatClampNeg) x3) (wk := wk) (jn := jn) (sd := sd) (br := br) (io := io) (cp := cp) (cl := cl) (hd := hd) (ct := ct) (rr := rr) (ab := ab) (dx := dx) (ox := ox) h.2.2.2.1 hx hrc
        have K' := fd_K_rel h (by omega) hx s3 (fd_agr_u (x := x3) (fd_lt hio)) hl
        obtain ⟨u, v, h1, h2, h3⟩ := ih (i + 1) (s + 1) _ _ _ _ _ _ _ _ _ _ _ _ _ _ _ _ _ _ _ _ _ _ _ _ _ _ _ _ _ _ _ _ _ _ (by omega) (by omega) K'
        refine ⟨u, v, fun post H => br_f n12 ⟨hx, br_t s3 ⟨hx, br_t j (fd_X_fill hx hio (hrl _ (nm_r hi1 (h1 post H))))⟩⟩, fun post H => br_f n12 ⟨hx, br_t s3 (And.intro hx (And.intro hx ⟨ix.1, ?_⟩))⟩, fd_Rel_m h3 (Nat.le_refl B) (by omega) (fun y g z => (fd_wa_u (by decide) z).1) (fd_fr_u (by rw [s3]; decide))⟩
        exact br_t (by rw [← ek]; exact op.1) ⟨ix.1, ia.1, br_t (by rw [ia.2]; exact rj) (fd_Y_give hx hF s3 n6 (nm_r hi1 (h2 post H)))⟩
      · obtain ⟨u, v, h1, h2, h3⟩ := skip
        refine ⟨u, v, fun post H => br_f n12 ⟨hx, br_t s3 ⟨hx, br_f j (nm_r hi1 (h1 post H))⟩⟩, fun post H => br_f n12 ⟨hx, br_t s3 (And.intro hx (And.intro hx ⟨ix.1, ?_⟩))⟩, h3⟩
        refine br_c (fun q => ?_) (fun q => nm_r hi1 (h2 post H))
        have q' : ops (fd_k pr pc x.toNatClampNeg) = 10 := by rw [ek]; exact q
        have op : jn x.toNatClampNeg = rg (3 * x.toNatClampNeg + (o1 (fd_k pr pc x.toNatClampNeg)).toNatClampNeg) := by
          rcases hw with q | q | q | q
          · exact absurd (q'.symm.trans q.1) (by decide)
          · exact absurd (q'.symm.trans q.1) (by decide)
          · exact absurd (q'.symm.trans q.1) (by decide)
          · exact q.2.1
        have ha := (hg.2.2.1 (Or.inr q')).1
        rw [ek] at ha op
        have ia := fd_3 hx ha
        exact ⟨ix.1, ia.1, br_f (by rw [ia.2, ← op]; exact j) (nm_r hi1 (h2 post H))⟩
    · obtain ⟨u, v, h1, h2, h3⟩ := skip
      exact ⟨u, v, fun post H => br_f n12 ⟨hx, br_f s3 (nm_r hi1 (h1 post H))⟩, fun post H => br_f n12 ⟨hx, br_f s3 (nm_r hi1 (h2 post H))⟩, h3⟩
end
section
variable {rc cc sl nw no : Int32} {ops o1 o2 o3 sz st pr pc rg wk jn sd br io cp cl hd ct wt wc rr ab dx ox : Nat → Int32} {ss : Int64} {yy : Int32} {sp : Nat → Int64} {dy ly : Nat → Int32} {B s k0 : Nat}
theorem fd_finish {x e : Int32} (he : fd_e e) (hx : vp_in x 12) (hs : s + 12 < 2 ^ 62) (h : fd_K B s k0 rc cc sl nw no ops o1 o2 o3 sz (upd st x.toNatClampNeg e) pr pc rg wk jn sd br io cp cl hd ct wt wc rr ab dx ox ss yy sp dy ly) : fd_Do (fun post => wpX_finish post (rc, cc, sl, nw, no, ops, o1, o2, o3, sz, st, pr, pc, rg, wk, jn, sd, br, io, cp, cl, hd, ct, wt, wc, rr, ab, dx, ox) x e) (fun post => wpY_finish post (cc, sl, nw, no, ss, yy, ops, o1, o2, o3, sz, st, pr, pc, rg, wk, sp, cp, cl, hd, ct, ab, dy, ly) x e) (fd_Rel B (s + 12) k0 (fd_wa ops o1 o2 (upd st x.toNatClampNeg e) pr pc) (upd st x.toNatClampNeg e) pc ab yy) := by
  have i1 := fd_30' hx
  have i2 := fd_30 hx
  rcases he with he | he
  · obtain ⟨u, v, h1, h2, h3⟩ := fd_fin (x3 := rg (3 * x.toNatClampNeg)) hx 12 0 s _ _ _ _ _ _ _ _ _ _ _ _ _ _ _ _ _ _ _ _ _ _ _ _ _ _ _ _ _ _ _ _ _ _ rfl hs h
    exact ⟨u, v, fun post H => And.intro hx (nm_e (br_t he ⟨i1.1, nm_r (by rw [i1.2]) ⟨_, h1 post H⟩⟩)), fun post H => And.intro hx (nm_e (br_t he ⟨i2.1, nm_r (by rw [i2.2]) ⟨_, h2 post H⟩⟩)), h3⟩
  · obtain ⟨u, v, h1, h2, h3⟩ := fd_fin (x3 := -1000000) hx 12 0 s _ _ _ _ _ _ _ _ _ _ _ _ _ _ _ _ _ _ _ _ _ _ _ _ _ _ _ _ _ _ _ _ _ _ rfl hs h
    exact ⟨u, v, fun post H => And.intro hx (nm_e (br_f (by rw [he]; decide) ⟨_, h1 post H⟩)), fun post H => And.intro hx (nm_e (br_f (by rw [he]; decide) ⟨_, h2 post H⟩)), h3⟩
end
end
section
theorem fd_kdT {Z : Nat → Prop} : fd_kd (-1) (fun _ => True) Z := Or.inl ⟨rfl, fun _ => trivial⟩
section
variable {B k0 : Nat}
theorem fd_cll {y : Int32} (hy : vp_in y 4) : ∀ (m i s : Nat) (r : Int32) (rc cc sl nw no : Int32) (ops o1 o2 o3 sz st pr pc rg wk jn sd br io cp cl hd ct wt wc rr ab dx ox : Nat → Int32) (ss : Int64) (yy : Int32) (sp : Nat → Int64) (dy ly : Nat → Int32), i + m ≤ 12 → s + 13 * m < 2 ^ 62 → (∃ M : List Nat, M.length ≤ m ∧ ∀ g, g < 12 → fd_wa ops o1 o2 st pr pc y g → g ∈ M) → fd_Mi (fun g => fd_wa ops o1 o2 st pr pc y g ∧ True) sp 12 r → fd_K B s k0 rc cc sl nw no ops o1 o2 o3 sz st pr pc rg wk jn sd br io cp cl hd ct wt wc rr ab dx ox ss yy sp dy ly → fd_Do (fun post => wX_close_9 post y (m + 1) (nI i) rc cc sl nw no ops o1 o2 o3 sz st pr pc rg wk jn sd br io cp cl hd ct wt wc rr ab dx ox) (fun post => wY_close_14 post y (m + 1) r cc sl nw no ss yy ops o1 o2 o3 sz st pr pc rg wk sp cp cl hd ct ab dy ly) (fd_Rel B (s + 13 * m) k0 (fun _ _ => True) st pc ab yy) := by
  intro m
  induction m with
  | zero =>
    intro i s r rc cc sl nw no ops o1 o2 o3 sz st pr pc rg wk jn sd br io cp cl hd ct wt wc rr ab dx ox ss yy sp dy ly hi hs hM hr h
    obtain ⟨M, hM1, hM2⟩ := hM
    have hn : ∀ g, g < 12 → ¬ fd_wa ops o1 o2 st pr pc y g := fun g hg z => by
      have := List.length_pos_of_mem (hM2 g hg z)
      omega
    have er : r = -1 := by
      by_cases e : r = -1
      · exact e
      · have q := fd_M_yes hr e
        exact absurd q.2.1 (hn _ (fd_lt q.1))
    obtain ⟨L, hQ, hH, hc⟩ := h.2.2.2.1 y hy
    have hL : L = [] := by
      cases L with
      | nil => rfl
      | cons a l => exact absurd ((hQ.1 a).mp List.mem_cons_self).2 (hn a ((hQ.1 a).mp List.mem_cons_self).1)
    subst hL
    refine ⟨_, _, fun post H => ?_, fun post H => br_t (by rw [er]; decide) H, fd_Rel_m (fd_K_Rel h) (Nat.le_refl B) (by omega) (fun _ _ _ => trivial) (fun _ z => ⟨z, rfl⟩)⟩
    by_cases e : i = 12
    · exact br_t (by rw [e]; decide) H
    · exact br_f (nI_ge (b := 12) (by omega) (by decide)) ⟨hy, br_t (by rw [hc]; decide) H⟩
  | succ m ih =>
    intro i s r rc cc sl nw no ops o1 o2 o3 sz st pr pc rg wk jn sd br io cp cl hd ct wt wc rr ab dx ox ss yy sp dy ly hi hs hM hr h
    obtain ⟨L, hQ, hH, hc⟩ := h.2.2.2.1 y hy
    have n12 : ¬ (12 : Int32) ≤ nI i := nI_ge (b := 12) (by omega) (by decide)
    have i0 := fd_c120 hy
    cases L with
    | nil =>
      have er : r = -1 := by
        by_cases e : r = -1
        · exact e
        · have q := fd_M_yes hr e
          exact absurd ((hQ.1 _).mpr ⟨fd_lt q.1, q.2.1⟩) List.not_mem_nil
      exact ⟨_, _, fun post H => br_f n12 ⟨hy, br_t (by rw [hc]; decide) H⟩, fun post H => br_t (by rw [er]; decide) H, fd_Rel_m (fd_K_Rel h) (Nat.le_refl B) (by omega) (fun _ _ _ => trivial) (fun _ z => ⟨z, rfl⟩)⟩
    | cons a l =>
      have hl := fd_Q_len hQ
      have l1 : (a :: l).length = l.length + 1 := rfl
      have ma := (hQ.1 a).mp List.mem_cons_self
      have er : r = nI a := fd_M_u (K := fun g => fd_wa ops o1 o2 st pr pc y g ∧ True) hQ (fun g z => z.1) hr (fd_M_first (K := fun _ => True) hQ 0 (by omega) trivial (fun j hj l => absurd l (Nat.not_lt_zero j)))
      have hx : vp_in (nI a) 12 := vp_in_nI ma.1 (by omega)
      have ea : (nI a).toNatClampNeg = a := nI_clamp (by omega)
      have ez : wt (y * 12).toNatClampNeg = nI a := by rw [i0.2]; exact hH 0 (by omega)
      have n0 : ¬ wc y.toNatClampNeg ≤ 0 := by rw [hc]; exact nI_nle (by omega) (by omega)
      rw [← ea] at ma
      have hM0 : ∃ M : List Nat, M.length ≤ m ∧ ∀ g, g < 12 → g ≠ (nI a).toNatClampNeg → fd_wa ops o1 o2 st pr pc y g → g ∈ M := by
        obtain ⟨M, hM1, hM2⟩ := hM
        have mm := hM2 _ ma.1 ma.2
        refine ⟨M.erase (nI a).toNatClampNeg, ?_, fun g hg e z => (List.mem_erase_of_ne e).mpr (hM2 g hg z)⟩
        rw [List.length_erase_of_mem mm]; omega
      clear hM
      subst er
      clear ea hH l1 hQ hl
      generalize nI a = x at hx ma hM0 hr ez
      have s3 := ma.2.1
      have n2 : st x.toNatClampNeg ≠ 2 := by rw [s3]; decide
      have hF := h.2.1 x.toNatClampNeg (fd_lt hx)
      have hp := hF.1 (Or.inr (Or.inr (Or.inl s3)))
      obtain ⟨hpc, hg, hw⟩ := hF.2 s3
      have xr : ¬ x < 0 := fd_nn hx
      by_cases op : ops (fd_k pr pc x.toNatClampNeg) = 6
      · have hsd : ¬ sd x.toNatClampNeg = 0 := by
          rcases hw with q | q | q | q
          · rw [q.2.2.1]; decide
          · exact absurd (op.symm.trans q.1) (by decide)
          · exact absurd (op.symm.trans q.1) (by decide)
          · exact absurd (op.symm.trans q.1) (by decide)
        obtain ⟨wt', wc', hlv, hlx⟩ := fd_X_leave (rc := rc) (cc := cc) (sl := sl) (nw := nw) (no := no) (ops := ops) (o1 := o1) (o2 := o2) (o3 := o3) (sz := sz) (st := st) (pr := pr) (pc := pc) (rg := rg) (wk := wk) (jn := jn) (sd := sd) (br := br) (io := io) (cp := cp) (cl := cl) (hd := hd) (ct := ct) (rr := rr) (ab := ab) (dx := dx) (ox := ox) h.2.2.2.1 hx
        have K1 := fd_K_end3 (e := 6) h s3 (Or.inr rfl) hlv
        obtain ⟨u1, v1, f1, f2, ⟨rc', cc', sl', nw', no', ops', o1', o2', o3', sz', st', pr', pc', rg', wk', jn', sd', br', io', cp', cl', hd', ct', wt', wc', rr', ab', dx', ox', ss', yy', sp', dy', ly', rfl, rfl, K2, fW, fr, rfl, rfl⟩⟩ := fd_finish (Or.inr rfl) hx (by omega) K1
        obtain ⟨r', g1, g2⟩ := fd_Y_first (cc := cc') (sl := sl') (nw := nw') (no := no') (ss := ss') (yy := yy') (sz := sz') (wk := wk') (cp := cp') (cl := cl') (hd := hd') (ct := ct') (ab := ab') (dy := dy') (ly := ly') (y := y) (sp := sp') K2.2.1 fd_kdT
        obtain ⟨M, hM1, hM2⟩ := hM0
        obtain ⟨u, v, h1, h2, h3⟩ := ih (i + 1) (s + 12) r' _ _ _ _ _ _ _ _ _ _ _ _ _ _ _ _ _ _ _ _ _ _ _ _ _ _ _ _ _ _ _ _ _ _ (by omega) (by omega) ⟨M, hM1, fun g hg z => hM2 g hg (fd_wa_u' (by decide) (fW y g z)).2 (fd_wa_u' (by decide) (fW y g z)).1⟩ g1 K2
        refine ⟨u, v, fun post H => br_f n12 ⟨hy, br_f n0 ⟨i0.1, nm_r ez ⟨hx, br_f hsd (hlx _ (f1 _ (nm_r (nI_1 i) (h1 post H))))⟩⟩⟩, fun post H => br_f xr (fd_Y_sd hx hp (fun _ => br_f (by decide) (f2 _ (g2 _ (h2 post H)))) (fun z => absurd op z)), fd_Rel_m h3 (Nat.le_refl B) (by omega) (fun _ _ z => z) (fun g z => ?_)⟩
        exact fr g (fd_fr_u' (pc := pc) n2 g z).1
      · have hsd : sd x.toNatClampNeg = 0 := by
          rcases hw with q | q | q | q
          · exact absurd q.1 op
          · exact q.2.2.1
          · exact q.2.2.1
          · rcases ma.2.2 with w | w
            · rw [q.1] at w; exact absurd w.1 (by decide)
            · rw [q.1] at w; exact absurd w.1 (by decide)
        have hio := (fd_io hF s3 op).1
        have hrc := fd_K_rc h hx (by rw [s3]; decide)
        obtain ⟨wt', wc', hlv, hrl⟩ := fd_X_release (cc := cc) (sl := sl) (nw := nw) (no := no) (ops := ops) (o1 := o1) (o2 := o2) (o3 := o3) (sz := sz) (st := st) (pr := pr) (pc := pc) (rg := upd rg (3 * x.toNatClampNeg + (io x.toNatClampNeg).toNatClampNeg) (-1000000)) (wk := wk) (jn := jn) (sd := sd) (br := br) (io := io) (cp := cp) (cl := cl) (hd := hd) (ct := ct) (rr := rr) (ab := ab) (dx := dx) (ox := ox) h.2.2.2.1 hx hrc
        have K2 := fd_K_rel h (by omega) hx s3 (fd_agr_u (x := -1000000) (fd_lt hio)) hlv
        obtain ⟨r', g1, g2⟩ := fd_Y_first (cc := cc) (sl := sl) (nw := nw) (no := no) (ss := ss + 1) (yy := yy) (sz := sz) (wk := wk) (cp := cp) (cl := cl) (hd := hd) (ct := ct) (ab := ab) (dy := dy) (ly := ly) (y := y) (sp := vp_updL sp x.toNatClampNeg (ss + 1)) K2.2.1 fd_kdT
        obtain ⟨M, hM1, hM2⟩ := hM0
        obtain ⟨u, v, h1, h2, h3⟩ := ih (i + 1) (s + 1) r' _ _ _ _ _ _ _ _ _ _ _ _ _ _ _ _ _ _ _ _ _ _ _ _ _ _ _ _ _ _ _ _ _ _ (by omega) (by omega) ⟨M, hM1, fun g hg z => hM2 g hg (fd_wa_u (by decide) z).2 (fd_wa_u (by decide) z).1⟩ g1 K2
        exact ⟨u, v, fun post H => br_f n12 ⟨hy, br_f n0 ⟨i0.1, nm_r ez ⟨hx, br_t hsd (fd_X_fill hx hio (hrl _ (nm_r (nI_1 i) (h1 post H))))⟩⟩⟩, fun post H => br_f xr (fd_Y_sd hx hp (fun z => absurd z op) (fun _ => br_t rfl (fd_Y_give hx hF s3 op (g2 _ (h2 post H))))), fd_Rel_m h3 (Nat.le_refl B) (by omega) (fun _ _ z => z) (fd_fr_u n2)⟩
end
section
variable {rc cc sl nw no : Int32} {ops o1 o2 o3 sz st pr pc rg wk jn sd br io cp cl hd ct wt wc rr ab dx ox : Nat → Int32} {ss : Int64} {yy : Int32} {sp : Nat → Int64} {dy ly : Nat → Int32} {B s k0 : Nat}
theorem fd_close {y : Int32} (hy : vp_in y 4) (hs : s + 156 < 2 ^ 62) (h : fd_K B s k0 rc cc sl nw no ops o1 o2 o3 sz st pr pc rg wk jn sd br io cp cl hd ct wt wc rr ab dx ox ss yy sp dy ly) : fd_Do (fun post => wpX_close post (rc, cc, sl, nw, no, ops, o1, o2, o3, sz, st, pr, pc, rg, wk, jn, sd, br, io, cp, cl, hd, ct, wt, wc, rr, ab, dx, ox) y) (fun post => wpY_close post (cc, sl, nw, no, ss, yy, ops, o1, o2, o3, sz, st, pr, pc, rg, wk, sp, cp, cl, hd, ct, ab, dy, ly) y) (fd_Rel B (s + 156) k0 (fun _ _ => True) st pc ab yy) := by
  have h' : fd_K B s k0 rc cc sl nw no ops o1 o2 o3 sz st pr pc rg wk jn sd br io cp (upd cl y.toNatClampNeg (vp_nar .boolean 1)) hd ct wt wc rr ab dx ox ss yy sp dy ly := h
  obtain ⟨L, hQ, hH, hc⟩ := h.2.2.2.1 y hy
  obtain ⟨r, g1, g2⟩ := fd_Y_first (cc := cc) (sl := sl) (nw := nw) (no := no) (ss := ss) (yy := yy) (sz := sz) (wk := wk) (cp := cp) (cl := upd cl y.toNatClampNeg (vp_nar .boolean 1)) (hd := hd) (ct := ct) (ab := ab) (dy := dy) (ly := ly) (y := y) (sp := sp) h.2.1 fd_kdT
  obtain ⟨u, v, h1, h2, h3⟩ := fd_cll hy 12 0 s r _ _ _ _ _ _ _ _ _ _ _ _ _ _ _ _ _ _ _ _ _ _ _ _ _ _ _ _ _ _ _ _ _ _ (by omega) (by omega) ⟨L, fd_Q_len hQ, fun g hg z => (hQ.1 g).mpr ⟨hg, z⟩⟩ g1 h'
  exact ⟨u, v, fun post H => And.intro hy (nm_e ⟨13, h1 post H⟩), fun post H => And.intro hy (nm_e (g2 _ ⟨13, h2 post H⟩)), h3⟩
theorem fd_X_ln {x v : Int32} {rg' : Nat → Int32} (hx : vp_in x 12) (hr : vp_in rc 12) {post : Int32 → SX → Prop} (e : rg' = upd (upd rg (3 * x.toNatClampNeg + 1) 0) (3 * x.toNatClampNeg + 2) 0) (H : post x (rc + 1, cc, sl, nw, no, ops, o1, o2, o3, sz, upd st x.toNatClampNeg 1, pr, pc, rg', wk, jn, sd, br, io, cp, cl, hd, ct, wt, wc, upd rr rc.toNatClampNeg x, ab, dx, ox)) : ∃ n, wX_launch_53 post x rc cc sl nw no n 1 ops o1 o2 o3 sz st pr pc rg wk jn sd br io cp cl hd ct wt wc rr ab dx ox := by
  have i1 := fd_3' hx (y := 1) (vp_in_nI (n := 1) (by omega) (by omega))
  have i2 := fd_3' hx (y := 2) (vp_in_nI (n := 2) (by omega) (by omega))
  have c1 : (1 : Int32).toNatClampNeg = 1 := by decide
  have c2 : (2 : Int32).toNatClampNeg = 2 := by decide
  rw [c1] at i1
  rw [c2] at i2
  subst e
  refine ⟨3, br_f (by decide) ⟨i1.1, nm_r (e' := upd rg (3 * x.toNatClampNeg + 1) 0) (by rw [i1.2]) (nm_r (e' := 2) (by decide) (br_f (by decide) ⟨i2.1, nm_r (e' := upd (upd rg (3 * x.toNatClampNeg + 1) 0) (3 * x.toNatClampNeg + 2) 0) (by rw [i2.2]) (nm_r (e' := 3) (by decide) (br_t (by decide) (fd_X_toRow hx hr H)))⟩))⟩⟩
theorem fd_X_ll {p v : Int32} {post : Int32 → SX → Prop} (ha : ∀ g, g < 12 → fd_aw (st g)) (H : post (-1) (rc, cc, sl, nw, no, ops, o1, o2, o3, sz, st, pr, pc, rg, wk, jn, sd, br, io, cp, cl, hd, ct, wt, wc, rr, ab, dx, ox)) : ∀ d i : Nat, i + d = 12 → wX_launch_13 post p v rc cc sl nw no ops o1 o2 o3 sz st pr pc rg wk jn sd br io cp cl hd ct wt wc rr ab dx ox (d + 1) (nI i) := by
  intro d
  induction d with
  | zero => intro i hi; have e : i = 12 := by omega
            subst e; exact br_t (by decide) H
  | succ d ih =>
    intro i hi
    have ei : (nI i).toNatClampNeg = i := nI_clamp (by omega)
    exact br_f (nI_ge (b := 12) (by omega) (by decide)) (fd_X_aw (vp_in_nI (by omega) (by omega)) (fun _ => br_f (by decide) (nm_r (nI_1 i) (ih (i + 1) (by omega)))) (fun z => absurd (by rw [ei]; exact ha i (by omega)) z))
theorem fd_X_llb {p v : Int32} {post : Int32 → SX → Prop} {b : Nat} (hb : b < 12) (hn : ¬ fd_aw (st b)) (ha : ∀ g, g < b → fd_aw (st g)) (hr : vp_in rc 12) (H : post (nI b) (rc + 1, cc, sl, nw, no, ops, o1, o2, o3, sz, upd st (nI b).toNatClampNeg 1, upd pr (nI b).toNatClampNeg p, upd pc (nI b).toNatClampNeg 0, upd (upd (upd rg (3 * (nI b).toNatClampNeg) v) (3 * (nI b).toNatClampNeg + 1) 0) (3 * (nI b).toNatClampNeg + 2) 0, wk, jn, sd, br, io, cp, cl, hd, ct, wt, wc, upd rr rc.toNatClampNeg (nI b), ab, dx, ox)) : ∀ d i : Nat, i + d = b → wX_launch_13 post p v rc cc sl nw no ops o1 o2 o3 sz st pr pc rg wk jn sd br io cp cl hd ct wt wc rr ab dx ox (d + 1) (nI i) := by
  intro d
  induction d with
  | zero =>
    intro i hi
    have e : i = b := by omega
    subst e
    have ei : (nI i).toNatClampNeg = i := nI_clamp (by omega)
    have hx : vp_in (nI i) 12 := vp_in_nI (by omega) (by omega)
    have i0 := fd_30' hx
    refine br_f (nI_ge (b := 12) (by omega) (by decide)) (fd_X_aw hx (fun z => absurd (by rw [ei] at z; exact z) hn) (fun _ => br_t rfl ⟨hx, nm_e ⟨hx, nm_e ⟨i0.1, nm_r (e' := upd rg (3 * (nI i).toNatClampNeg) v) (by rw [i0.2]) (fd_X_ln (v := 0) hx hr rfl H)⟩⟩⟩))
  | succ d ih =>
    intro i hi
    have ei : (nI i).toNatClampNeg = i := nI_clamp (by omega)
    exact br_f (nI_ge (b := 12) (by omega) (by decide)) (fd_X_aw (vp_in_nI (by omega) (by omega)) (fun _ => br_f (by decide) (nm_r (nI_1 i) (ih (i + 1) (by omega)))) (fun z => absurd (by rw [ei]; exact ha i (by omega)) z))
theorem fd_launch {p v : Int32} (hp : vp_in p 6) (hs : s < 2 ^ 62) (h : fd_K B s k0 rc cc sl nw no ops o1 o2 o3 sz st pr pc rg wk jn sd br io cp cl hd ct wt wc rr ab dx ox ss yy sp dy ly) : ∃ n u' v', (∀ post : Int32 → SX → Prop, post n u' → wpX_launch post (rc, cc, sl, nw, no, ops, o1, o2, o3, sz, st, pr, pc, rg, wk, jn, sd, br, io, cp, cl, hd, ct, wt, wc, rr, ab, dx, ox) p v) ∧ (∀ post : Int32 → SY → Prop, post n v' → wpY_start post (cc, sl, nw, no, ss, yy, ops, o1, o2, o3, sz, st, pr, pc, rg, wk, sp, cp, cl, hd, ct, ab, dy, ly) p v) ∧ fd_Rel B (s + 1) k0 (fun _ _ => True) st pc ab yy u' v' := by
  have hp7 := fd_mono hp (show 6 ≤ 7 by omega)
  have hR0 : fd_Rel B (s + 1) k0 (fun _ _ => True) st pc ab yy (rc, cc, sl, nw, no, ops, o1, o2, o3, sz, st, pr, pc, rg, wk, jn, sd, br, io, cp, cl, hd, ct, wt, wc, rr, ab, dx, ox) (cc, sl, nw, no, ss, yy, ops, o1, o2, o3, sz, st, pr, pc, rg, wk, sp, cp, cl, hd, ct, ab, dy, ly) := fd_Rel_m (fd_K_Rel h) (Nat.le_refl B) (by omega) (fun _ _ _ => trivial) (fun _ z => ⟨z, rfl⟩)
  rcases fd_rm st with ha | ⟨b, hb, hn, ha⟩
  · refine ⟨-1, _, _, fun post H => And.intro hp7 (br_c (fun _ => H) (fun _ => ⟨13, fd_X_ll ha H 12 0 rfl⟩)), fun post H => ?_, hR0⟩
    unfold wpY_start
    refine ⟨13, fd_Y_rl ha ?_ 12 0 rfl⟩
    exact fd_Y_wi 5 (by omega) rfl (fun _ => br_f (by decide) ⟨hp7, br_c (fun _ => H) (fun _ => br_f (by decide) H)⟩) (fun z => absurd hp z)
  · by_cases z : sz p.toNatClampNeg = 0
    · refine ⟨-1, _, _, fun post H => And.intro hp7 (br_t z H), fun post H => ?_, hR0⟩
      unfold wpY_start
      refine ⟨b + 1, fd_Y_rlb hb hn ha ?_ b 0 (Nat.zero_add b)⟩
      exact fd_Y_wi 5 (by omega) rfl (fun _ => br_f (by decide) ⟨hp7, br_t z H⟩) (fun z => absurd hp z)
    · have hx : vp_in (nI b) 12 := vp_in_nI hb (by omega)
      have eb : (nI b).toNatClampNeg = b := nI_clamp (by omega)
      have hn' : ¬ fd_aw (st (nI b).toNatClampNeg) := by rw [eb]; exact hn
      have n1 : st (nI b).toNatClampNeg ≠ 1 := fun z => hn' (Or.inl z)
      have n2 : st (nI b).toNatClampNeg ≠ 2 := fun z => hn' (Or.inr (Or.inl z))
      have hr := fd_K_rc h hx n1
      have i0 := fd_30 hx
      have i1 := fd_3 hx (y := 1) (vp_in_nI (n := 1) (by omega) (by omega))
      have i2 := fd_3 hx (y := 2) (vp_in_nI (n := 2) (by omega) (by omega))
      have c1 : (1 : Int32).toNatClampNeg = 1 := by decide
      have c2 : (2 : Int32).toNatClampNeg = 2 := by decide
      rw [c1] at i1
      rw [c2] at i2
      have K' := fd_K_new (x := nI b) (pr' := upd pr (nI b).toNatClampNeg p) (pc' := upd pc (nI b).toNatClampNeg 0) (rg' := upd (upd (upd rg (3 * (nI b).toNatClampNeg) v) (3 * (nI b).toNatClampNeg + 1) 0) (3 * (nI b).toNatClampNeg + 2) 0) h hs hx hn' fd_ag_u fd_ag_u (fd_agr_t (fd_agr_t (fd_agr_u (j := 0) (by omega)) (fd_agr_u (j := 1) (by omega))) (fd_agr_u (j := 2) (by omega))) (by rw [pk_us]; exact hp) (by rw [pk_us]; exact fd_0in (by omega))
      refine ⟨nI b, _, _, fun post H => And.intro hp7 (br_f z ⟨b + 1, fd_X_llb hb hn ha hr H b 0 (Nat.zero_add b)⟩), fun post H => ?_, fd_Rel_m (fd_K_Rel K') (Nat.le_refl B) (Nat.le_refl _) (fun _ _ _ => trivial) (fd_fr_u n2)⟩
      unfold wpY_start
      refine ⟨b + 1, fd_Y_rlb hb hn ha ?_ b 0 (Nat.zero_add b)⟩
      exact fd_Y_wi 5 (by omega) rfl (fun _ => br_f (by decide) ⟨hp7, br_f z (br_t (nI_pos' (by omega)) ⟨hx, nm_e ⟨hx, nm_e ⟨i0.1, nm_r (e' := upd rg (3 * (nI b).toNatClampNeg) v) (by rw [i0.2]) ⟨i1.1, nm_r (by rw [i1.2]) ⟨i2.1, nm_r (by rw [i2.2]) (fd_Y_ready hx H)⟩⟩⟩⟩⟩)⟩) (fun z => absurd hp z)
end
end
section
section
variable {rc cc sl nw no : Int32} {ops o1 o2 o3 sz st pr pc rg wk jn sd br io cp cl hd ct wt wc rr ab dx ox : Nat → Int32} {ss : Int64} {yy : Int32} {sp : Nat → Int64} {dy ly : Nat → Int32} {B s k0 : Nat}
theorem fd_snd {y : Int32} {g : Nat} (hF : fd_F ops o1 o2 o3 st pr pc rg jn sd br io g) (w : fd_wa ops o1 o2 st pr pc y g) : (sd g = 1 ↔ ops (fd_k pr pc g) = 6) ∧ (sd g = 0 ↔ ¬ ops (fd_k pr pc g) = 6) := by
  rcases (hF.2 w.1).2.2 with q | q | q | q
  · rw [q.1, q.2.2.1]; decide
  · rw [q.1, q.2.2.1]; decide
  · rw [q.1, q.2.2.1]; decide
  · rcases w.2 with z | z
    · rw [q.1] at z; exact absurd z.1 (by decide)
    · rw [q.1] at z; exact absurd z.1 (by decide)
theorem fd_firsts1 {y : Int32} (hy : vp_in y 4) (h : fd_K B s k0 rc cc sl nw no ops o1 o2 o3 sz st pr pc rg wk jn sd br io cp cl hd ct wt wc rr ab dx ox ss yy sp dy ly) : ∃ r, fd_Mi (fun g => fd_wa ops o1 o2 st pr pc y g ∧ ops (fd_k pr pc g) = 6) sp 12 r ∧ (∀ post : Int32 → Prop, post r → wpX_firstWaiting post (rc, cc, sl, nw, no, ops, o1, o2, o3, sz, st, pr, pc, rg, wk, jn, sd, br, io, cp, cl, hd, ct, wt, wc, rr, ab, dx, ox) y 1) ∧ (∀ post : Int32 → Prop, post r → wpY_first post (cc, sl, nw, no, ss, yy, ops, o1, o2, o3, sz, st, pr, pc, rg, wk, sp, cp, cl, hd, ct, ab, dy, ly) y 1) := by
  obtain ⟨L, hQ, _, _⟩ := h.2.2.2.1 y hy
  obtain ⟨r, g1, g2⟩ := fd_X_fw (rc := rc) (cc := cc) (sl := sl) (nw := nw) (no := no) (ops := ops) (o1 := o1) (o2 := o2) (o3 := o3) (sz := sz) (st := st) (pr := pr) (pc := pc) (rg := rg) (wk := wk) (jn := jn) (sd := sd) (br := br) (io := io) (cp := cp) (cl := cl) (hd := hd) (ct := ct) (rr := rr) (ab := ab) (dx := dx) (ox := ox) 1 h.2.2.2.1 hy
  obtain ⟨r', f1, f2⟩ := fd_Y_first (cc := cc) (sl := sl) (nw := nw) (no := no) (ss := ss) (yy := yy) (sz := sz) (wk := wk) (cp := cp) (cl := cl) (hd := hd) (ct := ct) (ab := ab) (dy := dy) (ly := ly) (y := y) (sp := sp) (k := 1) (K := fun g => ops (fd_k pr pc g) = 6) h.2.1 (Or.inr (Or.inl ⟨rfl, fun g => Iff.rfl⟩))
  have g3 : fd_Mi (fun g => fd_wa ops o1 o2 st pr pc y g ∧ ops (fd_k pr pc g) = 6) sp 12 r := fd_Mi_c g1 (fun g hg => ⟨fun z => ⟨z.1, (fd_snd (h.2.1 g hg) z.1).1.mpr z.2⟩, fun z => ⟨z.1, (fd_snd (h.2.1 g hg) z.1).1.mp z.2⟩⟩)
  have e := fd_M_u hQ (fun g z => z.1) g3 f1
  exact ⟨r, g3, g2, by rw [e]; exact f2⟩
theorem fd_firsts0 {y : Int32} (hy : vp_in y 4) (h : fd_K B s k0 rc cc sl nw no ops o1 o2 o3 sz st pr pc rg wk jn sd br io cp cl hd ct wt wc rr ab dx ox ss yy sp dy ly) : ∃ r, fd_Mi (fun g => fd_wa ops o1 o2 st pr pc y g ∧ ¬ ops (fd_k pr pc g) = 6) sp 12 r ∧ (∀ post : Int32 → Prop, post r → wpX_firstWaiting post (rc, cc, sl, nw, no, ops, o1, o2, o3, sz, st, pr, pc, rg, wk, jn, sd, br, io, cp, cl, hd, ct, wt, wc, rr, ab, dx, ox) y 0) ∧ (∀ post : Int32 → Prop, post r → wpY_first post (cc, sl, nw, no, ss, yy, ops, o1, o2, o3, sz, st, pr, pc, rg, wk, sp, cp, cl, hd, ct, ab, dy, ly) y 0) := by
  obtain ⟨L, hQ, _, _⟩ := h.2.2.2.1 y hy
  obtain ⟨r, g1, g2⟩ := fd_X_fw (rc := rc) (cc := cc) (sl := sl) (nw := nw) (no := no) (ops := ops) (o1 := o1) (o2 := o2) (o3 := o3) (sz := sz) (st := st) (pr := pr) (pc := pc) (rg := rg) (wk := wk) (jn := jn) (sd := sd) (br := br) (io := io) (cp := cp) (cl := cl) (hd := hd) (ct := ct) (rr := rr) (ab := ab) (dx := dx) (ox := ox) 0 h.2.2.2.1 hy
  obtain ⟨r', f1, f2⟩ := fd_Y_first (cc := cc) (sl := sl) (nw := nw) (no := no) (ss := ss) (yy := yy) (sz := sz) (wk := wk) (cp := cp) (cl := cl) (hd := hd) (ct := ct) (ab := ab) (dy := dy) (ly := ly) (y := y) (sp := sp) (k := 0) (K := fun g => ¬ ops (fd_k pr pc g) = 6) h.2.1 (Or.inr (Or.inr ⟨rfl, fun g => Iff.rfl⟩))
  have g3 : fd_Mi (fun g => fd_wa ops o1 o2 st pr pc y g ∧ ¬ ops (fd_k pr pc g) = 6) sp 12 r := fd_Mi_c g1 (fun g hg => ⟨fun z => ⟨z.1, (fd_snd (h.2.1 g hg) z.1).2.mpr z.2⟩, fun z => ⟨z.1, (fd_snd (h.2.1 g hg) z.1).2.mp z.2⟩⟩)
  have e := fd_M_u hQ (fun g z => z.1) g3 f1
  exact ⟨r, g3, g2, by rw [e]; exact f2⟩
theorem fd_C_u {y z : Int32} (h : fd_C cp ct) (hz : vp_in z 4) : fd_C cp (upd ct y.toNatClampNeg z) := fun y' hy' => ⟨(h y' hy').1, by
  by_cases e : y'.toNatClampNeg = y.toNatClampNeg
  · rw [e, pk_us]; exact hz
  · rw [pk_un e]; exact (h y' hy').2⟩
theorem fd_K_C {hd' ct' : Nat → Int32} (h : fd_K B s k0 rc cc sl nw no ops o1 o2 o3 sz st pr pc rg wk jn sd br io cp cl hd ct wt wc rr ab dx ox ss yy sp dy ly) (hC : fd_C cp ct') : fd_K B s k0 rc cc sl nw no ops o1 o2 o3 sz st pr pc rg wk jn sd br io cp cl hd' ct' wt wc rr ab dx ox ss yy sp dy ly := ⟨h.1, h.2.1, h.2.2.1, h.2.2.2.1, h.2.2.2.2.1, hC, h.2.2.2.2.2.2⟩
theorem fd_X_hold' {post : SX → Prop} {y v : Int32} {m : Nat} (hy : vp_in y 4) (hm : m < 3) (hc : ct y.toNatClampNeg = nI m) (H : post (rc, cc, sl, nw, no, ops, o1, o2, o3, sz, st, pr, pc, rg, wk, jn, sd, br, io, cp, cl, upd hd (3 * y.toNatClampNeg + m) v, upd ct y.toNatClampNeg (nI m + 1), wt, wc, rr, ab, dx, ox)) : wpX_hold post (rc, cc, sl, nw, no, ops, o1, o2, o3, sz, st, pr, pc, rg, wk, jn, sd, br, io, cp, cl, hd, ct, wt, wc, rr, ab, dx, ox) y v := by
  refine fd_X_hold hy (by rw [hc]; exact vp_in_nI hm (by omega)) ?_
  rw [hc, nI_clamp (by omega)]
  exact H
theorem fd_take {y : Int32} (hy : vp_in y 4) (hs : s < 2 ^ 62) (h : fd_K B s k0 rc cc sl nw no ops o1 o2 o3 sz st pr pc rg wk jn sd br io cp cl hd ct wt wc rr ab dx ox ss yy sp dy ly) : ∃ n u' v', (∀ post : Int32 → SX → Prop, post n u' → wpX_takeFrom post (rc, cc, sl, nw, no, ops, o1, o2, o3, sz, st, pr, pc, rg, wk, jn, sd, br, io, cp, cl, hd, ct, wt, wc, rr, ab, dx, ox) y) ∧ (∀ post : Int32 → SY → Prop, post n v' → wpY_take post (cc, sl, nw, no, ss, yy, ops, o1, o2, o3, sz, st, pr, pc, rg, wk, sp, cp, cl, hd, ct, ab, dy, ly) y) ∧ fd_Rel B (s + 1) k0 (fun _ _ => True) st pc ab yy u' v' := by
  obtain ⟨r, m1, fX, fY⟩ := fd_firsts1 hy h
  have hC := h.2.2.2.2.2.1
  have hct := (hC y hy).2
  have y0 := fd_lt hy
  have j0 := fd_c30 hy
  have j0' := fd_c30' hy
  by_cases c0 : ct y.toNatClampNeg = 0
  · by_cases er : r = -1
    · refine ⟨-1000000, _, _, fun post H => ?_, fun post H => ?_, fd_Rel_m (fd_K_Rel h) (Nat.le_refl B) (by omega) (fun _ _ _ => trivial) (fun _ z => ⟨z, rfl⟩)⟩
      · unfold wpX_takeFrom
        exact fX _ ⟨hy, br_t c0 (br_t er H)⟩
      · unfold wpY_take
        exact fY _ ⟨hy, br_t c0 (br_f (fun z => (fd_M_ge m1).mp z er) H)⟩
    · obtain ⟨hx, w, op⟩ := fd_M_yes m1 er
      have s3 := w.1
      have n2 : st r.toNatClampNeg ≠ 2 := by rw [s3]; decide
      have hF := h.2.1 r.toNatClampNeg (fd_lt hx)
      have hrc := fd_K_rc h hx (by rw [s3]; decide)
      have xr := fd_nn hx
      obtain ⟨wt', wc', hlv, hrl⟩ := fd_X_release (cc := cc) (sl := sl) (nw := nw) (no := no) (ops := ops) (o1 := o1) (o2 := o2) (o3 := o3) (sz := sz) (st := st) (pr := pr) (pc := pc) (rg := rg) (wk := wk) (jn := jn) (sd := sd) (br := br) (io := io) (cp := cp) (cl := cl) (hd := hd) (ct := ct) (rr := rr) (ab := ab) (dx := dx) (ox := ox) h.2.2.2.1 hx hrc
      have K2 := fd_K_rel h hs hx s3 fd_agr_r hlv
      refine ⟨br r.toNatClampNeg, _, _, fun post H => ?_, fun post H => ?_, fd_Rel_m (fd_K_Rel K2) (Nat.le_refl B) (Nat.le_refl _) (fun _ _ _ => trivial) (fd_fr_u n2)⟩
      · unfold wpX_takeFrom
        refine fX _ ⟨hy, br_t c0 (br_f er (And.intro hy (br_t c0 ⟨hx, nm_e (br_f er (hrl _ H))⟩)))⟩
      · unfold wpY_take
        refine fY _ ⟨hy, br_t c0 (br_t (fd_ge0 hx) (br_f xr (fd_Y_sent hx hF s3 op (And.intro hy (br_t ((fd_c0' hct).mpr c0) (br_f xr (fd_Y_goOn hx H)))))))⟩
  · obtain ⟨m, hm, ec⟩ : ∃ m, m < 3 ∧ ct y.toNatClampNeg = nI (m + 1) := by
      obtain ⟨j, hj, e⟩ := vp_in_of hct (by omega)
      have : j ≠ 0 := fun z => c0 (by rw [e, z]; decide)
      exact ⟨j - 1, by omega, by rw [e]; congr 1; omega⟩
    have c0' : ¬ ct y.toNatClampNeg ≤ 0 := fun z => c0 ((fd_c0' hct).mp z)
    have ect : upd ct y.toNatClampNeg (ct y.toNatClampNeg - 1) = upd ct y.toNatClampNeg (nI m) := by rw [ec, nI_pred]
    have e3 : 3 * y = nI (3 * y.toNatClampNeg + 0) := by rw [Nat.add_zero, ← j0.2]; exact fd_eq j0.1
    have ehd : hd (3 * y).toNatClampNeg = hd (3 * y.toNatClampNeg) := by rw [j0.2]
    have ehd' : hd (y * 3).toNatClampNeg = hd (3 * y.toNatClampNeg) := by rw [j0'.2]
    have K1 := fd_K_C (hd' := fd_sh hd (3 * y.toNatClampNeg) m) h (fd_C_u (y := y) hC (vp_in_nI (n := m) (N := 4) (by omega) (by omega)))
    by_cases er : r = -1
    · have xr : r < 0 := (fd_M_neg m1).mpr er
      refine ⟨hd (3 * y.toNatClampNeg), _, _, fun post H => ?_, fun post H => ?_, fd_Rel_m (fd_K_Rel K1) (Nat.le_refl B) (by omega) (fun _ _ _ => trivial) (fun _ z => ⟨z, rfl⟩)⟩
      · unfold wpX_takeFrom
        exact fX _ ⟨hy, br_f c0 (And.intro hy (br_f c0 ⟨j0'.1, nm_r ehd' (fd_X_drop hy hm ec (br_t er (br_t er H)))⟩))⟩
      · unfold wpY_take
        refine fY _ ⟨hy, br_f c0 (br_t xr (And.intro hy (br_f c0' ⟨j0.1, nm_r ehd ⟨hy, hy, nm_r ect (nm_r e3 ⟨m + 1, ?_⟩)⟩⟩)))⟩
        have q := fd_Y_tl (post := post) (y := y) (x2 := r) (x3 := 0) (x4 := hd (3 * y.toNatClampNeg)) (cc := cc) (sl := sl) (nw := nw) (no := no) (ss := ss) (yy := yy) (ops := ops) (o1 := o1) (o2 := o2) (o3 := o3) (sz := sz) (st := st) (pr := pr) (pc := pc) (rg := rg) (wk := wk) (sp := sp) (cp := cp) (cl := cl) (hd := hd) (ct := upd ct y.toNatClampNeg (nI m)) (ab := ab) (dy := dy) (ly := ly) hy hm pk_us (fun _ => br_t xr H) (fun z => absurd xr z) m 0 (Nat.zero_add m)
        rw [fd_sh_0] at q
        exact q
    · obtain ⟨hx, w, op⟩ := fd_M_yes m1 er
      have s3 := w.1
      have n2 : st r.toNatClampNeg ≠ 2 := by rw [s3]; decide
      have hF := h.2.1 r.toNatClampNeg (fd_lt hx)
      have hrc := fd_K_rc h hx (by rw [s3]; decide)
      have xr := fd_nn hx
      have K1' := fd_K_C (hd' := upd (fd_sh hd (3 * y.toNatClampNeg) m) (3 * y.toNatClampNeg + m) (br r.toNatClampNeg)) (ct' := upd (upd ct y.toNatClampNeg (nI m)) y.toNatClampNeg (nI m + 1)) h (fd_C_u (y := y) (fd_C_u (y := y) hC (vp_in_nI (n := m) (N := 4) (by omega) (by omega))) (by rw [nI_1]; exact vp_in_nI (by omega) (by omega)))
      obtain ⟨wt', wc', hlv, hrl⟩ := fd_X_release (cc := cc) (sl := sl) (nw := nw) (no := no) (ops := ops) (o1 := o1) (o2 := o2) (o3 := o3) (sz := sz) (st := st) (pr := pr) (pc := pc) (rg := rg) (wk := wk) (jn := jn) (sd := sd) (br := br) (io := io) (cp := cp) (cl := cl) (hd := upd (fd_sh hd (3 * y.toNatClampNeg) m) (3 * y.toNatClampNeg + m) (br r.toNatClampNeg)) (ct := upd (upd ct y.toNatClampNeg (nI m)) y.toNatClampNeg (nI m + 1)) (rr := rr) (ab := ab) (dx := dx) (ox := ox) h.2.2.2.1 hx hrc
      have K2 := fd_K_rel K1' hs hx s3 fd_agr_r hlv
      refine ⟨hd (3 * y.toNatClampNeg), _, _, fun post H => ?_, fun post H => ?_, fd_Rel_m (fd_K_Rel K2) (Nat.le_refl B) (Nat.le_refl _) (fun _ _ _ => trivial) (fd_fr_u n2)⟩
      · unfold wpX_takeFrom
        exact fX _ ⟨hy, br_f c0 (And.intro hy (br_f c0 ⟨j0'.1, nm_r ehd' (fd_X_drop hy hm ec (br_f er ⟨hx, fd_X_hold' hy hm pk_us (br_f er (hrl _ H))⟩))⟩))⟩
      · unfold wpY_take
        refine fY _ ⟨hy, br_f c0 (br_f xr (fd_Y_sent hx hF s3 op (And.intro hy (br_f c0' ⟨j0.1, nm_r ehd ⟨hy, hy, nm_r ect (nm_r e3 ⟨m + 1, ?_⟩)⟩⟩))))⟩
        have q := fd_Y_tl (post := post) (y := y) (x2 := r) (x3 := br r.toNatClampNeg) (x4 := hd (3 * y.toNatClampNeg)) (cc := cc) (sl := sl) (nw := nw) (no := no) (ss := ss) (yy := yy) (ops := ops) (o1 := o1) (o2 := o2) (o3 := o3) (sz := sz) (st := st) (pr := pr) (pc := pc) (rg := rg) (wk := wk) (sp := sp) (cp := cp) (cl := cl) (hd := hd) (ct := upd ct y.toNatClampNeg (nI m)) (ab := ab) (dy := dy) (ly := ly) hy hm pk_us (fun z => absurd z xr) (fun _ => br_f xr (fd_Y_goOn hx H)) m 0 (Nat.zero_add m)
        rw [fd_sh_0] at q
        exact q
end
end
section
/-- what a step ends in: the relation alone -/
def fd_RS (B s k0 : Nat) (ab0 : Nat → Int32) (yy0 : Int32) : SX → SY → Prop := fd_Rel B s k0 (fun _ _ => True) (fun _ => 0) (fun _ => 0) ab0 yy0
theorem fd_nar1 : vp_nar .boolean 1 = 1 := by decide
theorem fd_nar0 : vp_nar .boolean 0 = 0 := by decide
section
variable {rc cc sl nw no : Int32} {ops o1 o2 o3 sz st pr pc rg wk jn sd br io cp cl hd ct wt wc rr ab dx ox : Nat → Int32} {ss : Int64} {yy : Int32} {sp : Nat → Int64} {dy ly : Nat → Int32} {B s k0 : Nat}
theorem fd_send {x y v : Int32} (hr : fd_run k0 st ab x) (hpc : vp_in (pc x.toNatClampNeg) 12) (hg : fd_gd (ops (fd_k pr pc x.toNatClampNeg)) (o1 (fd_k pr pc x.toNatClampNeg)) (o2 (fd_k pr pc x.toNatClampNeg)) (o3 (fd_k pr pc x.toNatClampNeg))) (op : ops (fd_k pr pc x.toNatClampNeg) = 6) (ea : o1 (fd_k pr pc x.toNatClampNeg) = y) (ev : v = rg (3 * x.toNatClampNeg + (o2 (fd_k pr pc x.toNatClampNeg)).toNatClampNeg)) (hs : s + 200 < 2 ^ 62) (h : fd_K B s k0 rc cc sl nw no ops o1 o2 o3 sz st pr pc rg wk jn sd br io cp cl hd ct wt wc rr ab dx ox ss yy sp dy ly) : fd_Do (fun post => wpX_send post (rc, cc, sl, nw, no, ops, o1, o2, o3, sz, st, pr, pc, rg, wk, jn, sd, br, io, cp, cl, hd, ct, wt, wc, rr, ab, dx, ox) x y v) (fun post => wpY_send post (cc, sl, nw, no, ss, yy, ops, o1, o2, o3, sz, st, pr, pc, rg, wk, sp, cp, cl, hd, ct, ab, dy, ly) x y v) (fd_RS B (s + 200) k0 ab yy) := by
  have hx := hr.1
  have hy : vp_in y 4 := by rw [← ea]; exact (hg.2.2.2.2.2.1 (Or.inl op)).1
  obtain ⟨r, m1, fX, fY⟩ := fd_firsts0 hy h
  have hC := h.2.2.2.2.2.1
  have hpi := (fd_inc hpc (by omega)).1
  by_cases c0 : cl y.toNatClampNeg = 0
  · by_cases er : r = -1
    · have xr : r < 0 := (fd_M_neg m1).mpr er
      by_cases lt : ct y.toNatClampNeg < cp y.toNatClampNeg
      · obtain ⟨m, hm, ec⟩ : ∃ m, m < 3 ∧ ct y.toNatClampNeg = nI m := by
          obtain ⟨j, hj, e⟩ := vp_in_of (hC y hy).2 (by omega)
          obtain ⟨i, hi, e'⟩ := vp_in_of (hC y hy).1 (by omega)
          rw [e, e', nI_ltI (by omega) (by omega)] at lt
          exact ⟨j, by omega, e⟩
        have i1 := fd_c3 hy (vp_in_nI (n := m) (N := 3) hm (by omega))
        rw [nI_clamp (by omega)] at i1
        have K1 := fd_K_C (hd' := upd hd (3 * y.toNatClampNeg + m) v) (ct' := upd ct y.toNatClampNeg (nI m + 1)) h (fd_C_u (y := y) hC (by rw [nI_1]; exact vp_in_nI (by omega) (by omega)))
        have K2 := fd_K_own (pc' := upd pc x.toNatClampNeg (pc x.toNatClampNeg + 1)) K1 hx hr.2.1 fd_agr_r fd_ag_u (by rw [pk_us]; exact hpi)
        refine ⟨_, _, fun post H => And.intro hy (br_t c0 (fX _ (br_t er ⟨hy, hy, br_t lt (br_t er (fd_X_hold' hy hm ec (And.intro hx ⟨hx, nm_e H⟩)))⟩))), fun post H => ?_, fd_K_Rel0 K2 _ _ (Nat.le_refl B) (by omega)⟩
        unfold wpY_send
        refine fY _ ⟨hy, br_t c0 (br_t xr ⟨hy, hy, br_f (Int32.not_le.mpr lt) ⟨hy, hy, nm_r (e' := upd ct y.toNatClampNeg (nI m + 1)) (by rw [ec]) ⟨?_, nm_r (e' := upd hd (3 * y.toNatClampNeg + m) v) ?_ ⟨hx, hx, nm_e H⟩⟩⟩⟩)⟩
        · rw [ec]; exact i1.1
        · rw [ec, i1.2]
      · obtain ⟨w1, w2⟩ := fd_V_1 h (by omega) hx hr.2.1 hy (fun y' => by
          rw [op, ea]
          exact ⟨fun z => z.elim (fun q => q.2.symm) (fun q => absurd q.1 (by decide)), fun z => Or.inl ⟨Or.inl rfl, z.symm⟩⟩)
        have K1 := fd_K_rest (jn' := upd jn x.toNatClampNeg (-1)) (sd' := upd sd x.toNatClampNeg (vp_nar .boolean 1)) (br' := upd br x.toNatClampNeg v) h (by omega) hr hpc hg fd_ag_u fd_ag_u fd_ag_u fd_ag_r (Or.inl ⟨op, pk_us, by rw [pk_us]; exact fd_nar1, by rw [pk_us]; exact ev⟩) w2
        refine ⟨_, _, fun post H => And.intro hy (br_t c0 (fX _ (br_t er ⟨hy, hy, br_f lt ⟨hx, nm_e ⟨hx, nm_e (fd_X_waitAt hx hy w1 H)⟩⟩⟩))), fun post H => ?_, fd_K_Rel0 K1 _ _ (Nat.le_refl B) (by omega)⟩
        unfold wpY_send
        exact fY _ ⟨hy, br_t c0 (br_t xr ⟨hy, hy, br_t (Int32.not_lt.mp lt) (fd_Y_rest hx H)⟩)⟩
    · obtain ⟨hz, w, nop⟩ := fd_M_yes m1 er
      have s3 := w.1
      have n2 : st r.toNatClampNeg ≠ 2 := by rw [s3]; decide
      have hF := h.2.1 r.toNatClampNeg (fd_lt hz)
      have hrc := fd_K_rc h hz (by rw [s3]; decide)
      have hio := (fd_io hF s3 nop).1
      obtain ⟨wt', wc', hlv, hrl⟩ := fd_X_release (cc := cc) (sl := sl) (nw := nw) (no := no) (ops := ops) (o1 := o1) (o2 := o2) (o3 := o3) (sz := sz) (st := st) (pr := pr) (pc := pc) (rg := upd rg (3 * r.toNatClampNeg + (io r.toNatClampNeg).toNatClampNeg) v) (wk := wk) (jn := jn) (sd := sd) (br := br) (io := io) (cp := cp) (cl := cl) (hd := hd) (ct := ct) (rr := rr) (ab := ab) (dx := dx) (ox := ox) h.2.2.2.1 hz hrc
      have K1 := fd_K_rel h (by omega) hz s3 (fd_agr_u (x := v) (fd_lt hio)) hlv
      have fr := fd_fr_u (pc := pc) (v := 1) (w := pc r.toNatClampNeg + 1) n2 x.toNatClampNeg hr.2.1
      have K2 := fd_K_own (pc' := upd (upd pc r.toNatClampNeg (pc r.toNatClampNeg + 1)) x.toNatClampNeg (upd pc r.toNatClampNeg (pc r.toNatClampNeg + 1) x.toNatClampNeg + 1)) K1 hx fr.1 fd_agr_r fd_ag_u (by rw [pk_us, fr.2]; exact hpi)
      refine ⟨_, _, fun post H => And.intro hy (br_t c0 (fX _ (br_f er (br_f er (fd_X_fill hz hio (hrl _ (And.intro hx ⟨hx, nm_e H⟩))))))), fun post H => ?_, fd_K_Rel0 K2 _ _ (Nat.le_refl B) (by omega)⟩
      unfold wpY_send
      exact fY _ ⟨hy, br_t c0 (br_f (fd_nn hz) (fd_Y_give hz hF s3 nop ⟨hx, hx, nm_e H⟩))⟩
  · obtain ⟨u, v', h1, h2, h3⟩ := fd_finish (Or.inr rfl) hx (by omega) (fd_K_end (e := 6) h hr (Or.inr rfl))
    obtain ⟨rc', cc', sl', nw', no', ops', o1', o2', o3', sz', st', pr', pc', rg', wk', jn', sd', br', io', cp', cl', hd', ct', wt', wc', rr', ab', dx', ox', ss', yy', sp', dy', ly', rfl, rfl, hq⟩ := h3
    refine ⟨_, _, fun post H => And.intro hy (br_f c0 (h1 _ H)), fun post H => ?_, fd_Rel_0 ⟨rc', cc', sl', nw', no', ops', o1', o2', o3', sz', st', pr', pc', rg', wk', jn', sd', br', io', cp', cl', hd', ct', wt', wc', rr', ab', dx', ox', ss', yy', sp', dy', ly', rfl, rfl, hq⟩ _ _ (Nat.le_refl B) (by omega)⟩
    unfold wpY_send
    exact fY _ ⟨hy, br_f c0 (h2 _ H)⟩
/-- a number is taken at once -/
theorem fd_rcvT {x y c r : Int32} (hr : fd_run k0 st ab x) (hpc : vp_in (pc x.toNatClampNeg) 12) (hc : vp_in c 3) (hy : vp_in y 4) (hm : 0 ≤ r ↔ ¬ r = -1) (hf : ∀ post : Int32 → Prop, post r → wpY_first post (cc, sl, nw, no, ss, yy, ops, o1, o2, o3, sz, st, pr, pc, rg, wk, sp, cp, cl, hd, ct, ab, dy, ly) y 1) (gv : fd_gv (ct y.toNatClampNeg) (cl y.toNatClampNeg) r) (hs : s + 200 < 2 ^ 62) (h : fd_K B s k0 rc cc sl nw no ops o1 o2 o3 sz st pr pc rg wk jn sd br io cp cl hd ct wt wc rr ab dx ox ss yy sp dy ly) : fd_Do (fun post => wX_receive_41 post x y (x * 3 + c) rc cc sl nw no ops o1 o2 o3 sz st pr pc rg wk jn sd br io cp cl hd ct wt wc rr ab dx ox) (fun post => wpY_receive post (cc, sl, nw, no, ss, yy, ops, o1, o2, o3, sz, st, pr, pc, rg, wk, sp, cp, cl, hd, ct, ab, dy, ly) x y (3 * x + c)) (fd_RS B (s + 200) k0 ab yy) := by
  have hx := hr.1
  have i1 := fd_3' hx hc
  have i2 := fd_3 hx hc
  obtain ⟨n, u, v, h1, h2, ⟨rc', cc', sl', nw', no', ops', o1', o2', o3', sz', st', pr', pc', rg', wk', jn', sd', br', io', cp', cl', hd', ct', wt', wc', rr', ab', dx', ox', ss', yy', sp', dy', ly', rfl, rfl, K1, _, fr, eab, eyy⟩⟩ := fd_take hy (by omega) h
  have f := fr x.toNatClampNeg hr.2.1
  have K2 := fd_K_own (rg' := upd rg' (3 * x.toNatClampNeg + c.toNatClampNeg) n) (pc' := upd pc' x.toNatClampNeg (pc' x.toNatClampNeg + 1)) K1 hx f.1 (fd_agr_u (fd_lt hc)) fd_ag_u (by rw [pk_us, f.2]; exact (fd_inc hpc (by omega)).1)
  refine ⟨_, _, fun post H => ?_, fun post H => ?_, by rw [← eab, ← eyy]; exact fd_K_Rel0 K2 _ _ (Nat.le_refl B) (by omega)⟩
  · unfold wX_receive_41
    exact h1 _ ⟨i1.1, nm_r (by rw [i1.2]) ⟨hx, hx, nm_e H⟩⟩
  · unfold wpY_receive
    exact fd_Y_ww hf hm hy (fun _ => br_t rfl (h2 _ ⟨i2.1, nm_r (by rw [i2.2]) ⟨hx, hx, nm_e H⟩⟩)) (fun z => absurd gv z)
theorem fd_rcv7 {x y c : Int32} (hr : fd_run k0 st ab x) (hpc : vp_in (pc x.toNatClampNeg) 12) (hg : fd_gd (ops (fd_k pr pc x.toNatClampNeg)) (o1 (fd_k pr pc x.toNatClampNeg)) (o2 (fd_k pr pc x.toNatClampNeg)) (o3 (fd_k pr pc x.toNatClampNeg))) (op : ops (fd_k pr pc x.toNatClampNeg) = 7) (ea : o1 (fd_k pr pc x.toNatClampNeg) = y) (ec : o2 (fd_k pr pc x.toNatClampNeg) = c) (hs : s + 200 < 2 ^ 62) (h : fd_K B s k0 rc cc sl nw no ops o1 o2 o3 sz st pr pc rg wk jn sd br io cp cl hd ct wt wc rr ab dx ox ss yy sp dy ly) : fd_Do (fun post => wpX_receive post (rc, cc, sl, nw, no, ops, o1, o2, o3, sz, st, pr, pc, rg, wk, jn, sd, br, io, cp, cl, hd, ct, wt, wc, rr, ab, dx, ox) x y y c) (fun post => wpY_receive post (cc, sl, nw, no, ss, yy, ops, o1, o2, o3, sz, st, pr, pc, rg, wk, sp, cp, cl, hd, ct, ab, dy, ly) x y (3 * x + c)) (fd_RS B (s + 200) k0 ab yy) := by
  have hx := hr.1
  have hy : vp_in y 4 := by rw [← ea]; exact (hg.2.2.2.2.2.1 (Or.inr op)).1
  have hc : vp_in c 3 := by rw [← ec]; exact (hg.2.2.2.2.2.1 (Or.inr op)).2
  obtain ⟨r, m1, fX, fY⟩ := fd_firsts1 hy h
  have hct := (h.2.2.2.2.2.1 y hy).2
  rcases Classical.em (fd_gv (ct y.toNatClampNeg) (cl y.toNatClampNeg) r) with gv | gv
  · obtain ⟨u, v, h1, h2, h3⟩ := fd_rcvT hr hpc hc hy (fd_M_ge m1) fY gv hs h
    refine ⟨u, v, fun post H => ?_, h2, h3⟩
    unfold wpX_receive
    exact fd_X_ga fX hy hct (fun _ => br_f (by decide) (br_f (by decide) (h1 post H))) (fun z => absurd gv z)
  · obtain ⟨w1, w2⟩ := fd_V_1 h (by omega) hx hr.2.1 hy (fun y' => by
      rw [op, ea]
      exact ⟨fun z => z.elim (fun q => q.2.symm) (fun q => absurd q.1 (by decide)), fun z => Or.inl ⟨Or.inr (Or.inl rfl), z.symm⟩⟩)
    have K1 := fd_K_rest (jn' := upd jn x.toNatClampNeg (-1)) (sd' := upd sd x.toNatClampNeg (vp_nar .boolean 0)) (io' := upd io x.toNatClampNeg c) h (by omega) hr hpc hg fd_ag_u fd_ag_u fd_ag_r fd_ag_u (Or.inr (Or.inl ⟨op, pk_us, by rw [pk_us]; exact fd_nar0, by rw [pk_us]; exact ec.symm⟩)) w2
    refine ⟨_, _, fun post H => ?_, fun post H => ?_, fd_K_Rel0 K1 _ _ (Nat.le_refl B) (by omega)⟩
    · unfold wpX_receive
      exact fd_X_ga fX hy hct (fun z => absurd z gv) (fun _ => br_t rfl (fd_X_ga fX hy hct (fun z => absurd z gv) (fun _ => br_t rfl ⟨hx, nm_e ⟨hx, nm_e (fd_X_waitAt hx hy w1 (br_t rfl H))⟩⟩)))
    · unfold wpY_receive
      exact fd_Y_ww fY (fd_M_ge m1) hy (fun z => absurd z gv) (fun _ => br_f (by decide) (fd_Y_rest hx H))
theorem fd_at8 {a b y : Int32} : fd_at 8 a b y ↔ (y = a ∨ y = b) := by
  unfold fd_at
  exact ⟨fun z => z.elim (fun q => Or.inl q.2.symm) (fun q => Or.inr q.2.symm), fun z => z.elim (fun q => Or.inl ⟨Or.inr (Or.inr rfl), q.symm⟩) (fun q => Or.inr ⟨rfl, q.symm⟩)⟩
/-- the part of the reference's step that chooses -/
def fd_Y8 (post : SY → Prop) (x k a b : Int32) (cc sl nw no : Int32) (ss : Int64) (yy : Int32) (ops o1 o2 o3 sz st pr pc rg wk : Nat → Int32) (sp : Nat → Int64) (cp cl hd ct ab dy ly : Nat → Int32) : Prop := wpY_wouldWait (fun r => (r = 0 → wY_step_167 post x k a b cc sl nw no ss yy ops o1 o2 o3 sz st pr pc rg wk sp cp cl hd ct ab dy ly) ∧ (¬ r = 0 → wpY_wouldWait (fun r' => (r' = 0 → wY_step_168 post x k a b 1 cc sl nw no ss yy ops o1 o2 o3 sz st pr pc rg wk sp cp cl hd ct ab dy ly) ∧ (¬ r' = 0 → wY_step_167 post x k a b cc sl nw no ss yy ops o1 o2 o3 sz st pr pc rg wk sp cp cl hd ct ab dy ly)) (cc, sl, nw, no, ss, yy, ops, o1, o2, o3, sz, st, pr, pc, rg, wk, sp, cp, cl, hd, ct, ab, dy, ly) b)) (cc, sl, nw, no, ss, yy, ops, o1, o2, o3, sz, st, pr, pc, rg, wk, sp, cp, cl, hd, ct, ab, dy, ly) a
theorem fd_rcv8 {x y z c k : Int32} (hr : fd_run k0 st ab x) (hpc : vp_in (pc x.toNatClampNeg) 12) (hg : fd_gd (ops (fd_k pr pc x.toNatClampNeg)) (o1 (fd_k pr pc x.toNatClampNeg)) (o2 (fd_k pr pc x.toNatClampNeg)) (o3 (fd_k pr pc x.toNatClampNeg))) (op : ops (fd_k pr pc x.toNatClampNeg) = 8) (ea : o1 (fd_k pr pc x.toNatClampNeg) = y) (eb : o2 (fd_k pr pc x.toNatClampNeg) = z) (ec : o3 (fd_k pr pc x.toNatClampNeg) = c) (hk : vp_in k 84) (ek : fd_k pr pc x.toNatClampNeg = k.toNatClampNeg) (hs : s + 200 < 2 ^ 62) (h : fd_K B s k0 rc cc sl nw no ops o1 o2 o3 sz st pr pc rg wk jn sd br io cp cl hd ct wt wc rr ab dx ox ss yy sp dy ly) : fd_Do (fun post => wpX_receive post (rc, cc, sl, nw, no, ops, o1, o2, o3, sz, st, pr, pc, rg, wk, jn, sd, br, io, cp, cl, hd, ct, wt, wc, rr, ab, dx, ox) x y z c) (fun post => fd_Y8 post x k y z cc sl nw no ss yy ops o1 o2 o3 sz st pr pc rg wk sp cp cl hd ct ab dy ly) (fd_RS B (s + 200) k0 ab yy) := by
  have hx := hr.1
  obtain ⟨hy, hz, hc⟩ := hg.2.2.2.2.2.2.1 op
  have ec' : o3 k.toNatClampNeg = c := by rw [← ek]; exact ec
  rw [ea] at hy
  rw [eb] at hz
  rw [ec] at hc
  obtain ⟨r, m1, fX, fY⟩ := fd_firsts1 hy h
  obtain ⟨r', m1', fX', fY'⟩ := fd_firsts1 hz h
  have hct := (h.2.2.2.2.2.1 y hy).2
  have hct' := (h.2.2.2.2.2.1 z hz).2
  rcases Classical.em (fd_gv (ct y.toNatClampNeg) (cl y.toNatClampNeg) r) with gv | gv
  · obtain ⟨u, v, h1, h2, h3⟩ := fd_rcvT hr hpc hc hy (fd_M_ge m1) fY gv hs h
    obtain ⟨rc', cc', sl', nw', no', ops', o1', o2', o3', sz', st', pr', pc', rg', wk', jn', sd', br', io', cp', cl', hd', ct', wt', wc', rr', ab', dx', ox', ss', yy', sp', dy', ly', rfl, rfl, hq⟩ := h3
    refine ⟨_, _, fun post H => ?_, fun post H => ?_, ⟨rc', cc', sl', nw', no', ops', o1', o2', o3', sz', st', pr', pc', rg', wk', jn', sd', br', io', cp', cl', hd', ct', wt', wc', rr', ab', dx', ox', ss', yy', sp', dy', ly', rfl, rfl, hq⟩⟩
    · unfold wpX_receive
      exact fd_X_ga fX hy hct (fun _ => br_f (by decide) (br_f (by decide) (h1 post H))) (fun w => absurd gv w)
    · unfold fd_Y8
      refine fd_Y_ww fY (fd_M_ge m1) hy (fun _ => br_t rfl (br_t rfl (And.intro hk ?_))) (fun w => absurd gv w)
      rw [ec']
      exact h2 _ H
  · rcases Classical.em (fd_gv (ct z.toNatClampNeg) (cl z.toNatClampNeg) r') with gv' | gv'
    · obtain ⟨u, v, h1, h2, h3⟩ := fd_rcvT hr hpc hc hz (fd_M_ge m1') fY' gv' hs h
      obtain ⟨rc', cc', sl', nw', no', ops', o1', o2', o3', sz', st', pr', pc', rg', wk', jn', sd', br', io', cp', cl', hd', ct', wt', wc', rr', ab', dx', ox', ss', yy', sp', dy', ly', rfl, rfl, hq⟩ := h3
      refine ⟨_, _, fun post H => ?_, fun post H => ?_, ⟨rc', cc', sl', nw', no', ops', o1', o2', o3', sz', st', pr', pc', rg', wk', jn', sd', br', io', cp', cl', hd', ct', wt', wc', rr', ab', dx', ox', ss', yy', sp', dy', ly', rfl, rfl, hq⟩⟩
      · unfold wpX_receive
        exact fd_X_ga fX hy hct (fun w => absurd w gv) (fun _ => br_t rfl (fd_X_ga fX' hz hct' (fun _ => br_f (by decide) (br_t rfl (h1 post H))) (fun w => absurd gv' w)))
      · unfold fd_Y8
        refine fd_Y_ww fY (fd_M_ge m1) hy (fun w => absurd w gv) (fun _ => br_f (by decide) (fd_Y_ww fY' (fd_M_ge m1') hz (fun _ => br_t rfl (br_f (by decide) (And.intro hk ?_))) (fun w => absurd gv' w)))
        rw [ec']
        exact h2 _ H
    · have yres : ∀ post : SY → Prop, wpY_rest post (cc, sl, nw, no, ss, yy, ops, o1, o2, o3, sz, st, pr, pc, rg, wk, sp, cp, cl, hd, ct, ab, dy, ly) x → fd_Y8 post x k y z cc sl nw no ss yy ops o1 o2 o3 sz st pr pc rg wk sp cp cl hd ct ab dy ly := fun post H => by
        unfold fd_Y8
        refine fd_Y_ww fY (fd_M_ge m1) hy (fun w => absurd w gv) (fun _ => br_f (by decide) (fd_Y_ww fY' (fd_M_ge m1') hz (fun w => absurd w gv') (fun _ => br_f (by decide) (br_t rfl (And.intro hk ?_)))))
        unfold wpY_receive
        exact fd_Y_ww fY (fd_M_ge m1) hy (fun z => absurd z gv) (fun _ => br_f (by decide) H)
      by_cases ne : z = y
      · obtain ⟨w1, w2⟩ := fd_V_1 h (by omega) hx hr.2.1 hy (fun y' => by
          rw [op, ea, eb, ne, fd_at8]
          exact ⟨fun q => q.elim id id, Or.inl⟩)
        have K1 := fd_K_rest (jn' := upd jn x.toNatClampNeg (-1)) (sd' := upd sd x.toNatClampNeg (vp_nar .boolean 0)) (io' := upd io x.toNatClampNeg c) h (by omega) hr hpc hg fd_ag_u fd_ag_u fd_ag_r fd_ag_u (Or.inr (Or.inr (Or.inl ⟨op, pk_us, by rw [pk_us]; exact fd_nar0, by rw [pk_us]; exact ec.symm⟩))) w2
        refine ⟨_, _, fun post H => ?_, fun post H => yres post (fd_Y_rest hx H), fd_K_Rel0 K1 _ _ (Nat.le_refl B) (by omega)⟩
        unfold wpX_receive
        exact fd_X_ga fX hy hct (fun z => absurd z gv) (fun _ => br_t rfl (fd_X_ga fX' hz hct' (fun z => absurd z gv') (fun _ => br_t rfl ⟨hx, nm_e ⟨hx, nm_e (fd_X_waitAt hx hy w1 (br_t ne H))⟩⟩)))
      · obtain ⟨w1, w2, w3⟩ := fd_V_2 h (by omega) hx hr.2.1 hy hz ne (fun y' => by
          rw [op, ea, eb, fd_at8])
        have us : upd (upd st x.toNatClampNeg 3) x.toNatClampNeg 3 = upd st x.toNatClampNeg 3 := by
          funext j; unfold upd; by_cases e : j = x.toNatClampNeg
          · rw [if_pos e, if_pos e]
          · rw [if_neg e]
        have uj : upd (upd jn x.toNatClampNeg (-1)) x.toNatClampNeg (-1) = upd jn x.toNatClampNeg (-1) := by
          funext j; unfold upd; by_cases e : j = x.toNatClampNeg
          · rw [if_pos e, if_pos e]
          · rw [if_neg e]
        have K1 := fd_K_rest (jn' := upd jn x.toNatClampNeg (-1)) (sd' := upd sd x.toNatClampNeg (vp_nar .boolean 0)) (io' := upd io x.toNatClampNeg c) h (by omega) hr hpc hg fd_ag_u fd_ag_u fd_ag_r fd_ag_u (Or.inr (Or.inr (Or.inl ⟨op, pk_us, by rw [pk_us]; exact fd_nar0, by rw [pk_us]; exact ec.symm⟩))) w3
        refine ⟨_, _, fun post H => ?_, fun post H => yres post (fd_Y_rest hx H), fd_K_Rel0 K1 _ _ (Nat.le_refl B) (by omega)⟩
        unfold wpX_receive
        refine fd_X_ga fX hy hct (fun z => absurd z gv) (fun _ => br_t rfl (fd_X_ga fX' hz hct' (fun z => absurd z gv') (fun _ => br_t rfl ⟨hx, nm_e ⟨hx, nm_e (fd_X_waitAt hx hy w1 (br_f ne (fd_X_waitAt hx hz w2 ?_)))⟩⟩)))
        rw [us, uj]
        exact H
theorem fd_join {x t b : Int32} (hr : fd_run k0 st ab x) (hpc : vp_in (pc x.toNatClampNeg) 12) (hg : fd_gd (ops (fd_k pr pc x.toNatClampNeg)) (o1 (fd_k pr pc x.toNatClampNeg)) (o2 (fd_k pr pc x.toNatClampNeg)) (o3 (fd_k pr pc x.toNatClampNeg))) (op : ops (fd_k pr pc x.toNatClampNeg) = 10) (et : t = rg (3 * x.toNatClampNeg + (o1 (fd_k pr pc x.toNatClampNeg)).toNatClampNeg)) (eb : o2 (fd_k pr pc x.toNatClampNeg) = b) (hs : s + 200 < 2 ^ 62) (h : fd_K B s k0 rc cc sl nw no ops o1 o2 o3 sz st pr pc rg wk jn sd br io cp cl hd ct wt wc rr ab dx ox ss yy sp dy ly) : fd_Do (fun post => wpX_join post (rc, cc, sl, nw, no, ops, o1, o2, o3, sz, st, pr, pc, rg, wk, jn, sd, br, io, cp, cl, hd, ct, wt, wc, rr, ab, dx, ox) x t b) (fun post => wpY_join post (cc, sl, nw, no, ss, yy, ops, o1, o2, o3, sz, st, pr, pc, rg, wk, sp, cp, cl, hd, ct, ab, dy, ly) x t (3 * x + b)) (fd_RS B (s + 200) k0 ab yy) := by
  have hx := hr.1
  have hb : vp_in b 3 := by rw [← eb]; exact (hg.2.2.1 (Or.inr op)).2
  have i1 := fd_3' hx hb
  have i2 := fd_3 hx hb
  have hpi := (fd_inc hpc (by omega)).1
  have KV : ∀ n : Int32, fd_K B s k0 rc cc sl nw no ops o1 o2 o3 sz st pr (upd pc x.toNatClampNeg (pc x.toNatClampNeg + 1)) (upd rg (3 * x.toNatClampNeg + b.toNatClampNeg) n) wk jn sd br io cp cl hd ct wt wc rr ab dx ox ss yy sp dy ly := fun n => fd_K_own h hx hr.2.1 (fd_agr_u (fd_lt hb)) fd_ag_u (by rw [pk_us]; exact hpi)
  have x105 : ∀ (n : Int32) (post : SX → Prop), post (rc, cc, sl, nw, no, ops, o1, o2, o3, sz, st, pr, upd pc x.toNatClampNeg (pc x.toNatClampNeg + 1), upd rg (3 * x.toNatClampNeg + b.toNatClampNeg) n, wk, jn, sd, br, io, cp, cl, hd, ct, wt, wc, rr, ab, dx, ox) → wX_join_105 post x n (x * 3 + b) rc cc sl nw no ops o1 o2 o3 sz st pr pc rg wk jn sd br io cp cl hd ct wt wc rr ab dx ox := fun n post H => And.intro i1.1 (nm_r (by rw [i1.2]) ⟨hx, hx, nm_e H⟩)
  have y85 : ∀ (n : Int32) (post : SY → Prop), post (cc, sl, nw, no, ss, yy, ops, o1, o2, o3, sz, st, pr, upd pc x.toNatClampNeg (pc x.toNatClampNeg + 1), upd rg (3 * x.toNatClampNeg + b.toNatClampNeg) n, wk, sp, cp, cl, hd, ct, ab, dy, ly) → wY_join_85 post x n (3 * x + b) cc sl nw no ss yy ops o1 o2 o3 sz st pr pc rg wk sp cp cl hd ct ab dy ly := fun n post H => And.intro i2.1 (nm_r (by rw [i2.2]) ⟨hx, hx, nm_e H⟩)
  have x18 : ∀ post : SX → Prop, post (rc, cc, sl, nw, no, ops, o1, o2, o3, sz, st, pr, upd pc x.toNatClampNeg (pc x.toNatClampNeg + 1), upd rg (3 * x.toNatClampNeg + b.toNatClampNeg) (-1000000), wk, jn, sd, br, io, cp, cl, hd, ct, wt, wc, rr, ab, dx, ox) → wX_join_18 post x t b rc cc sl nw no ops o1 o2 o3 sz st pr pc rg wk jn sd br io cp cl hd ct wt wc rr ab dx ox := fun post H => br_t rfl (br_t rfl (br_t rfl (x105 _ post H)))
  have y28 : ∀ post : SY → Prop, post (cc, sl, nw, no, ss, yy, ops, o1, o2, o3, sz, st, pr, upd pc x.toNatClampNeg (pc x.toNatClampNeg + 1), upd rg (3 * x.toNatClampNeg + b.toNatClampNeg) (-1000000), wk, sp, cp, cl, hd, ct, ab, dy, ly) → wY_join_28 post x t (3 * x + b) cc sl nw no ss yy ops o1 o2 o3 sz st pr pc rg wk sp cp cl hd ct ab dy ly := fun post H => br_t rfl (br_t rfl (y85 _ post H))
  rcases Classical.em (vp_in t 12) with ht | ht
  · by_cases e : t = x
    · exact ⟨_, _, fun post H => (by unfold wpX_join; exact fd_X_bl 12 (by omega) rfl (fun _ => br_f (by decide) (br_t e (x18 post H))) (fun z => absurd ht z)), fun post H => (by unfold wpY_join; exact fd_Y_wi 11 (by omega) rfl (fun _ => br_f (by decide) (br_t e (y28 post H))) (fun z => absurd ht z)), fd_K_Rel0 (KV (-1000000)) _ _ (Nat.le_refl B) (by omega)⟩
    · have j1 := fd_30' ht
      have j2 := fd_30 ht
      rcases Classical.em (fd_aw (st t.toNatClampNeg)) with aw | aw
      · have n0 : ¬ st t.toNatClampNeg = 0 := by
          rcases aw with q | q | q | q <;> rw [q] <;> decide
        have w2 := fd_V_0 h hr.2.1 (fun y' z => by
          rw [op] at z
          rcases z with q | q
          · exact absurd q.1 (by decide)
          · exact absurd q.1 (by decide))
        have K1 := fd_K_rest (jn' := upd jn x.toNatClampNeg t) (io' := upd io x.toNatClampNeg b) h (by omega) hr hpc hg fd_ag_u fd_ag_r fd_ag_r fd_ag_u (Or.inr (Or.inr (Or.inr ⟨op, by rw [pk_us]; exact et, by rw [pk_us]; exact eb.symm⟩))) w2
        exact ⟨_, _, fun post H => (by unfold wpX_join; exact fd_X_bl 12 (by omega) rfl (fun _ => br_f (by decide) (br_f e (br_f (by decide) (fd_X_aw ht (fun _ => br_f (by decide) ⟨hx, nm_e ⟨hx, nm_e ⟨hx, nm_e H⟩⟩⟩) (fun z => absurd aw z))))) (fun z => absurd ht z)), fun post H => (by unfold wpY_join; exact fd_Y_wi 11 (by omega) rfl (fun _ => br_f (by decide) (br_f e ⟨ht, br_f n0 (br_f (by decide) (fd_Y_aw ht (fun _ => br_f (by decide) (fd_Y_rest hx H)) (fun z => absurd aw z)))⟩)) (fun z => absurd ht z)), fd_K_Rel0 K1 _ _ (Nat.le_refl B) (by omega)⟩
      · by_cases s5 : st t.toNatClampNeg = 5
        · have n0 : ¬ st t.toNatClampNeg = 0 := by rw [s5]; decide
          refine ⟨_, _, fun post H => (by unfold wpX_join; exact fd_X_bl 12 (by omega) rfl (fun _ => br_f (by decide) (br_f e (br_f (by decide) (fd_X_aw ht (fun z => absurd z aw) (fun _ => br_t rfl (br_f (by decide) ⟨ht, br_t s5 (br_f (by decide) ⟨j1.1, by rw [j1.2]; exact x105 _ post H⟩)⟩)))))) (fun z => absurd ht z)), fun post H => (by unfold wpY_join; exact fd_Y_wi 11 (by omega) rfl (fun _ => br_f (by decide) (br_f e ⟨ht, br_f n0 (br_f (by decide) (fd_Y_aw ht (fun z => absurd z aw) (fun _ => br_t rfl (br_f (by decide) ⟨ht, br_t s5 ⟨j2.1, by rw [j2.2]; exact y85 _ post H⟩⟩))))⟩)) (fun z => absurd ht z)), fd_K_Rel0 (KV (rg (3 * t.toNatClampNeg))) _ _ (Nat.le_refl B) (by omega)⟩
        · refine ⟨_, _, fun post H => (by unfold wpX_join; exact fd_X_bl 12 (by omega) rfl (fun _ => br_f (by decide) (br_f e (br_f (by decide) (fd_X_aw ht (fun z => absurd z aw) (fun _ => br_t rfl (br_f (by decide) ⟨ht, br_f s5 (br_t rfl (x105 _ post H))⟩)))))) (fun z => absurd ht z)), fun post H => (by unfold wpY_join; exact fd_Y_wi 11 (by omega) rfl (fun _ => br_f (by decide) (br_f e ⟨ht, br_c (fun _ => y28 post H) (fun _ => br_f (by decide) (fd_Y_aw ht (fun z => absurd z aw) (fun _ => br_t rfl (br_f (by decide) ⟨ht, br_f s5 (y85 _ post H)⟩))))⟩)) (fun z => absurd ht z)), fd_K_Rel0 (KV (-1000000)) _ _ (Nat.le_refl B) (by omega)⟩
  · exact ⟨_, _, fun post H => (by unfold wpX_join; exact fd_X_bl 12 (by omega) rfl (fun z => absurd z ht) (fun _ => br_t rfl (x18 post H))), fun post H => (by unfold wpY_join; exact fd_Y_wi 11 (by omega) rfl (fun z => absurd z ht) (fun _ => br_t rfl (y28 post H))), fd_K_Rel0 (KV (-1000000)) _ _ (Nat.le_refl B) (by omega)⟩
end
end
section
def fd_hd (ops o1 o2 o3 sz st pr pc ab : Nat → Int32) (k0 : Nat) (x : Int32) : Prop := fd_run k0 st ab x ∧ vp_in (pr x.toNatClampNeg) 6 ∧ vp_in (pc x.toNatClampNeg) 12 ∧ vp_in (12 * pr x.toNatClampNeg + pc x.toNatClampNeg) 84 ∧ fd_k pr pc x.toNatClampNeg = (12 * pr x.toNatClampNeg + pc x.toNatClampNeg).toNatClampNeg ∧ pc x.toNatClampNeg < sz (pr x.toNatClampNeg).toNatClampNeg ∧ fd_gd (ops (12 * pr x.toNatClampNeg + pc x.toNatClampNeg).toNatClampNeg) (o1 (12 * pr x.toNatClampNeg + pc x.toNatClampNeg).toNatClampNeg) (o2 (12 * pr x.toNatClampNeg + pc x.toNatClampNeg).toNatClampNeg) (o3 (12 * pr x.toNatClampNeg + pc x.toNatClampNeg).toNatClampNeg)
/-- the running fibre has yielded: X has it in the row, Y has it on the carrier still -/
def fd_YD (B s k0 : Nat) (ab0 : Nat → Int32) (x : Int32) (u : SX) (v : SY) : Prop := ∃ (rc cc sl nw no : Int32) (ops o1 o2 o3 sz st pr pc rg wk jn sd br io cp cl hd ct wt wc rr ab dx ox : Nat → Int32) (ss : Int64) (yy : Int32) (sp : Nat → Int64) (dy ly : Nat → Int32), u = (rc + 1, cc, sl, nw, no, ops, o1, o2, o3, sz, upd st x.toNatClampNeg 1, pr, pc, rg, wk, jn, sd, br, io, cp, cl, hd, ct, wt, wc, upd rr rc.toNatClampNeg x, ab, dx, ox) ∧ v = (cc, sl, nw, no, ss, yy, ops, o1, o2, o3, sz, st, pr, pc, rg, wk, sp, cp, cl, hd, ct, ab, dy, ly) ∧ ¬ yy = 0 ∧ fd_K B s k0 rc cc sl nw no ops o1 o2 o3 sz st pr pc rg wk jn sd br io cp cl hd ct wt wc rr ab dx ox ss yy sp dy ly ∧ fd_run k0 st ab x ∧ ab = ab0
def fd_SQ (B s k0 : Nat) (ab0 : Nat → Int32) (x : Int32) (u : SX) (v : SY) : Prop := fd_RS (B + 1) (s + 200) k0 ab0 0 u v ∨ fd_YD B s k0 ab0 x u v
/-- the ring's other side: the cells above i have moved up by one -/
def fd_lr (ly : Nat → Int32) (i : Nat) : Nat → Int32 := fun j => if i < j ∧ j ≤ 15 then ly (j - 1) else ly j
theorem fd_lr_15 (ly : Nat → Int32) : fd_lr ly 15 = ly := by
  funext j
  exact if_neg (by omega)
theorem fd_lr_s (ly : Nat → Int32) (i : Nat) (hi : i < 15) : upd (fd_lr ly (i + 1)) (i + 1) (fd_lr ly (i + 1) i) = fd_lr ly i := by
  funext j
  unfold fd_lr upd
  by_cases e : j = i + 1
  · subst e
    rw [if_pos rfl, if_neg (by omega), if_pos (by omega)]
    rfl
  · rw [if_neg e]
    dsimp only
    by_cases q : i + 1 < j ∧ j ≤ 15
    · rw [if_pos q, if_pos (by omega)]
    · rw [if_neg q, if_neg (by omega)]
section
variable {rc cc sl nw no : Int32} {ops o1 o2 o3 sz st pr pc rg wk jn sd br io cp cl hd ct wt wc rr ab dx ox : Nat → Int32} {ss : Int64} {yy : Int32} {sp : Nat → Int64} {dy ly : Nat → Int32} {B s k0 : Nat}
theorem fd_Y_out {post : SY → Prop} {x x5 x6 : Int32} (hx : vp_in x 12) (h5 : vp_in x5 36) (H : post (cc, sl, nw, no + 1, ss, yy, ops, o1, o2, o3, sz, st, pr, upd pc x.toNatClampNeg x6, rg, wk, sp, cp, cl, hd, ct, ab, dy, upd (fd_lr ly 0) 0 (rg x5.toNatClampNeg))) : ∀ i : Nat, i ≤ 15 → wY_plain_259 post x x5 x6 cc sl nw no ss yy (i + 1) (nI i) ops o1 o2 o3 sz st pr pc rg wk sp cp cl hd ct ab dy (fd_lr ly i) := by
  intro i
  induction i with
  | zero => intro _; exact br_t (by decide) ⟨h5, nm_e (nm_e ⟨hx, nm_e H⟩)⟩
  | succ i ih =>
    intro hi
    refine br_f (nI_nle (by omega) (by omega)) ?_
    rw [nI_pred, nI_clamp (by omega), nI_clamp (by omega)]
    exact ⟨vp_in_nI (by omega) (by omega), vp_in_nI (by omega) (by omega), nm_r (fd_lr_s ly i (by omega)) (nm_r (pk_m1 i) (ih (by omega)))⟩
theorem fd_O_u {v : Int32} {n : Nat} (h : ∀ i, i < 16 → i < n → ox ((n - 1 - i) % 16) = ly i) : ∀ i, i < 16 → i < n + 1 → upd ox (n % 16) v ((n + 1 - 1 - i) % 16) = upd (fd_lr ly 0) 0 v i := by
  intro i h16 hn
  by_cases e : i = 0
  · subst e
    rw [pk_us, show n + 1 - 1 - 0 = n by omega, pk_us]
  · have q := h (i - 1) (by omega) (by omega)
    have l : fd_lr ly 0 i = ly (i - 1) := if_pos (by omega)
    rw [pk_un e, l, ← q, pk_un (by omega)]
    congr 1
    omega
theorem fd_X_out {post : SX → Prop} {v : Int32} {n : Nat} (hn : n < 2 ^ 31) (en : no = nI n) (H : post (rc, cc, sl, nw, no + 1, ops, o1, o2, o3, sz, st, pr, pc, rg, wk, jn, sd, br, io, cp, cl, hd, ct, wt, wc, rr, ab, dx, upd ox (n % 16) v)) : wpX_putOut post (rc, cc, sl, nw, no, ops, o1, o2, o3, sz, st, pr, pc, rg, wk, jn, sd, br, io, cp, cl, hd, ct, wt, wc, rr, ab, dx, ox) v := by
  have e : no - no / 16 * 16 = nI (n % 16) := by rw [en]; exact pk_rem (d := 16) hn (by omega) (by omega)
  refine And.intro (by decide) ?_
  rw [e, nI_clamp (by omega)]
  exact ⟨vp_in_nI (Nat.mod_lt _ (by omega)) (by omega), nm_e (nm_e H)⟩
theorem fd_K_out {v : Int32} {n : Nat} (en : no = nI n) (hnB : n ≤ B) (hO : ∀ i, i < 16 → i < n → ox ((n - 1 - i) % 16) = ly i) (h : fd_K B s k0 rc cc sl nw no ops o1 o2 o3 sz st pr pc rg wk jn sd br io cp cl hd ct wt wc rr ab dx ox ss yy sp dy ly) : fd_K (B + 1) s k0 rc cc sl nw (no + 1) ops o1 o2 o3 sz st pr pc rg wk jn sd br io cp cl hd ct wt wc rr ab dx (upd ox (n % 16) v) ss yy sp dy (upd (fd_lr ly 0) 0 v) := ⟨h.1, h.2.1, h.2.2.1, h.2.2.2.1, h.2.2.2.2.1, h.2.2.2.2.2.1, ⟨n + 1, by omega, by rw [en, nI_1], fd_O_u hO⟩, h.2.2.2.2.2.2.2⟩
theorem fd_op0 {x : Int32} (hh : fd_hd ops o1 o2 o3 sz st pr pc ab k0 x) (e : ops (12 * pr x.toNatClampNeg + pc x.toNatClampNeg).toNatClampNeg = 0) (hs : s + 200 < 2 ^ 62) (hB : B < 2 ^ 30) (h : fd_K B s k0 rc cc sl nw no ops o1 o2 o3 sz st pr pc rg wk jn sd br io cp cl hd ct wt wc rr ab dx ox ss yy sp dy ly) : fd_Do (fun post => wpX_perform post (rc, cc, sl, nw, no, ops, o1, o2, o3, sz, st, pr, pc, rg, wk, jn, sd, br, io, cp, cl, hd, ct, wt, wc, rr, ab, dx, ox) x) (fun post => wpY_step post (cc, sl, nw, no, ss, yy, ops, o1, o2, o3, sz, st, pr, pc, rg, wk, sp, cp, cl, hd, ct, ab, dy, ly) x) (fd_SQ B s k0 ab x) := by
  obtain ⟨hr, hp6, hpc, hk, ek, lt, hg⟩ := hh
  have hx := hr.1
  have hp7 := fd_mono hp6 (show 6 ≤ 7 by omega)
  have hpi := (fd_inc hpc (by omega)).1
  have h0 : fd_K B s k0 rc cc sl nw no ops o1 o2 o3 sz st pr pc rg wk jn sd br io cp cl hd ct wt wc rr ab dx ox ss 0 sp dy ly := h
  have ha : vp_in (o1 (12 * pr x.toNatClampNeg + pc x.toNatClampNeg).toNatClampNeg) 3 := hg.2.1 (Or.inl e)
  have i1 := fd_3' hx ha
  have i2 := fd_3 hx ha
  have K1 := fd_K_own (rg' := upd rg (3 * x.toNatClampNeg + (o1 (12 * pr x.toNatClampNeg + pc x.toNatClampNeg).toNatClampNeg).toNatClampNeg) (o2 (12 * pr x.toNatClampNeg + pc x.toNatClampNeg).toNatClampNeg)) (pc' := upd pc x.toNatClampNeg (pc x.toNatClampNeg + 1)) h0 hx hr.2.1 (fd_agr_u (fd_lt ha)) fd_ag_u (by rw [pk_us]; exact hpi)
  exact ⟨_, _, fun post H => And.intro hx ⟨hx, hp7, br_t lt ⟨hx, hx, nm_r (e' := (12 * pr x.toNatClampNeg + pc x.toNatClampNeg)) (by rw [Int32.mul_comm]) ⟨hk, nm_e ⟨hk, nm_e (nm_e ⟨hk, nm_r e (br_f (by decide) (br_f (by decide) (br_t rfl (⟨i1.1, nm_r (by rw [i1.2]) ⟨hx, hx, nm_e H⟩⟩))))⟩)⟩⟩⟩⟩, fun post H => And.intro hx (nm_e (And.intro hx (And.intro hx ⟨hx, hp7, br_t lt ⟨hk, nm_e ⟨hk, nm_e ⟨hk, nm_r e (br_t (by decide) (And.intro hk (nm_e ⟨hk, nm_e (nm_e ⟨hx, nm_e ⟨hk, nm_r e (br_f (by decide) (br_f (by decide) (br_t rfl (⟨i2.1, nm_r (by rw [i2.2]) ⟨hx, nm_e H⟩⟩))))⟩⟩)⟩)))⟩⟩⟩⟩))), Or.inl (fd_K_Rel0 K1 _ _ (by omega) (by omega))⟩
theorem fd_op1 {x : Int32} (hh : fd_hd ops o1 o2 o3 sz st pr pc ab k0 x) (e : ops (12 * pr x.toNatClampNeg + pc x.toNatClampNeg).toNatClampNeg = 1) (hs : s + 200 < 2 ^ 62) (hB : B < 2 ^ 30) (h : fd_K B s k0 rc cc sl nw no ops o1 o2 o3 sz st pr pc rg wk jn sd br io cp cl hd ct wt wc rr ab dx ox ss yy sp dy ly) : fd_Do (fun post => wpX_perform post (rc, cc, sl, nw, no, ops, o1, o2, o3, sz, st, pr, pc, rg, wk, jn, sd, br, io, cp, cl, hd, ct, wt, wc, rr, ab, dx, ox) x) (fun post => wpY_step post (cc, sl, nw, no, ss, yy, ops, o1, o2, o3, sz, st, pr, pc, rg, wk, sp, cp, cl, hd, ct, ab, dy, ly) x) (fd_SQ B s k0 ab x) := by
  obtain ⟨hr, hp6, hpc, hk, ek, lt, hg⟩ := hh
  have hx := hr.1
  have hp7 := fd_mono hp6 (show 6 ≤ 7 by omega)
  have hpi := (fd_inc hpc (by omega)).1
  have h0 : fd_K B s k0 rc cc sl nw no ops o1 o2 o3 sz st pr pc rg wk jn sd br io cp cl hd ct wt wc rr ab dx ox ss 0 sp dy ly := h
  have ha : vp_in (o1 (12 * pr x.toNatClampNeg + pc x.toNatClampNeg).toNatClampNeg) 3 := (hg.2.2.1 (Or.inl e)).1
  have i1 := fd_3' hx ha
  have i2 := fd_3 hx ha
  have hb : vp_in (o2 (12 * pr x.toNatClampNeg + pc x.toNatClampNeg).toNatClampNeg) 3 := (hg.2.2.1 (Or.inl e)).2
  have j1 := fd_3' hx hb
  have j2 := fd_3 hx hb
  have K1 := fd_K_own (rg' := upd rg (3 * x.toNatClampNeg + (o1 (12 * pr x.toNatClampNeg + pc x.toNatClampNeg).toNatClampNeg).toNatClampNeg) (rg (3 * x.toNatClampNeg + (o1 (12 * pr x.toNatClampNeg + pc x.toNatClampNeg).toNatClampNeg).toNatClampNeg) + rg (3 * x.toNatClampNeg + (o2 (12 * pr x.toNatClampNeg + pc x.toNatClampNeg).toNatClampNeg).toNatClampNeg))) (pc' := upd pc x.toNatClampNeg (pc x.toNatClampNeg + 1)) h0 hx hr.2.1 (fd_agr_u (fd_lt ha)) fd_ag_u (by rw [pk_us]; exact hpi)
  exact ⟨_, _, fun post H => And.intro hx ⟨hx, hp7, br_t lt ⟨hx, hx, nm_r (e' := (12 * pr x.toNatClampNeg + pc x.toNatClampNeg)) (by rw [Int32.mul_comm]) ⟨hk, nm_e ⟨hk, nm_e (nm_e ⟨hk, nm_r e (br_f (by decide) (br_f (by decide) (br_f (by decide) (br_t rfl (⟨i1.1, j1.1, i1.1, nm_r (by rw [i1.2, j1.2]) ⟨hx, hx, nm_e H⟩⟩)))))⟩)⟩⟩⟩⟩, fun post H => And.intro hx (nm_e (And.intro hx (And.intro hx ⟨hx, hp7, br_t lt ⟨hk, nm_e ⟨hk, nm_e ⟨hk, nm_r e (br_t (by decide) (And.intro hk (nm_e ⟨hk, nm_e (nm_e ⟨hx, nm_e ⟨hk, nm_r e (br_f (by decide) (br_f (by decide) (br_f (by decide) (br_t rfl (⟨i2.1, j2.1, i2.1, nm_r (by rw [i2.2, j2.2]) ⟨hx, nm_e H⟩⟩)))))⟩⟩)⟩)))⟩⟩⟩⟩))), Or.inl (fd_K_Rel0 K1 _ _ (by omega) (by omega))⟩
theorem fd_op2 {x : Int32} (hh : fd_hd ops o1 o2 o3 sz st pr pc ab k0 x) (e : ops (12 * pr x.toNatClampNeg + pc x.toNatClampNeg).toNatClampNeg = 2) (hs : s + 200 < 2 ^ 62) (hB : B < 2 ^ 30) (h : fd_K B s k0 rc cc sl nw no ops o1 o2 o3 sz st pr pc rg wk jn sd br io cp cl hd ct wt wc rr ab dx ox ss yy sp dy ly) : fd_Do (fun post => wpX_perform post (rc, cc, sl, nw, no, ops, o1, o2, o3, sz, st, pr, pc, rg, wk, jn, sd, br, io, cp, cl, hd, ct, wt, wc, rr, ab, dx, ox) x) (fun post => wpY_step post (cc, sl, nw, no, ss, yy, ops, o1, o2, o3, sz, st, pr, pc, rg, wk, sp, cp, cl, hd, ct, ab, dy, ly) x) (fd_SQ B s k0 ab x) := by
  obtain ⟨hr, hp6, hpc, hk, ek, lt, hg⟩ := hh
  have hx := hr.1
  have hp7 := fd_mono hp6 (show 6 ≤ 7 by omega)
  have hpi := (fd_inc hpc (by omega)).1
  have h0 : fd_K B s k0 rc cc sl nw no ops o1 o2 o3 sz st pr pc rg wk jn sd br io cp cl hd ct wt wc rr ab dx ox ss 0 sp dy ly := h
  have K1 := fd_K_own (rg' := rg) (pc' := upd pc x.toNatClampNeg (o1 (12 * pr x.toNatClampNeg + pc x.toNatClampNeg).toNatClampNeg)) h0 hx hr.2.1 fd_agr_r fd_ag_u (by rw [pk_us]; exact hg.2.2.2.1 e)
  exact ⟨_, _, fun post H => And.intro hx ⟨hx, hp7, br_t lt ⟨hx, hx, nm_r (e' := (12 * pr x.toNatClampNeg + pc x.toNatClampNeg)) (by rw [Int32.mul_comm]) ⟨hk, nm_e ⟨hk, nm_e (nm_e ⟨hk, nm_r e (br_f (by decide) (br_f (by decide) (br_f (by decide) (br_f (by decide) (br_t rfl (⟨hx, nm_e H⟩))))))⟩)⟩⟩⟩⟩, fun post H => And.intro hx (nm_e (And.intro hx (And.intro hx ⟨hx, hp7, br_t lt ⟨hk, nm_e ⟨hk, nm_e ⟨hk, nm_r e (br_t (by decide) (And.intro hk (nm_e ⟨hk, nm_e (nm_e ⟨hx, nm_e ⟨hk, nm_r e (br_f (by decide) (br_f (by decide) (br_f (by decide) (br_f (by decide) (br_t rfl (⟨hx, nm_e H⟩))))))⟩⟩)⟩)))⟩⟩⟩⟩))), Or.inl (fd_K_Rel0 K1 _ _ (by omega) (by omega))⟩
theorem fd_op3 {x : Int32} (hh : fd_hd ops o1 o2 o3 sz st pr pc ab k0 x) (e : ops (12 * pr x.toNatClampNeg + pc x.toNatClampNeg).toNatClampNeg = 3) (hs : s + 200 < 2 ^ 62) (hB : B < 2 ^ 30) (h : fd_K B s k0 rc cc sl nw no ops o1 o2 o3 sz st pr pc rg wk jn sd br io cp cl hd ct wt wc rr ab dx ox ss yy sp dy ly) : fd_Do (fun post => wpX_perform post (rc, cc, sl, nw, no, ops, o1, o2, o3, sz, st, pr, pc, rg, wk, jn, sd, br, io, cp, cl, hd, ct, wt, wc, rr, ab, dx, ox) x) (fun post => wpY_step post (cc, sl, nw, no, ss, yy, ops, o1, o2, o3, sz, st, pr, pc, rg, wk, sp, cp, cl, hd, ct, ab, dy, ly) x) (fd_SQ B s k0 ab x) := by
  obtain ⟨hr, hp6, hpc, hk, ek, lt, hg⟩ := hh
  have hx := hr.1
  have hp7 := fd_mono hp6 (show 6 ≤ 7 by omega)
  have hpi := (fd_inc hpc (by omega)).1
  have h0 : fd_K B s k0 rc cc sl nw no ops o1 o2 o3 sz st pr pc rg wk jn sd br io cp cl hd ct wt wc rr ab dx ox ss 0 sp dy ly := h
  have ha : vp_in (o1 (12 * pr x.toNatClampNeg + pc x.toNatClampNeg).toNatClampNeg) 3 := (hg.2.2.2.2.1 e).1
  have i1 := fd_3' hx ha
  have i2 := fd_3 hx ha
  by_cases z : rg (3 * x.toNatClampNeg + (o1 (12 * pr x.toNatClampNeg + pc x.toNatClampNeg).toNatClampNeg).toNatClampNeg) = 0
  · have K1 := fd_K_own (rg' := rg) (pc' := upd pc x.toNatClampNeg (o2 (12 * pr x.toNatClampNeg + pc x.toNatClampNeg).toNatClampNeg)) h0 hx hr.2.1 fd_agr_r fd_ag_u (by rw [pk_us]; exact (hg.2.2.2.2.1 e).2)
    exact ⟨_, _, fun post H => And.intro hx ⟨hx, hp7, br_t lt ⟨hx, hx, nm_r (e' := (12 * pr x.toNatClampNeg + pc x.toNatClampNeg)) (by rw [Int32.mul_comm]) ⟨hk, nm_e ⟨hk, nm_e (nm_e ⟨hk, nm_r e (br_f (by decide) (br_f (by decide) (br_f (by decide) (br_f (by decide) (br_f (by decide) (br_t rfl (⟨i1.1, br_t (by rw [i1.2]; exact z) ⟨hx, nm_e H⟩⟩)))))))⟩)⟩⟩⟩⟩, fun post H => And.intro hx (nm_e (And.intro hx (And.intro hx ⟨hx, hp7, br_t lt ⟨hk, nm_e ⟨hk, nm_e ⟨hk, nm_r e (br_t (by decide) (And.intro hk (nm_e ⟨hk, nm_e (nm_e ⟨hx, nm_e ⟨hk, nm_r e (br_f (by decide) (br_f (by decide) (br_f (by decide) (br_f (by decide) (br_f (by decide) (br_t rfl (⟨i2.1, br_t (by rw [i2.2]; exact z) (And.intro hx (nm_e H))⟩)))))))⟩⟩)⟩)))⟩⟩⟩⟩))), Or.inl (fd_K_Rel0 K1 _ _ (by omega) (by omega))⟩
  · have K1 := fd_K_own (rg' := rg) (pc' := upd pc x.toNatClampNeg (pc x.toNatClampNeg + 1)) h0 hx hr.2.1 fd_agr_r fd_ag_u (by rw [pk_us]; exact hpi)
    exact ⟨_, _, fun post H => And.intro hx ⟨hx, hp7, br_t lt ⟨hx, hx, nm_r (e' := (12 * pr x.toNatClampNeg + pc x.toNatClampNeg)) (by rw [Int32.mul_comm]) ⟨hk, nm_e ⟨hk, nm_e (nm_e ⟨hk, nm_r e (br_f (by decide) (br_f (by decide) (br_f (by decide) (br_f (by decide) (br_f (by decide) (br_t rfl (⟨i1.1, br_f (by rw [i1.2]; exact z) ⟨hx, hx, nm_e H⟩⟩)))))))⟩)⟩⟩⟩⟩, fun post H => And.intro hx (nm_e (And.intro hx (And.intro hx ⟨hx, hp7, br_t lt ⟨hk, nm_e ⟨hk, nm_e ⟨hk, nm_r e (br_t (by decide) (And.intro hk (nm_e ⟨hk, nm_e (nm_e ⟨hx, nm_e ⟨hk, nm_r e (br_f (by decide) (br_f (by decide) (br_f (by decide) (br_f (by decide) (br_f (by decide) (br_t rfl (⟨i2.1, br_f (by rw [i2.2]; exact z) (And.intro hx (nm_e H))⟩)))))))⟩⟩)⟩)))⟩⟩⟩⟩))), Or.inl (fd_K_Rel0 K1 _ _ (by omega) (by omega))⟩
theorem fd_op4 {x : Int32} (hh : fd_hd ops o1 o2 o3 sz st pr pc ab k0 x) (e : ops (12 * pr x.toNatClampNeg + pc x.toNatClampNeg).toNatClampNeg = 4) (hs : s + 200 < 2 ^ 62) (hB : B < 2 ^ 30) (h : fd_K B s k0 rc cc sl nw no ops o1 o2 o3 sz st pr pc rg wk jn sd br io cp cl hd ct wt wc rr ab dx ox ss yy sp dy ly) : fd_Do (fun post => wpX_perform post (rc, cc, sl, nw, no, ops, o1, o2, o3, sz, st, pr, pc, rg, wk, jn, sd, br, io, cp, cl, hd, ct, wt, wc, rr, ab, dx, ox) x) (fun post => wpY_step post (cc, sl, nw, no, ss, yy, ops, o1, o2, o3, sz, st, pr, pc, rg, wk, sp, cp, cl, hd, ct, ab, dy, ly) x) (fd_SQ B s k0 ab x) := by
  obtain ⟨hr, hp6, hpc, hk, ek, lt, hg⟩ := hh
  have hx := hr.1
  have hp7 := fd_mono hp6 (show 6 ≤ 7 by omega)
  have hpi := (fd_inc hpc (by omega)).1
  have h0 : fd_K B s k0 rc cc sl nw no ops o1 o2 o3 sz st pr pc rg wk jn sd br io cp cl hd ct wt wc rr ab dx ox ss 0 sp dy ly := h
  have hrc := fd_K_rc h hx (by rw [hr.2.1]; decide)
  have K1 := fd_K_own (rg' := rg) (pc' := upd pc x.toNatClampNeg (pc x.toNatClampNeg + 1)) h hx hr.2.1 fd_agr_r fd_ag_u (by rw [pk_us]; exact hpi)
  have K2 : fd_K B s k0 rc cc sl nw no ops o1 o2 o3 sz st pr (upd pc x.toNatClampNeg (pc x.toNatClampNeg + 1)) rg wk jn sd br io cp cl hd ct wt wc rr ab dx ox ss 1 sp dy ly := K1
  exact ⟨_, _, fun post H => And.intro hx ⟨hx, hp7, br_t lt ⟨hx, hx, nm_r (e' := (12 * pr x.toNatClampNeg + pc x.toNatClampNeg)) (by rw [Int32.mul_comm]) ⟨hk, nm_e ⟨hk, nm_e (nm_e ⟨hk, nm_r e (br_f (by decide) (br_f (by decide) (br_f (by decide) (br_f (by decide) (br_f (by decide) (br_f (by decide) (br_t rfl (⟨hx, hx, nm_e (fd_X_toRow hx hrc H)⟩))))))))⟩)⟩⟩⟩⟩, fun post H => And.intro hx (nm_e (And.intro hx (And.intro hx ⟨hx, hp7, br_t lt ⟨hk, nm_e ⟨hk, nm_e ⟨hk, nm_r e (br_t (by decide) (And.intro hk (nm_e ⟨hk, nm_e (nm_e ⟨hx, nm_e ⟨hk, nm_r e (br_f (by decide) (br_f (by decide) (br_f (by decide) (br_f (by decide) (br_f (by decide) (br_f (by decide) (br_t rfl (⟨hx, nm_e H⟩))))))))⟩⟩)⟩)))⟩⟩⟩⟩))), Or.inr ⟨rc, cc, sl, nw, no, ops, o1, o2, o3, sz, st, pr, _, rg, wk, jn, sd, br, io, cp, cl, hd, ct, wt, wc, rr, ab, dx, ox, ss, _, sp, dy, ly, rfl, rfl, by decide, K2, hr, rfl⟩⟩
theorem fd_op5 {x : Int32} (hh : fd_hd ops o1 o2 o3 sz st pr pc ab k0 x) (e : ops (12 * pr x.toNatClampNeg + pc x.toNatClampNeg).toNatClampNeg = 5) (hs : s + 200 < 2 ^ 62) (hB : B < 2 ^ 30) (h : fd_K B s k0 rc cc sl nw no ops o1 o2 o3 sz st pr pc rg wk jn sd br io cp cl hd ct wt wc rr ab dx ox ss yy sp dy ly) : fd_Do (fun post => wpX_perform post (rc, cc, sl, nw, no, ops, o1, o2, o3, sz, st, pr, pc, rg, wk, jn, sd, br, io, cp, cl, hd, ct, wt, wc, rr, ab, dx, ox) x) (fun post => wpY_step post (cc, sl, nw, no, ss, yy, ops, o1, o2, o3, sz, st, pr, pc, rg, wk, sp, cp, cl, hd, ct, ab, dy, ly) x) (fd_SQ B s k0 ab x) := by
  obtain ⟨hr, hp6, hpc, hk, ek, lt, hg⟩ := hh
  have hx := hr.1
  have hp7 := fd_mono hp6 (show 6 ≤ 7 by omega)
  have hpi := (fd_inc hpc (by omega)).1
  have h0 : fd_K B s k0 rc cc sl nw no ops o1 o2 o3 sz st pr pc rg wk jn sd br io cp cl hd ct wt wc rr ab dx ox ss 0 sp dy ly := h
  have ha : vp_in (o1 (12 * pr x.toNatClampNeg + pc x.toNatClampNeg).toNatClampNeg) 3 := hg.2.1 (Or.inr (Or.inl e))
  have i1 := fd_3' hx ha
  have i2 := fd_3 hx ha
  have hw : vp_in (rg (3 * x.toNatClampNeg + (o1 (12 * pr x.toNatClampNeg + pc x.toNatClampNeg).toNatClampNeg).toNatClampNeg) &&& 31) 32 := pk_andIn _ 5 (by decide) (by omega)
  by_cases z : rg (3 * x.toNatClampNeg + (o1 (12 * pr x.toNatClampNeg + pc x.toNatClampNeg).toNatClampNeg).toNatClampNeg) &&& 31 = 0
  · have z' : ¬ 1 ≤ rg (3 * x.toNatClampNeg + (o1 (12 * pr x.toNatClampNeg + pc x.toNatClampNeg).toNatClampNeg).toNatClampNeg) &&& 31 := by rw [z]; decide
    have K1 := fd_K_sleep (wk' := upd wk x.toNatClampNeg (nw + 1)) (pc' := upd pc x.toNatClampNeg (pc x.toNatClampNeg + 1)) h0 hr fd_ag_u (by rw [pk_us]; exact hpi)
    exact ⟨_, _, fun post H => And.intro hx ⟨hx, hp7, br_t lt ⟨hx, hx, nm_r (e' := (12 * pr x.toNatClampNeg + pc x.toNatClampNeg)) (by rw [Int32.mul_comm]) ⟨hk, nm_e ⟨hk, nm_e (nm_e ⟨hk, nm_r e (br_f (by decide) (br_f (by decide) (br_f (by decide) (br_f (by decide) (br_f (by decide) (br_f (by decide) (br_f (by decide) (br_t rfl (⟨i1.1, nm_r (e' := rg (3 * x.toNatClampNeg + (o1 (12 * pr x.toNatClampNeg + pc x.toNatClampNeg).toNatClampNeg).toNatClampNeg) &&& 31) (by rw [i1.2]) (br_t z (And.intro hx (nm_e ⟨hx, nm_e ⟨hx, hx, nm_e H⟩⟩)))⟩)))))))))⟩)⟩⟩⟩⟩, fun post H => And.intro hx (nm_e (And.intro hx (And.intro hx ⟨hx, hp7, br_t lt ⟨hk, nm_e ⟨hk, nm_e ⟨hk, nm_r e (br_t (by decide) (And.intro hk (nm_e ⟨hk, nm_e (nm_e ⟨hx, nm_e ⟨hk, nm_r e (br_f (by decide) (br_f (by decide) (br_f (by decide) (br_f (by decide) (br_f (by decide) (br_f (by decide) (br_f (by decide) (br_t rfl (⟨i2.1, nm_r (e' := rg (3 * x.toNatClampNeg + (o1 (12 * pr x.toNatClampNeg + pc x.toNatClampNeg).toNatClampNeg).toNatClampNeg) &&& 31) (by rw [i2.2]) (br_f z' (And.intro hx (nm_e ⟨hx, nm_e ⟨hx, nm_e H⟩⟩)))⟩)))))))))⟩⟩)⟩)))⟩⟩⟩⟩))), Or.inl (fd_K_Rel0 K1 _ _ (by omega) (by omega))⟩
  · have z' : 1 ≤ rg (3 * x.toNatClampNeg + (o1 (12 * pr x.toNatClampNeg + pc x.toNatClampNeg).toNatClampNeg).toNatClampNeg) &&& 31 := by
      obtain ⟨j, hj, q⟩ := vp_in_of hw (by omega)
      rw [q] at z ⊢
      have : j ≠ 0 := fun w => z (by rw [w]; decide)
      exact nI_le (a := 1) (by omega) (by omega)
    have K1 := fd_K_sleep (wk' := upd wk x.toNatClampNeg (nw + (rg (3 * x.toNatClampNeg + (o1 (12 * pr x.toNatClampNeg + pc x.toNatClampNeg).toNatClampNeg).toNatClampNeg) &&& 31))) (pc' := upd pc x.toNatClampNeg (pc x.toNatClampNeg + 1)) h0 hr fd_ag_u (by rw [pk_us]; exact hpi)
    exact ⟨_, _, fun post H => And.intro hx ⟨hx, hp7, br_t lt ⟨hx, hx, nm_r (e' := (12 * pr x.toNatClampNeg + pc x.toNatClampNeg)) (by rw [Int32.mul_comm]) ⟨hk, nm_e ⟨hk, nm_e (nm_e ⟨hk, nm_r e (br_f (by decide) (br_f (by decide) (br_f (by decide) (br_f (by decide) (br_f (by decide) (br_f (by decide) (br_f (by decide) (br_t rfl (⟨i1.1, nm_r (e' := rg (3 * x.toNatClampNeg + (o1 (12 * pr x.toNatClampNeg + pc x.toNatClampNeg).toNatClampNeg).toNatClampNeg) &&& 31) (by rw [i1.2]) (br_f z (And.intro hx (nm_e ⟨hx, nm_e ⟨hx, hx, nm_e H⟩⟩)))⟩)))))))))⟩)⟩⟩⟩⟩, fun post H => And.intro hx (nm_e (And.intro hx (And.intro hx ⟨hx, hp7, br_t lt ⟨hk, nm_e ⟨hk, nm_e ⟨hk, nm_r e (br_t (by decide) (And.intro hk (nm_e ⟨hk, nm_e (nm_e ⟨hx, nm_e ⟨hk, nm_r e (br_f (by decide) (br_f (by decide) (br_f (by decide) (br_f (by decide) (br_f (by decide) (br_f (by decide) (br_f (by decide) (br_t rfl (⟨i2.1, nm_r (e' := rg (3 * x.toNatClampNeg + (o1 (12 * pr x.toNatClampNeg + pc x.toNatClampNeg).toNatClampNeg).toNatClampNeg) &&& 31) (by rw [i2.2]) (br_t z' (And.intro hx (nm_e ⟨hx, nm_e ⟨hx, nm_e H⟩⟩)))⟩)))))))))⟩⟩)⟩)))⟩⟩⟩⟩))), Or.inl (fd_K_Rel0 K1 _ _ (by omega) (by omega))⟩
theorem fd_op6 {x : Int32} (hh : fd_hd ops o1 o2 o3 sz st pr pc ab k0 x) (e : ops (12 * pr x.toNatClampNeg + pc x.toNatClampNeg).toNatClampNeg = 6) (hs : s + 200 < 2 ^ 62) (hB : B < 2 ^ 30) (h : fd_K B s k0 rc cc sl nw no ops o1 o2 o3 sz st pr pc rg wk jn sd br io cp cl hd ct wt wc rr ab dx ox ss yy sp dy ly) : fd_Do (fun post => wpX_perform post (rc, cc, sl, nw, no, ops, o1, o2, o3, sz, st, pr, pc, rg, wk, jn, sd, br, io, cp, cl, hd, ct, wt, wc, rr, ab, dx, ox) x) (fun post => wpY_step post (cc, sl, nw, no, ss, yy, ops, o1, o2, o3, sz, st, pr, pc, rg, wk, sp, cp, cl, hd, ct, ab, dy, ly) x) (fd_SQ B s k0 ab x) := by
  obtain ⟨hr, hp6, hpc, hk, ek, lt, hg⟩ := hh
  have hx := hr.1
  have hp7 := fd_mono hp6 (show 6 ≤ 7 by omega)
  have hpi := (fd_inc hpc (by omega)).1
  have h0 : fd_K B s k0 rc cc sl nw no ops o1 o2 o3 sz st pr pc rg wk jn sd br io cp cl hd ct wt wc rr ab dx ox ss 0 sp dy ly := h
  have hg' := hg
  rw [← ek] at hg'
  have e' := e
  rw [← ek] at e'
  have hb : vp_in (o2 (12 * pr x.toNatClampNeg + pc x.toNatClampNeg).toNatClampNeg) 3 := (hg.2.2.2.2.2.1 (Or.inl e)).2
  have j1 := fd_3' hx hb
  have j2 := fd_3 hx hb
  obtain ⟨u, v, h1, h2, ⟨rc', cc', sl', nw', no', ops', o1', o2', o3', sz', st', pr', pc', rg', wk', jn', sd', br', io', cp', cl', hd', ct', wt', wc', rr', ab', dx', ox', ss', yy', sp', dy', ly', rfl, rfl, hq⟩⟩ := fd_send (y := o1 (12 * pr x.toNatClampNeg + pc x.toNatClampNeg).toNatClampNeg) (v := rg (3 * x.toNatClampNeg + (o2 (12 * pr x.toNatClampNeg + pc x.toNatClampNeg).toNatClampNeg).toNatClampNeg)) hr hpc hg' e' (by rw [ek]) (by rw [ek]) hs h0
  exact ⟨_, _, fun post H => And.intro hx ⟨hx, hp7, br_t lt ⟨hx, hx, nm_r (e' := (12 * pr x.toNatClampNeg + pc x.toNatClampNeg)) (by rw [Int32.mul_comm]) ⟨hk, nm_e ⟨hk, nm_e (nm_e ⟨hk, nm_r e (br_f (by decide) (br_f (by decide) (br_f (by decide) (br_f (by decide) (br_f (by decide) (br_f (by decide) (br_f (by decide) (br_f (by decide) (br_t rfl (⟨j1.1, by rw [j1.2]; exact h1 _ H⟩))))))))))⟩)⟩⟩⟩⟩, fun post H => And.intro hx (nm_e (And.intro hx (And.intro hx ⟨hx, hp7, br_t lt ⟨hk, nm_e ⟨hk, nm_e ⟨hk, nm_r e (br_f (by decide) (br_f (by decide) (br_t rfl (⟨j2.1, by rw [j2.2]; exact h2 _ H⟩))))⟩⟩⟩⟩))), Or.inl (fd_Rel_0 ⟨rc', cc', sl', nw', no', ops', o1', o2', o3', sz', st', pr', pc', rg', wk', jn', sd', br', io', cp', cl', hd', ct', wt', wc', rr', ab', dx', ox', ss', yy', sp', dy', ly', rfl, rfl, hq⟩ _ _ (by omega) (by omega))⟩
theorem fd_op7 {x : Int32} (hh : fd_hd ops o1 o2 o3 sz st pr pc ab k0 x) (e : ops (12 * pr x.toNatClampNeg + pc x.toNatClampNeg).toNatClampNeg = 7) (hs : s + 200 < 2 ^ 62) (hB : B < 2 ^ 30) (h : fd_K B s k0 rc cc sl nw no ops o1 o2 o3 sz st pr pc rg wk jn sd br io cp cl hd ct wt wc rr ab dx ox ss yy sp dy ly) : fd_Do (fun post => wpX_perform post (rc, cc, sl, nw, no, ops, o1, o2, o3, sz, st, pr, pc, rg, wk, jn, sd, br, io, cp, cl, hd, ct, wt, wc, rr, ab, dx, ox) x) (fun post => wpY_step post (cc, sl, nw, no, ss, yy, ops, o1, o2, o3, sz, st, pr, pc, rg, wk, sp, cp, cl, hd, ct, ab, dy, ly) x) (fd_SQ B s k0 ab x) := by
  obtain ⟨hr, hp6, hpc, hk, ek, lt, hg⟩ := hh
  have hx := hr.1
  have hp7 := fd_mono hp6 (show 6 ≤ 7 by omega)
  have hpi := (fd_inc hpc (by omega)).1
  have h0 : fd_K B s k0 rc cc sl nw no ops o1 o2 o3 sz st pr pc rg wk jn sd br io cp cl hd ct wt wc rr ab dx ox ss 0 sp dy ly := h
  have hg' := hg
  rw [← ek] at hg'
  have e' := e
  rw [← ek] at e'
  obtain ⟨u, v, h1, h2, ⟨rc', cc', sl', nw', no', ops', o1', o2', o3', sz', st', pr', pc', rg', wk', jn', sd', br', io', cp', cl', hd', ct', wt', wc', rr', ab', dx', ox', ss', yy', sp', dy', ly', rfl, rfl, hq⟩⟩ := fd_rcv7 (y := o1 (12 * pr x.toNatClampNeg + pc x.toNatClampNeg).toNatClampNeg) (c := o2 (12 * pr x.toNatClampNeg + pc x.toNatClampNeg).toNatClampNeg) hr hpc hg' e' (by rw [ek]) (by rw [ek]) hs h0
  exact ⟨_, _, fun post H => And.intro hx ⟨hx, hp7, br_t lt ⟨hx, hx, nm_r (e' := (12 * pr x.toNatClampNeg + pc x.toNatClampNeg)) (by rw [Int32.mul_comm]) ⟨hk, nm_e ⟨hk, nm_e (nm_e ⟨hk, nm_r e (br_f (by decide) (br_f (by decide) (br_f (by decide) (br_f (by decide) (br_f (by decide) (br_f (by decide) (br_f (by decide) (br_f (by decide) (br_f (by decide) (br_t rfl (h1 _ H)))))))))))⟩)⟩⟩⟩⟩, fun post H => And.intro hx (nm_e (And.intro hx (And.intro hx ⟨hx, hp7, br_t lt ⟨hk, nm_e ⟨hk, nm_e ⟨hk, nm_r e (br_f (by decide) (br_f (by decide) (br_f (by decide) (br_t rfl (h2 _ H)))))⟩⟩⟩⟩))), Or.inl (fd_Rel_0 ⟨rc', cc', sl', nw', no', ops', o1', o2', o3', sz', st', pr', pc', rg', wk', jn', sd', br', io', cp', cl', hd', ct', wt', wc', rr', ab', dx', ox', ss', yy', sp', dy', ly', rfl, rfl, hq⟩ _ _ (by omega) (by omega))⟩
theorem fd_op8 {x : Int32} (hh : fd_hd ops o1 o2 o3 sz st pr pc ab k0 x) (e : ops (12 * pr x.toNatClampNeg + pc x.toNatClampNeg).toNatClampNeg = 8) (hs : s + 200 < 2 ^ 62) (hB : B < 2 ^ 30) (h : fd_K B s k0 rc cc sl nw no ops o1 o2 o3 sz st pr pc rg wk jn sd br io cp cl hd ct wt wc rr ab dx ox ss yy sp dy ly) : fd_Do (fun post => wpX_perform post (rc, cc, sl, nw, no, ops, o1, o2, o3, sz, st, pr, pc, rg, wk, jn, sd, br, io, cp, cl, hd, ct, wt, wc, rr, ab, dx, ox) x) (fun post => wpY_step post (cc, sl, nw, no, ss, yy, ops, o1, o2, o3, sz, st, pr, pc, rg, wk, sp, cp, cl, hd, ct, ab, dy, ly) x) (fd_SQ B s k0 ab x) := by
  obtain ⟨hr, hp6, hpc, hk, ek, lt, hg⟩ := hh
  have hx := hr.1
  have hp7 := fd_mono hp6 (show 6 ≤ 7 by omega)
  have hpi := (fd_inc hpc (by omega)).1
  have h0 : fd_K B s k0 rc cc sl nw no ops o1 o2 o3 sz st pr pc rg wk jn sd br io cp cl hd ct wt wc rr ab dx ox ss 0 sp dy ly := h
  have hg' := hg
  rw [← ek] at hg'
  have e' := e
  rw [← ek] at e'
  obtain ⟨u, v, h1, h2, ⟨rc', cc', sl', nw', no', ops', o1', o2', o3', sz', st', pr', pc', rg', wk', jn', sd', br', io', cp', cl', hd', ct', wt', wc', rr', ab', dx', ox', ss', yy', sp', dy', ly', rfl, rfl, hq⟩⟩ := fd_rcv8 (y := o1 (12 * pr x.toNatClampNeg + pc x.toNatClampNeg).toNatClampNeg) (z := o2 (12 * pr x.toNatClampNeg + pc x.toNatClampNeg).toNatClampNeg) (c := o3 (12 * pr x.toNatClampNeg + pc x.toNatClampNeg).toNatClampNeg) (k := (12 * pr x.toNatClampNeg + pc x.toNatClampNeg)) hr hpc hg' e' (by rw [ek]) (by rw [ek]) (by rw [ek]) hk ek hs h0
  exact ⟨_, _, fun post H => And.intro hx ⟨hx, hp7, br_t lt ⟨hx, hx, nm_r (e' := (12 * pr x.toNatClampNeg + pc x.toNatClampNeg)) (by rw [Int32.mul_comm]) ⟨hk, nm_e ⟨hk, nm_e (nm_e ⟨hk, nm_r e (br_f (by decide) (br_f (by decide) (br_f (by decide) (br_f (by decide) (br_f (by decide) (br_f (by decide) (br_f (by decide) (br_f (by decide) (br_f (by decide) (br_f (by decide) (br_t rfl (⟨hk, h1 _ H⟩))))))))))))⟩)⟩⟩⟩⟩, fun post H => And.intro hx (nm_e (And.intro hx (And.intro hx ⟨hx, hp7, br_t lt ⟨hk, nm_e ⟨hk, nm_e ⟨hk, nm_r e (br_f (by decide) (br_f (by decide) (br_f (by decide) (br_f (by decide) (br_t rfl (h2 post H))))))⟩⟩⟩⟩))), Or.inl (fd_Rel_0 ⟨rc', cc', sl', nw', no', ops', o1', o2', o3', sz', st', pr', pc', rg', wk', jn', sd', br', io', cp', cl', hd', ct', wt', wc', rr', ab', dx', ox', ss', yy', sp', dy', ly', rfl, rfl, hq⟩ _ _ (by omega) (by omega))⟩
theorem fd_op9 {x : Int32} (hh : fd_hd ops o1 o2 o3 sz st pr pc ab k0 x) (e : ops (12 * pr x.toNatClampNeg + pc x.toNatClampNeg).toNatClampNeg = 9) (hs : s + 200 < 2 ^ 62) (hB : B < 2 ^ 30) (h : fd_K B s k0 rc cc sl nw no ops o1 o2 o3 sz st pr pc rg wk jn sd br io cp cl hd ct wt wc rr ab dx ox ss yy sp dy ly) : fd_Do (fun post => wpX_perform post (rc, cc, sl, nw, no, ops, o1, o2, o3, sz, st, pr, pc, rg, wk, jn, sd, br, io, cp, cl, hd, ct, wt, wc, rr, ab, dx, ox) x) (fun post => wpY_step post (cc, sl, nw, no, ss, yy, ops, o1, o2, o3, sz, st, pr, pc, rg, wk, sp, cp, cl, hd, ct, ab, dy, ly) x) (fd_SQ B s k0 ab x) := by
  obtain ⟨hr, hp6, hpc, hk, ek, lt, hg⟩ := hh
  have hx := hr.1
  have hp7 := fd_mono hp6 (show 6 ≤ 7 by omega)
  have hpi := (fd_inc hpc (by omega)).1
  have h0 : fd_K B s k0 rc cc sl nw no ops o1 o2 o3 sz st pr pc rg wk jn sd br io cp cl hd ct wt wc rr ab dx ox ss 0 sp dy ly := h
  have hb : vp_in (o2 (12 * pr x.toNatClampNeg + pc x.toNatClampNeg).toNatClampNeg) 3 := (hg.2.2.2.2.2.2.2.1 e).2
  have j1 := fd_3' hx hb
  have j2 := fd_3 hx hb
  obtain ⟨n, u, v, h1, h2, ⟨rc', cc', sl', nw', no', ops', o1', o2', o3', sz', st', pr', pc', rg', wk', jn', sd', br', io', cp', cl', hd', ct', wt', wc', rr', ab', dx', ox', ss', yy', sp', dy', ly', rfl, rfl, K1, _, fr, eab, eyy⟩⟩ := fd_launch (p := o1 (12 * pr x.toNatClampNeg + pc x.toNatClampNeg).toNatClampNeg) (v := rg (3 * x.toNatClampNeg + (o2 (12 * pr x.toNatClampNeg + pc x.toNatClampNeg).toNatClampNeg).toNatClampNeg)) (hg.2.2.2.2.2.2.2.1 e).1 (by omega) h0
  have f := fr x.toNatClampNeg hr.2.1
  have K2 := fd_K_own (rg' := upd rg' (3 * x.toNatClampNeg + (o2 (12 * pr x.toNatClampNeg + pc x.toNatClampNeg).toNatClampNeg).toNatClampNeg) n) (pc' := upd pc' x.toNatClampNeg (pc x.toNatClampNeg + 1)) K1 hx f.1 (fd_agr_u (fd_lt hb)) fd_ag_u (by rw [pk_us]; exact hpi)
  have R2 : fd_RS (B + 1) (s + 200) k0 ab 0 (rc', cc', sl', nw', no', ops', o1', o2', o3', sz', st', pr', upd pc' x.toNatClampNeg (pc x.toNatClampNeg + 1), upd rg' (3 * x.toNatClampNeg + (o2 (12 * pr x.toNatClampNeg + pc x.toNatClampNeg).toNatClampNeg).toNatClampNeg) n, wk', jn', sd', br', io', cp', cl', hd', ct', wt', wc', rr', ab', dx', ox') (cc', sl', nw', no', ss', yy', ops', o1', o2', o3', sz', st', pr', upd pc' x.toNatClampNeg (pc x.toNatClampNeg + 1), upd rg' (3 * x.toNatClampNeg + (o2 (12 * pr x.toNatClampNeg + pc x.toNatClampNeg).toNatClampNeg).toNatClampNeg) n, wk', sp', cp', cl', hd', ct', ab', dy', ly') := by rw [← eab, ← eyy]; exact fd_K_Rel0 K2 _ _ (by omega) (by omega)
  exact ⟨_, _, fun post H => And.intro hx ⟨hx, hp7, br_t lt ⟨hx, hx, nm_r (e' := (12 * pr x.toNatClampNeg + pc x.toNatClampNeg)) (by rw [Int32.mul_comm]) ⟨hk, nm_e ⟨hk, nm_e (nm_e ⟨hk, nm_r e (br_f (by decide) (br_f (by decide) (br_f (by decide) (br_f (by decide) (br_f (by decide) (br_f (by decide) (br_f (by decide) (br_f (by decide) (br_f (by decide) (br_f (by decide) (br_f (by decide) (br_t rfl (⟨j1.1, by rw [j1.2]; exact h1 _ ⟨j1.1, nm_e ⟨hx, hx, nm_r (by rw [f.2]) H⟩⟩⟩)))))))))))))⟩)⟩⟩⟩⟩, fun post H => And.intro hx (nm_e (And.intro hx (And.intro hx ⟨hx, hp7, br_t lt ⟨hk, nm_e ⟨hk, nm_e ⟨hk, nm_r e (br_f (by decide) (br_f (by decide) (br_f (by decide) (br_f (by decide) (br_f (by decide) (br_t rfl (And.intro hk (nm_e ⟨hk, nm_e (nm_e ⟨hx, nm_e ⟨hk, nm_r e (br_f (by decide) (br_f (by decide) (br_f (by decide) (br_f (by decide) (br_f (by decide) (br_f (by decide) (br_f (by decide) (br_f (by decide) (br_f (by decide) (br_f (by decide) (br_f (by decide) (br_t rfl (⟨j2.1, by rw [j2.2]; exact h2 _ ⟨j2.1, nm_e ⟨hx, nm_e H⟩⟩⟩)))))))))))))⟩⟩)⟩))))))))⟩⟩⟩⟩))), Or.inl R2⟩
theorem fd_op10 {x : Int32} (hh : fd_hd ops o1 o2 o3 sz st pr pc ab k0 x) (e : ops (12 * pr x.toNatClampNeg + pc x.toNatClampNeg).toNatClampNeg = 10) (hs : s + 200 < 2 ^ 62) (hB : B < 2 ^ 30) (h : fd_K B s k0 rc cc sl nw no ops o1 o2 o3 sz st pr pc rg wk jn sd br io cp cl hd ct wt wc rr ab dx ox ss yy sp dy ly) : fd_Do (fun post => wpX_perform post (rc, cc, sl, nw, no, ops, o1, o2, o3, sz, st, pr, pc, rg, wk, jn, sd, br, io, cp, cl, hd, ct, wt, wc, rr, ab, dx, ox) x) (fun post => wpY_step post (cc, sl, nw, no, ss, yy, ops, o1, o2, o3, sz, st, pr, pc, rg, wk, sp, cp, cl, hd, ct, ab, dy, ly) x) (fd_SQ B s k0 ab x) := by
  obtain ⟨hr, hp6, hpc, hk, ek, lt, hg⟩ := hh
  have hx := hr.1
  have hp7 := fd_mono hp6 (show 6 ≤ 7 by omega)
  have hpi := (fd_inc hpc (by omega)).1
  have h0 : fd_K B s k0 rc cc sl nw no ops o1 o2 o3 sz st pr pc rg wk jn sd br io cp cl hd ct wt wc rr ab dx ox ss 0 sp dy ly := h
  have hg' := hg
  rw [← ek] at hg'
  have e' := e
  rw [← ek] at e'
  have ha : vp_in (o1 (12 * pr x.toNatClampNeg + pc x.toNatClampNeg).toNatClampNeg) 3 := (hg.2.2.1 (Or.inr e)).1
  have i1 := fd_3' hx ha
  have i2 := fd_3 hx ha
  obtain ⟨u, v, h1, h2, ⟨rc', cc', sl', nw', no', ops', o1', o2', o3', sz', st', pr', pc', rg', wk', jn', sd', br', io', cp', cl', hd', ct', wt', wc', rr', ab', dx', ox', ss', yy', sp', dy', ly', rfl, rfl, hq⟩⟩ := fd_join (t := rg (3 * x.toNatClampNeg + (o1 (12 * pr x.toNatClampNeg + pc x.toNatClampNeg).toNatClampNeg).toNatClampNeg)) (b := o2 (12 * pr x.toNatClampNeg + pc x.toNatClampNeg).toNatClampNeg) hr hpc hg' e' (by rw [ek]) (by rw [ek]) hs h0
  exact ⟨_, _, fun post H => And.intro hx ⟨hx, hp7, br_t lt ⟨hx, hx, nm_r (e' := (12 * pr x.toNatClampNeg + pc x.toNatClampNeg)) (by rw [Int32.mul_comm]) ⟨hk, nm_e ⟨hk, nm_e (nm_e ⟨hk, nm_r e (br_f (by decide) (br_f (by decide) (br_f (by decide) (br_f (by decide) (br_f (by decide) (br_f (by decide) (br_f (by decide) (br_f (by decide) (br_f (by decide) (br_f (by decide) (br_f (by decide) (br_f (by decide) (br_t rfl (⟨i1.1, by rw [i1.2]; exact h1 _ H⟩))))))))))))))⟩)⟩⟩⟩⟩, fun post H => And.intro hx (nm_e (And.intro hx (And.intro hx ⟨hx, hp7, br_t lt ⟨hk, nm_e ⟨hk, nm_e ⟨hk, nm_r e (br_f (by decide) (br_f (by decide) (br_f (by decide) (br_f (by decide) (br_f (by decide) (br_f (by decide) (br_t rfl (⟨i2.1, by rw [i2.2]; exact h2 _ H⟩))))))))⟩⟩⟩⟩))), Or.inl (fd_Rel_0 ⟨rc', cc', sl', nw', no', ops', o1', o2', o3', sz', st', pr', pc', rg', wk', jn', sd', br', io', cp', cl', hd', ct', wt', wc', rr', ab', dx', ox', ss', yy', sp', dy', ly', rfl, rfl, hq⟩ _ _ (by omega) (by omega))⟩
theorem fd_op11 {x : Int32} (hh : fd_hd ops o1 o2 o3 sz st pr pc ab k0 x) (e : ops (12 * pr x.toNatClampNeg + pc x.toNatClampNeg).toNatClampNeg = 11) (hs : s + 200 < 2 ^ 62) (hB : B < 2 ^ 30) (h : fd_K B s k0 rc cc sl nw no ops o1 o2 o3 sz st pr pc rg wk jn sd br io cp cl hd ct wt wc rr ab dx ox ss yy sp dy ly) : fd_Do (fun post => wpX_perform post (rc, cc, sl, nw, no, ops, o1, o2, o3, sz, st, pr, pc, rg, wk, jn, sd, br, io, cp, cl, hd, ct, wt, wc, rr, ab, dx, ox) x) (fun post => wpY_step post (cc, sl, nw, no, ss, yy, ops, o1, o2, o3, sz, st, pr, pc, rg, wk, sp, cp, cl, hd, ct, ab, dy, ly) x) (fd_SQ B s k0 ab x) := by
  obtain ⟨hr, hp6, hpc, hk, ek, lt, hg⟩ := hh
  have hx := hr.1
  have hp7 := fd_mono hp6 (show 6 ≤ 7 by omega)
  have hpi := (fd_inc hpc (by omega)).1
  have h0 : fd_K B s k0 rc cc sl nw no ops o1 o2 o3 sz st pr pc rg wk jn sd br io cp cl hd ct wt wc rr ab dx ox ss 0 sp dy ly := h
  obtain ⟨u, v, h1, h2, ⟨rc', cc', sl', nw', no', ops', o1', o2', o3', sz', st', pr', pc', rg', wk', jn', sd', br', io', cp', cl', hd', ct', wt', wc', rr', ab', dx', ox', ss', yy', sp', dy', ly', rfl, rfl, K1, _, fr, eab, eyy⟩⟩ := fd_close (y := o1 (12 * pr x.toNatClampNeg + pc x.toNatClampNeg).toNatClampNeg) (hg.2.2.2.2.2.2.2.2 e) (by omega) h0
  have f := fr x.toNatClampNeg hr.2.1
  have K2 := fd_K_own (rg' := rg') (pc' := upd pc' x.toNatClampNeg (pc x.toNatClampNeg + 1)) K1 hx f.1 fd_agr_r fd_ag_u (by rw [pk_us]; exact hpi)
  have R2 : fd_RS (B + 1) (s + 200) k0 ab 0 (rc', cc', sl', nw', no', ops', o1', o2', o3', sz', st', pr', upd pc' x.toNatClampNeg (pc x.toNatClampNeg + 1), rg', wk', jn', sd', br', io', cp', cl', hd', ct', wt', wc', rr', ab', dx', ox') (cc', sl', nw', no', ss', yy', ops', o1', o2', o3', sz', st', pr', upd pc' x.toNatClampNeg (pc x.toNatClampNeg + 1), rg', wk', sp', cp', cl', hd', ct', ab', dy', ly') := by rw [← eab, ← eyy]; exact fd_K_Rel0 K2 _ _ (by omega) (by omega)
  exact ⟨_, _, fun post H => And.intro hx ⟨hx, hp7, br_t lt ⟨hx, hx, nm_r (e' := (12 * pr x.toNatClampNeg + pc x.toNatClampNeg)) (by rw [Int32.mul_comm]) ⟨hk, nm_e ⟨hk, nm_e (nm_e ⟨hk, nm_r e (br_f (by decide) (br_f (by decide) (br_f (by decide) (br_f (by decide) (br_f (by decide) (br_f (by decide) (br_f (by decide) (br_f (by decide) (br_f (by decide) (br_f (by decide) (br_f (by decide) (br_f (by decide) (br_f (by decide) (br_t rfl (h1 _ ⟨hx, hx, nm_r (by rw [f.2]) H⟩)))))))))))))))⟩)⟩⟩⟩⟩, fun post H => And.intro hx (nm_e (And.intro hx (And.intro hx ⟨hx, hp7, br_t lt ⟨hk, nm_e ⟨hk, nm_e ⟨hk, nm_r e (br_f (by decide) (br_f (by decide) (br_f (by decide) (br_f (by decide) (br_f (by decide) (br_f (by decide) (br_f (by decide) (br_t rfl (And.intro hk (nm_e ⟨hk, nm_e (nm_e ⟨hx, nm_e ⟨hk, nm_r e (br_f (by decide) (br_f (by decide) (br_f (by decide) (br_f (by decide) (br_f (by decide) (br_f (by decide) (br_f (by decide) (br_f (by decide) (br_f (by decide) (br_f (by decide) (br_f (by decide) (br_f (by decide) (br_f (by decide) (br_t rfl (h2 _ ⟨hx, nm_e H⟩)))))))))))))))⟩⟩)⟩))))))))))⟩⟩⟩⟩))), Or.inl R2⟩
theorem fd_op12 {x : Int32} (hh : fd_hd ops o1 o2 o3 sz st pr pc ab k0 x) (e : ops (12 * pr x.toNatClampNeg + pc x.toNatClampNeg).toNatClampNeg = 12) (hs : s + 200 < 2 ^ 62) (hB : B < 2 ^ 30) (h : fd_K B s k0 rc cc sl nw no ops o1 o2 o3 sz st pr pc rg wk jn sd br io cp cl hd ct wt wc rr ab dx ox ss yy sp dy ly) : fd_Do (fun post => wpX_perform post (rc, cc, sl, nw, no, ops, o1, o2, o3, sz, st, pr, pc, rg, wk, jn, sd, br, io, cp, cl, hd, ct, wt, wc, rr, ab, dx, ox) x) (fun post => wpY_step post (cc, sl, nw, no, ss, yy, ops, o1, o2, o3, sz, st, pr, pc, rg, wk, sp, cp, cl, hd, ct, ab, dy, ly) x) (fd_SQ B s k0 ab x) := by
  obtain ⟨hr, hp6, hpc, hk, ek, lt, hg⟩ := hh
  have hx := hr.1
  have hp7 := fd_mono hp6 (show 6 ≤ 7 by omega)
  have hpi := (fd_inc hpc (by omega)).1
  have h0 : fd_K B s k0 rc cc sl nw no ops o1 o2 o3 sz st pr pc rg wk jn sd br io cp cl hd ct wt wc rr ab dx ox ss 0 sp dy ly := h
  have ha : vp_in (o1 (12 * pr x.toNatClampNeg + pc x.toNatClampNeg).toNatClampNeg) 3 := hg.2.1 (Or.inr (Or.inr e))
  have i1 := fd_3' hx ha
  have i2 := fd_3 hx ha
  obtain ⟨n, hnB, en, hO⟩ := h.2.2.2.2.2.2.1
  have K0 := fd_K_out (v := rg (3 * x.toNatClampNeg + (o1 (12 * pr x.toNatClampNeg + pc x.toNatClampNeg).toNatClampNeg).toNatClampNeg)) en hnB hO h0
  have K1 := fd_K_own (rg' := rg) (pc' := upd pc x.toNatClampNeg (pc x.toNatClampNeg + 1)) K0 hx hr.2.1 fd_agr_r fd_ag_u (by rw [pk_us]; exact hpi)
  refine ⟨_, _, fun post H => And.intro hx ⟨hx, hp7, br_t lt ⟨hx, hx, nm_r (e' := (12 * pr x.toNatClampNeg + pc x.toNatClampNeg)) (by rw [Int32.mul_comm]) ⟨hk, nm_e ⟨hk, nm_e (nm_e ⟨hk, nm_r e (br_f (by decide) (br_f (by decide) (br_f (by decide) (br_f (by decide) (br_f (by decide) (br_f (by decide) (br_f (by decide) (br_f (by decide) (br_f (by decide) (br_f (by decide) (br_f (by decide) (br_f (by decide) (br_f (by decide) (br_f (by decide) (br_t rfl (⟨i1.1, by rw [i1.2]; exact fd_X_out (by omega) en ⟨hx, hx, nm_e H⟩⟩))))))))))))))))⟩)⟩⟩⟩⟩, fun post H => And.intro hx (nm_e (And.intro hx (And.intro hx ⟨hx, hp7, br_t lt ⟨hk, nm_e ⟨hk, nm_e ⟨hk, nm_r e (br_f (by decide) (br_f (by decide) (br_f (by decide) (br_f (by decide) (br_f (by decide) (br_f (by decide) (br_f (by decide) (br_f (by decide) (br_t rfl (And.intro hk (nm_e ⟨hk, nm_e (nm_e ⟨hx, nm_e ⟨hk, nm_r e (br_f (by decide) (br_t (by decide) (⟨16, ?_⟩)))⟩⟩)⟩)))))))))))⟩⟩⟩⟩))), Or.inl (fd_K_Rel0 K1 _ _ (Nat.le_refl _) (by omega))⟩
  have q := fd_Y_out (post := post) (x := x) (x5 := 3 * x + o1 (12 * pr x.toNatClampNeg + pc x.toNatClampNeg).toNatClampNeg) (x6 := pc x.toNatClampNeg + 1) (cc := cc) (sl := sl) (nw := nw) (no := no) (ss := ss) (yy := 0) (ops := ops) (o1 := o1) (o2 := o2) (o3 := o3) (sz := sz) (st := st) (pr := pr) (pc := pc) (rg := rg) (wk := wk) (sp := sp) (cp := cp) (cl := cl) (hd := hd) (ct := ct) (ab := ab) (dy := dy) (ly := ly) hx i2.1 (by rw [i2.2]; exact H) 15 (Nat.le_refl 15)
  rw [fd_lr_15] at q
  exact q
theorem fd_op13 {x : Int32} (hh : fd_hd ops o1 o2 o3 sz st pr pc ab k0 x) (e : ops (12 * pr x.toNatClampNeg + pc x.toNatClampNeg).toNatClampNeg = 13) (hs : s + 200 < 2 ^ 62) (hB : B < 2 ^ 30) (h : fd_K B s k0 rc cc sl nw no ops o1 o2 o3 sz st pr pc rg wk jn sd br io cp cl hd ct wt wc rr ab dx ox ss yy sp dy ly) : fd_Do (fun post => wpX_perform post (rc, cc, sl, nw, no, ops, o1, o2, o3, sz, st, pr, pc, rg, wk, jn, sd, br, io, cp, cl, hd, ct, wt, wc, rr, ab, dx, ox) x) (fun post => wpY_step post (cc, sl, nw, no, ss, yy, ops, o1, o2, o3, sz, st, pr, pc, rg, wk, sp, cp, cl, hd, ct, ab, dy, ly) x) (fd_SQ B s k0 ab x) := by
  obtain ⟨hr, hp6, hpc, hk, ek, lt, hg⟩ := hh
  have hx := hr.1
  have hp7 := fd_mono hp6 (show 6 ≤ 7 by omega)
  have hpi := (fd_inc hpc (by omega)).1
  have h0 : fd_K B s k0 rc cc sl nw no ops o1 o2 o3 sz st pr pc rg wk jn sd br io cp cl hd ct wt wc rr ab dx ox ss 0 sp dy ly := h
  obtain ⟨u, v, h1, h2, ⟨rc', cc', sl', nw', no', ops', o1', o2', o3', sz', st', pr', pc', rg', wk', jn', sd', br', io', cp', cl', hd', ct', wt', wc', rr', ab', dx', ox', ss', yy', sp', dy', ly', rfl, rfl, hq⟩⟩ := fd_finish (Or.inl rfl) hx (by omega) (fd_K_end (e := 5) h0 hr (Or.inl rfl))
  exact ⟨_, _, fun post H => And.intro hx ⟨hx, hp7, br_t lt ⟨hx, hx, nm_r (e' := (12 * pr x.toNatClampNeg + pc x.toNatClampNeg)) (by rw [Int32.mul_comm]) ⟨hk, nm_e ⟨hk, nm_e (nm_e ⟨hk, nm_r e (br_f (by decide) (br_t (by decide) (h1 _ H)))⟩)⟩⟩⟩⟩, fun post H => And.intro hx (nm_e (And.intro hx (And.intro hx ⟨hx, hp7, br_t lt ⟨hk, nm_e ⟨hk, nm_e ⟨hk, nm_r e (br_f (by decide) (br_f (by decide) (br_f (by decide) (br_f (by decide) (br_f (by decide) (br_f (by decide) (br_f (by decide) (br_f (by decide) (br_f (by decide) (br_t rfl (h2 _ H)))))))))))⟩⟩⟩⟩))), Or.inl (fd_Rel_0 ⟨rc', cc', sl', nw', no', ops', o1', o2', o3', sz', st', pr', pc', rg', wk', jn', sd', br', io', cp', cl', hd', ct', wt', wc', rr', ab', dx', ox', ss', yy', sp', dy', ly', rfl, rfl, hq⟩ _ _ (by omega) (by omega))⟩
theorem fd_opE {x : Int32} (hr : fd_run k0 st ab x) (lt : ¬ pc x.toNatClampNeg < sz (pr x.toNatClampNeg).toNatClampNeg) (hs : s + 200 < 2 ^ 62) (h : fd_K B s k0 rc cc sl nw no ops o1 o2 o3 sz st pr pc rg wk jn sd br io cp cl hd ct wt wc rr ab dx ox ss yy sp dy ly) : fd_Do (fun post => wpX_perform post (rc, cc, sl, nw, no, ops, o1, o2, o3, sz, st, pr, pc, rg, wk, jn, sd, br, io, cp, cl, hd, ct, wt, wc, rr, ab, dx, ox) x) (fun post => wpY_step post (cc, sl, nw, no, ss, yy, ops, o1, o2, o3, sz, st, pr, pc, rg, wk, sp, cp, cl, hd, ct, ab, dy, ly) x) (fd_SQ B s k0 ab x) := by
  have hx := hr.1
  have hp7 := fd_mono ((h.2.1 x.toNatClampNeg (fd_lt hx)).1 (Or.inr (Or.inl hr.2.1))).1 (show 6 ≤ 7 by omega)
  have h0 : fd_K B s k0 rc cc sl nw no ops o1 o2 o3 sz st pr pc rg wk jn sd br io cp cl hd ct wt wc rr ab dx ox ss 0 sp dy ly := h
  obtain ⟨u, v, h1, h2, ⟨rc', cc', sl', nw', no', ops', o1', o2', o3', sz', st', pr', pc', rg', wk', jn', sd', br', io', cp', cl', hd', ct', wt', wc', rr', ab', dx', ox', ss', yy', sp', dy', ly', rfl, rfl, hq⟩⟩ := fd_finish (Or.inl rfl) hx (by omega) (fd_K_end (e := 5) h0 hr (Or.inl rfl))
  exact ⟨_, _, fun post H => And.intro hx ⟨hx, hp7, br_f lt (h1 _ H)⟩, fun post H => And.intro hx (nm_e (And.intro hx (And.intro hx ⟨hx, hp7, br_f lt (h2 _ H)⟩))), Or.inl (fd_Rel_0 ⟨rc', cc', sl', nw', no', ops', o1', o2', o3', sz', st', pr', pc', rg', wk', jn', sd', br', io', cp', cl', hd', ct', wt', wc', rr', ab', dx', ox', ss', yy', sp', dy', ly', rfl, rfl, hq⟩ _ _ (by omega) (by omega))⟩
theorem fd_step {x : Int32} (hr : fd_run k0 st ab x) (hs : s + 200 < 2 ^ 62) (hB : B < 2 ^ 30) (h : fd_K B s k0 rc cc sl nw no ops o1 o2 o3 sz st pr pc rg wk jn sd br io cp cl hd ct wt wc rr ab dx ox ss yy sp dy ly) : fd_Do (fun post => wpX_perform post (rc, cc, sl, nw, no, ops, o1, o2, o3, sz, st, pr, pc, rg, wk, jn, sd, br, io, cp, cl, hd, ct, wt, wc, rr, ab, dx, ox) x) (fun post => wpY_step post (cc, sl, nw, no, ss, yy, ops, o1, o2, o3, sz, st, pr, pc, rg, wk, sp, cp, cl, hd, ct, ab, dy, ly) x) (fd_SQ B s k0 ab x) := by
  have hx := hr.1
  obtain ⟨hp6, hp13⟩ := (h.2.1 x.toNatClampNeg (fd_lt hx)).1 (Or.inr (Or.inl hr.2.1))
  by_cases lt : pc x.toNatClampNeg < sz (pr x.toNatClampNeg).toNatClampNeg
  · have ix := fd_p12 hp6 hp13
    have p6 := fd_lt hp6
    obtain ⟨z13, zg⟩ := h.1 (pr x.toNatClampNeg).toNatClampNeg (by omega)
    have l2 : (pc x.toNatClampNeg).toNatClampNeg < (sz (pr x.toNatClampNeg).toNatClampNeg).toNatClampNeg := by
      have q := lt
      rw [fd_eq hp13, fd_eq z13, nI_ltI (by have := fd_lt hp13; omega) (by have := fd_lt z13; omega)] at q
      exact q
    have hpc : vp_in (pc x.toNatClampNeg) 12 := fd_mk (fd_nn hp13) (by have := fd_lt z13; omega)
    have hg := zg _ l2
    rw [← ix.2] at hg
    have hh : fd_hd ops o1 o2 o3 sz st pr pc ab k0 x := ⟨hr, hp6, hpc, ix.1, ix.2.symm, lt, hg⟩
    obtain ⟨j, hj, e⟩ := vp_in_of hg.1 (by omega)
    rcases (by omega : j = 0 ∨ j = 1 ∨ j = 2 ∨ j = 3 ∨ j = 4 ∨ j = 5 ∨ j = 6 ∨ j = 7 ∨ j = 8 ∨ j = 9 ∨ j = 10 ∨ j = 11 ∨ j = 12 ∨ j = 13) with q | q | q | q | q | q | q | q | q | q | q | q | q | q <;> subst q
    · exact fd_op0 hh e hs hB h
    · exact fd_op1 hh e hs hB h
    · exact fd_op2 hh e hs hB h
    · exact fd_op3 hh e hs hB h
    · exact fd_op4 hh e hs hB h
    · exact fd_op5 hh e hs hB h
    · exact fd_op6 hh e hs hB h
    · exact fd_op7 hh e hs hB h
    · exact fd_op8 hh e hs hB h
    · exact fd_op9 hh e hs hB h
    · exact fd_op10 hh e hs hB h
    · exact fd_op11 hh e hs hB h
    · exact fd_op12 hh e hs hB h
    · exact fd_op13 hh e hs hB h
  · exact fd_opE hr lt hs h
end
end
section
def fd_RR (B s : Nat) (u : SX) (v : SY) : Prop := ∃ (rc cc sl nw no : Int32) (ops o1 o2 o3 sz st pr pc rg wk jn sd br io cp cl hd ct wt wc rr ab dx ox : Nat → Int32) (ss : Int64) (yy : Int32) (sp : Nat → Int64) (dy ly : Nat → Int32), u = (rc, cc, sl, nw, no, ops, o1, o2, o3, sz, st, pr, pc, rg, wk, jn, sd, br, io, cp, cl, hd, ct, wt, wc, rr, ab, dx, ox) ∧ v = (cc, sl, nw, no, ss, yy, ops, o1, o2, o3, sz, st, pr, pc, rg, wk, sp, cp, cl, hd, ct, ab, dy, ly) ∧ fd_K B s 3 rc cc sl nw no ops o1 o2 o3 sz st pr pc rg wk jn sd br io cp cl hd ct wt wc rr ab dx ox ss yy sp dy ly
def fd_C56 (post : Int32 → SY → Prop) (n : Nat) (x1 x2 : Int32) (v : SY) : Prop := match v with | (cc, sl, nw, no, ss, yy, ops, o1, o2, o3, sz, st, pr, pc, rg, wk, sp, cp, cl, hd, ct, ab, dy, ly) => wY_tick_56 post n x1 x2 cc sl nw no ss yy ops o1 o2 o3 sz st pr pc rg wk sp cp cl hd ct ab dy ly
def fd_T56 (post : Int32 → SY → Prop) (x1 : Int32) (v : SY) : Prop := match v with | (cc, sl, nw, no, ss, yy, ops, o1, o2, o3, sz, st, pr, pc, rg, wk, sp, cp, cl, hd, ct, ab, dy, ly) => ∃ n, wY_tick_56 post n x1 0 cc sl nw no ss yy ops o1 o2 o3 sz st pr pc rg wk sp cp cl hd ct ab dy ly
def fd_C28 (post : Int32 → SX → Prop) (p : Int32) (m : Nat) (x2 x3 : Int32) (u : SX) : Prop := match u with | (rc, cc, sl, nw, no, ops, o1, o2, o3, sz, st, pr, pc, rg, wk, jn, sd, br, io, cp, cl, hd, ct, wt, wc, rr, ab, dx, ox) => wX_run_28 post p m x2 x3 rc cc sl nw no ops o1 o2 o3 sz st pr pc rg wk jn sd br io cp cl hd ct wt wc rr ab dx ox
def fd_Yt (post : Int32 → SY → Prop) (n : Nat) (x1 x2 x3 : Int32) (cc sl nw no : Int32) (ss : Int64) (yy : Int32) (ops o1 o2 o3 sz st pr pc rg wk : Nat → Int32) (sp : Nat → Int64) (cp cl hd ct ab dy ly : Nat → Int32) : Prop := vp_in x2 3 ∧ (vp_in x2 3 ∧ ∀ dy' : Nat → Int32, dy' = upd dy x2.toNatClampNeg (dy x2.toNatClampNeg + 1) → (vp_in x3 12 ∧ ((st x3.toNatClampNeg = 2 → ((yy = 0 → (vp_in x2 3 ∧ ((dy' x2.toNatClampNeg < sl → wY_tick_174 post (wY_tick_56 post n) x1 x2 x3 cc sl nw no ss yy ops o1 o2 o3 sz st pr pc rg wk sp cp cl hd ct ab dy' ly) ∧ (¬ dy' x2.toNatClampNeg < sl → wY_tick_169 post (wY_tick_56 post n) x1 x2 x3 cc sl nw no ss yy ops o1 o2 o3 sz st pr pc rg wk sp cp cl hd ct ab dy' ly)))) ∧ (¬ yy = 0 → wY_tick_169 post (wY_tick_56 post n) x1 x2 x3 cc sl nw no ss yy ops o1 o2 o3 sz st pr pc rg wk sp cp cl hd ct ab dy' ly))) ∧ (¬ st x3.toNatClampNeg = 2 → wY_tick_174 post (wY_tick_56 post n) x1 x2 x3 cc sl nw no ss yy ops o1 o2 o3 sz st pr pc rg wk sp cp cl hd ct ab dy' ly))))
section
variable {cc : Int32} {st ab dx dy : Nat → Int32}
theorem fd_N_w {k : Nat} (h : fd_N cc st ab dx dy 3) : fd_N cc st ab dx dy k := ⟨h.1, fun j hj => (h.2.1 j hj).imp id (fun q => ⟨q.1, fun _ => q.2.1 (by omega), q.2.2⟩), h.2.2⟩
theorem fd_N_in {k : Nat} (h : fd_N cc st ab dx dy k) (hk : st (ab k).toNatClampNeg = 2) : fd_N cc st ab dx dy 3 := ⟨h.1, fun j hj => (h.2.1 j hj).imp id (fun q => ⟨q.1, fun _ => by
  by_cases e : j = k
  · rw [e]; exact hk
  · exact q.2.1 e, q.2.2⟩), h.2.2⟩
theorem fd_N_out {k : Nat} (h : fd_N cc st ab dx dy k) : fd_N cc st (upd ab k (-1)) dx dy 3 := by
  refine ⟨h.1, fun j hj => ?_, fun i j hi hj q n1 => ?_⟩
  · by_cases e : j = k
    · rw [e, pk_us]; exact Or.inl rfl
    · rw [pk_un e]; exact (h.2.1 j hj).imp id (fun q => ⟨q.1, fun _ => q.2.1 e, q.2.2⟩)
  · by_cases e : i = k
    · rw [e, pk_us] at n1; exact absurd rfl n1
    · rw [pk_un e] at q n1
      by_cases e' : j = k
      · rw [e', pk_us] at q; exact absurd q n1
      · rw [pk_un e'] at q; exact h.2.2 i j hi hj q n1
theorem fd_N_d {k i : Nat} (h : fd_N cc st ab dx dy k) (hi : i < 3) : fd_N cc st ab (upd dx i (dx i + 1)) (upd dy i (dy i + 1)) k := by
  refine ⟨h.1, fun j hj => (h.2.1 j hj).imp id (fun q => ⟨q.1, q.2.1, ?_⟩), h.2.2⟩
  by_cases e : j = i
  · subst e; rw [pk_us, pk_us, q.2.2]
  · rw [pk_un e, pk_un e]; exact q.2.2
end
section
variable {rc cc sl nw no : Int32} {ops o1 o2 o3 sz st pr pc rg wk jn sd br io cp cl hd ct wt wc rr ab dx ox : Nat → Int32} {ss : Int64} {yy : Int32} {sp : Nat → Int64} {dy ly : Nat → Int32} {B s k0 : Nat}
theorem fd_K_N {ab' dx' dy' : Nat → Int32} {k1 : Nat} (h : fd_K B s k0 rc cc sl nw no ops o1 o2 o3 sz st pr pc rg wk jn sd br io cp cl hd ct wt wc rr ab dx ox ss yy sp dy ly) (hN : fd_N cc st ab' dx' dy' k1) : fd_K B s k1 rc cc sl nw no ops o1 o2 o3 sz st pr pc rg wk jn sd br io cp cl hd ct wt wc rr ab' dx' ox ss yy sp dy' ly := ⟨h.1, h.2.1, h.2.2.1, h.2.2.2.1, h.2.2.2.2.1, h.2.2.2.2.2.1, h.2.2.2.2.2.2.1, hN⟩
theorem fd_K_m {B' s' : Nat} (h : fd_K B s k0 rc cc sl nw no ops o1 o2 o3 sz st pr pc rg wk jn sd br io cp cl hd ct wt wc rr ab dx ox ss yy sp dy ly) (hB : B ≤ B') (hs : s ≤ s') : fd_K B' s' k0 rc cc sl nw no ops o1 o2 o3 sz st pr pc rg wk jn sd br io cp cl hd ct wt wc rr ab dx ox ss yy sp dy ly := by
  obtain ⟨hG, hF, hR, hV, hS, hC, ⟨n, hO1, hO2⟩, hN⟩ := h
  exact ⟨hG, hF, hR, hV, fd_S_m hS hs, hC, ⟨n, by omega, hO2⟩, hN⟩
theorem fd_lvR {x z : Int32} (hx : vp_in x 3) (hz : vp_in z 12) (ez : ab x.toNatClampNeg = z) (hy : yy = 0) (hs : s < 2 ^ 62) (h : fd_K B s x.toNatClampNeg rc cc sl nw no ops o1 o2 o3 sz st pr pc rg wk jn sd br io cp cl hd ct wt wc rr ab dx ox ss yy sp dy ly) : ∃ u' v', (∀ post : SX → Prop, post u' → wpX_leaveIfDue post (rc, cc, sl, nw, no, ops, o1, o2, o3, sz, st, pr, pc, rg, wk, jn, sd, br, io, cp, cl, hd, ct, wt, wc, rr, ab, dx, ox) x) ∧ (∀ (post : Int32 → SY → Prop) (n : Nat) (x1 : Int32), fd_C56 post n x1 (x + 1) v' → fd_Yt post n x1 x z cc sl nw no ss yy ops o1 o2 o3 sz st pr pc rg wk sp cp cl hd ct ab dy ly) ∧ fd_RR B (s + 1) u' v' := by
  have K1 := fd_K_N h (fd_N_d h.2.2.2.2.2.2.2 (fd_lt hx))
  have hN1 := K1.2.2.2.2.2.2.2
  by_cases s2 : st z.toNatClampNeg = 2
  · have hr : fd_run x.toNatClampNeg st ab z := ⟨hz, s2, fd_lt hx, ez⟩
    have hrc := fd_K_rc h hz (by rw [s2]; decide)
    have exy : upd dx x.toNatClampNeg (dx x.toNatClampNeg + 1) x.toNatClampNeg = upd dy x.toNatClampNeg (dy x.toNatClampNeg + 1) x.toNatClampNeg := by
      rcases hN1.2.1 x.toNatClampNeg (fd_lt hx) with q | q
      · exact absurd (ez.symm.trans q) (fd_m1 hz)
      · exact q.2.2
    by_cases lt : upd dx x.toNatClampNeg (dx x.toNatClampNeg + 1) x.toNatClampNeg < sl
    · have K2 := fd_K_N K1 (fd_N_in hN1 (by rw [ez]; exact s2))
      refine ⟨(rc, cc, sl, nw, no, ops, o1, o2, o3, sz, st, pr, pc, rg, wk, jn, sd, br, io, cp, cl, hd, ct, wt, wc, rr, ab, upd dx x.toNatClampNeg (dx x.toNatClampNeg + 1), ox), (cc, sl, nw, no, ss, yy, ops, o1, o2, o3, sz, st, pr, pc, rg, wk, sp, cp, cl, hd, ct, ab, upd dy x.toNatClampNeg (dy x.toNatClampNeg + 1), ly), fun post H => ?_, fun post n x1 H => ?_, ⟨rc, cc, sl, nw, no, ops, o1, o2, o3, sz, st, pr, pc, rg, wk, jn, sd, br, io, cp, cl, hd, ct, wt, wc, rr, ab, _, ox, ss, yy, sp, _, ly, rfl, rfl, fd_K_m K2 (Nat.le_refl B) (by omega)⟩⟩
      · exact And.intro hx (nm_r ez ⟨hx, hx, nm_e ⟨hz, br_t s2 ⟨hx, br_t lt (And.intro hz (br_t s2 H))⟩⟩⟩)
      · exact ⟨hx, hx, nm_e ⟨hz, br_t s2 (br_t hy ⟨hx, br_t (by rw [← exy]; exact lt) (And.intro hz (br_t s2 (nm_e H)))⟩)⟩⟩
    · have hp0 := ((h.2.1 z.toNatClampNeg (fd_lt hz)).1 (Or.inr (Or.inl s2))).2
      have K2 := fd_K_row (pc' := pc) K1 hs hz (Or.inl hr) fd_ag_r hp0
      have K3 := fd_K_N K2 (fd_N_out K2.2.2.2.2.2.2.2)
      have m2 : ¬ upd st z.toNatClampNeg 1 z.toNatClampNeg = 2 := by rw [pk_us]; decide
      refine ⟨(rc + 1, cc, sl, nw, no, ops, o1, o2, o3, sz, upd st z.toNatClampNeg 1, pr, pc, rg, wk, jn, sd, br, io, cp, cl, hd, ct, wt, wc, upd rr rc.toNatClampNeg z, upd ab x.toNatClampNeg (-1), upd dx x.toNatClampNeg (dx x.toNatClampNeg + 1), ox), (cc, sl, nw, no, ss + 1, yy, ops, o1, o2, o3, sz, upd st z.toNatClampNeg 1, pr, pc, rg, wk, vp_updL sp z.toNatClampNeg (ss + 1), cp, cl, hd, ct, upd ab x.toNatClampNeg (-1), upd dy x.toNatClampNeg (dy x.toNatClampNeg + 1), ly), fun post H => ?_, fun post n x1 H => ?_, ⟨_, cc, sl, nw, no, ops, o1, o2, o3, sz, _, pr, pc, rg, wk, jn, sd, br, io, cp, cl, hd, ct, wt, wc, _, _, _, ox, _, yy, _, _, ly, rfl, rfl, K3⟩⟩
      · exact And.intro hx (nm_r ez ⟨hx, hx, nm_e ⟨hz, br_t s2 ⟨hx, br_f lt (fd_X_toRow hz hrc (And.intro hz (br_f m2 ⟨hx, nm_e H⟩)))⟩⟩⟩)
      · exact ⟨hx, hx, nm_e ⟨hz, br_t s2 (br_t hy ⟨hx, br_f (by rw [← exy]; exact lt) (fd_Y_ready hz (And.intro hz (br_f m2 ⟨hx, nm_e (nm_e H)⟩)))⟩)⟩⟩
  · have K2 := fd_K_N K1 (fd_N_out hN1)
    refine ⟨(rc, cc, sl, nw, no, ops, o1, o2, o3, sz, st, pr, pc, rg, wk, jn, sd, br, io, cp, cl, hd, ct, wt, wc, rr, upd ab x.toNatClampNeg (-1), upd dx x.toNatClampNeg (dx x.toNatClampNeg + 1), ox), (cc, sl, nw, no, ss, yy, ops, o1, o2, o3, sz, st, pr, pc, rg, wk, sp, cp, cl, hd, ct, upd ab x.toNatClampNeg (-1), upd dy x.toNatClampNeg (dy x.toNatClampNeg + 1), ly), fun post H => ?_, fun post n x1 H => ?_, ⟨rc, cc, sl, nw, no, ops, o1, o2, o3, sz, st, pr, pc, rg, wk, jn, sd, br, io, cp, cl, hd, ct, wt, wc, rr, _, _, ox, ss, yy, sp, _, ly, rfl, rfl, fd_K_m K2 (Nat.le_refl B) (by omega)⟩⟩
    · exact And.intro hx (nm_r ez ⟨hx, hx, nm_e ⟨hz, br_f s2 (And.intro hz (br_f s2 ⟨hx, nm_e H⟩))⟩⟩)
    · exact ⟨hx, hx, nm_e ⟨hz, br_f s2 (And.intro hz (br_f s2 ⟨hx, nm_e (nm_e H)⟩))⟩⟩
theorem fd_lvD {x z : Int32} (hx : vp_in x 3) (hr : fd_run x.toNatClampNeg st ab z) (hy : ¬ yy = 0) (hs : s < 2 ^ 62) (h : fd_K B s x.toNatClampNeg rc cc sl nw no ops o1 o2 o3 sz st pr pc rg wk jn sd br io cp cl hd ct wt wc rr ab dx ox ss yy sp dy ly) : ∃ u' v', (∀ post : SX → Prop, post u' → wpX_leaveIfDue post (rc + 1, cc, sl, nw, no, ops, o1, o2, o3, sz, upd st z.toNatClampNeg 1, pr, pc, rg, wk, jn, sd, br, io, cp, cl, hd, ct, wt, wc, upd rr rc.toNatClampNeg z, ab, dx, ox) x) ∧ (∀ (post : Int32 → SY → Prop) (n : Nat) (x1 : Int32), fd_C56 post n x1 (x + 1) v' → fd_Yt post n x1 x z cc sl nw no ss yy ops o1 o2 o3 sz st pr pc rg wk sp cp cl hd ct ab dy ly) ∧ fd_RR B (s + 1) u' v' := by
  obtain ⟨hz, s2, _, ez⟩ := hr
  have hr : fd_run x.toNatClampNeg st ab z := ⟨hz, s2, fd_lt hx, ez⟩
  have K1 := fd_K_N h (fd_N_d h.2.2.2.2.2.2.2 (fd_lt hx))
  have hp0 := ((h.2.1 z.toNatClampNeg (fd_lt hz)).1 (Or.inr (Or.inl s2))).2
  have K2 := fd_K_row (pc' := pc) K1 hs hz (Or.inl hr) fd_ag_r hp0
  have K3 := fd_K_N K2 (fd_N_out K2.2.2.2.2.2.2.2)
  have m2 : ¬ upd st z.toNatClampNeg 1 z.toNatClampNeg = 2 := by rw [pk_us]; decide
  refine ⟨(rc + 1, cc, sl, nw, no, ops, o1, o2, o3, sz, upd st z.toNatClampNeg 1, pr, pc, rg, wk, jn, sd, br, io, cp, cl, hd, ct, wt, wc, upd rr rc.toNatClampNeg z, upd ab x.toNatClampNeg (-1), upd dx x.toNatClampNeg (dx x.toNatClampNeg + 1), ox), (cc, sl, nw, no, ss + 1, yy, ops, o1, o2, o3, sz, upd st z.toNatClampNeg 1, pr, pc, rg, wk, vp_updL sp z.toNatClampNeg (ss + 1), cp, cl, hd, ct, upd ab x.toNatClampNeg (-1), upd dy x.toNatClampNeg (dy x.toNatClampNeg + 1), ly), fun post H => ?_, fun post n x1 H => ?_, ⟨_, cc, sl, nw, no, ops, o1, o2, o3, sz, _, pr, pc, rg, wk, jn, sd, br, io, cp, cl, hd, ct, wt, wc, _, _, _, ox, _, yy, _, _, ly, rfl, rfl, K3⟩⟩
  · exact And.intro hx (nm_r ez ⟨hx, hx, nm_e ⟨hz, br_f m2 (And.intro hz (br_f m2 ⟨hx, nm_e H⟩))⟩⟩)
  · exact ⟨hx, hx, nm_e ⟨hz, br_t s2 (br_f hy (fd_Y_ready hz (And.intro hz (br_f m2 ⟨hx, nm_e (nm_e H)⟩))))⟩⟩
/-- a fibre is aboard: it does its step and leaves or stays -/
theorem fd_go {x z : Int32} (hx : vp_in x 3) (hr : fd_run x.toNatClampNeg st ab z) (hs : s + 201 < 2 ^ 62) (hB : B < 2 ^ 30) (h : fd_K B s x.toNatClampNeg rc cc sl nw no ops o1 o2 o3 sz st pr pc rg wk jn sd br io cp cl hd ct wt wc rr ab dx ox ss yy sp dy ly) : ∃ u1 u' v', (∀ post : SX → Prop, post u1 → wpX_perform post (rc, cc, sl, nw, no, ops, o1, o2, o3, sz, st, pr, pc, rg, wk, jn, sd, br, io, cp, cl, hd, ct, wt, wc, rr, ab, dx, ox) z) ∧ (∀ post : SX → Prop, post u' → wpX_leaveIfDue post u1 x) ∧ (∀ (post : Int32 → SY → Prop) (n : Nat) (x1 : Int32), fd_C56 post n (x1 + 1) (x + 1) v' → wY_tick_114 post (wY_tick_56 post n) x1 x cc sl nw no ss yy ops o1 o2 o3 sz st pr pc rg wk sp cp cl hd ct ab dy ly) ∧ fd_RR (B + 1) (s + 201) u' v' := by
  obtain ⟨u1, v1, h1, h2, hq⟩ := fd_step hr (by omega) hB h
  have hz := hr.1
  have ez := hr.2.2.2
  rcases hq with ⟨rc', cc', sl', nw', no', ops', o1', o2', o3', sz', st', pr', pc', rg', wk', jn', sd', br', io', cp', cl', hd', ct', wt', wc', rr', ab', dx', ox', ss', yy', sp', dy', ly', rfl, rfl, K1, _, _, eab, eyy⟩ | ⟨rc', cc', sl', nw', no', ops', o1', o2', o3', sz', st', pr', pc', rg', wk', jn', sd', br', io', cp', cl', hd', ct', wt', wc', rr', ab', dx', ox', ss', yy', sp', dy', ly', rfl, rfl, hyy, K1, hr1, eab⟩
  · obtain ⟨u', v', g1, g2, g3⟩ := fd_lvR hx hz (by rw [eab]; exact ez) eyy (by omega) K1
    refine ⟨_, u', v', h1, g1, fun post n x1 H => ?_, g3⟩
    exact And.intro hx (nm_r ez (h2 _ (nm_e (g2 post n (x1 + 1) H))))
  · obtain ⟨u', v', g1, g2, ⟨rc'', cc'', sl'', nw'', no'', ops'', o1'', o2'', o3'', sz'', st'', pr'', pc'', rg'', wk'', jn'', sd'', br'', io'', cp'', cl'', hd'', ct'', wt'', wc'', rr'', ab'', dx'', ox'', ss'', yy'', sp'', dy'', ly'', e1, e2, K2⟩⟩ := fd_lvD hx hr1 hyy (by omega) K1
    refine ⟨_, u', v', h1, g1, fun post n x1 H => ?_, ⟨rc'', cc'', sl'', nw'', no'', ops'', o1'', o2'', o3'', sz'', st'', pr'', pc'', rg'', wk'', jn'', sd'', br'', io'', cp'', cl'', hd'', ct'', wt'', wc'', rr'', ab'', dx'', ox'', ss'', yy'', sp'', dy'', ly'', e1, e2, fd_K_m K2 (by omega) (by omega)⟩⟩
    exact And.intro hx (nm_r ez (h2 _ (nm_e (g2 post n (x1 + 1) H))))
theorem fd_K_board {x : Int32} {a : Nat} {l : List Nat} (hx : vp_in x 3) (ha : ab x.toNatClampNeg = -1) (hQ : fd_Q (fun f => st f = 1) sp (a :: l)) (hH : fd_H rr 0 (a :: l)) (h : fd_K B s 3 rc cc sl nw no ops o1 o2 o3 sz st pr pc rg wk jn sd br io cp cl hd ct wt wc rr ab dx ox ss yy sp dy ly) : fd_K B s x.toNatClampNeg (nI l.length) cc sl nw no ops o1 o2 o3 sz (upd st (nI a).toNatClampNeg 2) pr pc rg wk jn sd br io cp cl hd ct wt wc (fd_sh rr 0 l.length) (upd ab x.toNatClampNeg (nI a)) (upd dx x.toNatClampNeg 0) ox ss yy sp (upd dy x.toNatClampNeg 0) ly ∧ fd_run x.toNatClampNeg (upd st (nI a).toNatClampNeg 2) (upd ab x.toNatClampNeg (nI a)) (nI a) := by
  obtain ⟨hG, hF, hR, hV, hS, hC, hO, hN⟩ := h
  have ma := (hQ.1 a).mp List.mem_cons_self
  have hz : vp_in (nI a) 12 := vp_in_nI ma.1 (by omega)
  have ea : (nI a).toNatClampNeg = a := nI_clamp (by omega)
  have s1 : st (nI a).toNatClampNeg = 1 := by rw [ea]; exact ma.2
  have n3 : st (nI a).toNatClampNeg ≠ 3 := by rw [s1]; decide
  have m1 : upd st (nI a).toNatClampNeg 2 (nI a).toNatClampNeg ≠ 1 := by rw [pk_us]; decide
  have m3 : upd st (nI a).toNatClampNeg 2 (nI a).toNatClampNeg ≠ 3 := by rw [pk_us]; decide
  have hp := (hF (nI a).toNatClampNeg (fd_lt hz)).1 (Or.inl s1)
  have nd := List.nodup_cons.mp (fd_Q_nd hQ)
  refine ⟨⟨hG, fd_Fs hF fd_ag_u fd_ag_r fd_ag_r fd_ag_r fd_ag_r fd_ag_r fd_ag_r fd_agr_r (fd_F_n m3 hp), ⟨l, ?_, ?_, rfl⟩, fd_V_s hV fd_ag_u fd_ag_r fd_ag_r fd_agL_r n3 m3, hS, hC, hO, hN.1, ?_, ?_⟩, hz, pk_us, fd_lt hx, pk_us⟩
  · have q := fd_Qrem (P' := fun f => upd st (nI a).toNatClampNeg 2 f = 1) (sp' := sp) (f := a) hQ (by show ¬ upd st (nI a).toNatClampNeg 2 a = 1; rw [ea, pk_us]; decide) (fun g hg e => by show upd st (nI a).toNatClampNeg 2 g = 1 ↔ st g = 1; rw [pk_un (by rw [ea]; exact e)]) (fun g hg e => rfl)
    have ef : (a :: l).filter (fun g => decide (g ≠ a)) = l := by
      rw [List.filter_cons, if_neg (by simp), List.filter_eq_self]
      intro g hg
      exact decide_eq_true (fun e => nd.1 (e ▸ hg))
    rw [ef] at q
    exact q
  · intro i hi
    have q := hH (i + 1) (by show i + 1 < l.length + 1; omega)
    rw [Nat.zero_add] at q ⊢
    have e : fd_sh rr 0 l.length i = rr (i + 1) := if_pos (by omega)
    rw [e]; exact q
  · intro k hk
    by_cases e : k = x.toNatClampNeg
    · rw [e, pk_us, pk_us, pk_us]; exact Or.inr ⟨hz, fun n => absurd rfl n, pk_us.symm⟩
    · rw [pk_un e, pk_un e, pk_un e]
      refine (hN.2.1 k hk).imp id (fun q => ⟨q.1, fun _ => ?_, q.2.2⟩)
      have q2 := q.2.1 (by omega)
      rw [pk_un (fun w => by rw [w, s1] at q2; exact absurd q2 (by decide))]; exact q2
  · have nz : ∀ j, j < 3 → ab j ≠ nI a := fun j hj w => by
      rcases hN.2.1 j hj with q | q
      · exact fd_m1 hz (w.symm.trans q)
      · have q2 := q.2.1 (by omega)
        rw [w, s1] at q2; exact absurd q2 (by decide)
    intro i j hi hj q n1
    by_cases e : i = x.toNatClampNeg
    · by_cases e' : j = x.toNatClampNeg
      · rw [e, e']
      · rw [e, pk_us, pk_un e'] at q; exact absurd q.symm (nz j hj)
    · by_cases e' : j = x.toNatClampNeg
      · rw [e', pk_us, pk_un e] at q; exact absurd q (nz i hi)
      · rw [pk_un e, pk_un e'] at q
        rw [pk_un e] at n1
        exact hN.2.2 i j hi hj q n1
end
end
section
section
variable {rc cc sl nw no : Int32} {ops o1 o2 o3 sz st pr pc rg wk jn sd br io cp cl hd ct wt wc rr ab dx ox : Nat → Int32} {ss : Int64} {yy : Int32} {sp : Nat → Int64} {dy ly : Nat → Int32} {B s : Nat}
/-- one carrier -/
theorem fd_car {x : Int32} (hx : vp_in x 3) (hc : ¬ cc ≤ x) (hs : s + 201 < 2 ^ 62) (hB : B < 2 ^ 30) (h : fd_K B s 3 rc cc sl nw no ops o1 o2 o3 sz st pr pc rg wk jn sd br io cp cl hd ct wt wc rr ab dx ox ss yy sp dy ly) : (∃ u' v', (∀ (post : Int32 → SX → Prop) (p x3 x2 : Int32) (m n : Nat), (match u' with | (rc', cc', sl', nw', no', ops', o1', o2', o3', sz', st', pr', pc', rg', wk', jn', sd', br', io', cp', cl', hd', ct', wt', wc', rr', ab', dx', ox') => wX_run_57 post (wX_run_28 post p m) p x3 n (x2 + 1) (x + 1) rc' cc' sl' nw' no' ops' o1' o2' o3' sz' st' pr' pc' rg' wk' jn' sd' br' io' cp' cl' hd' ct' wt' wc' rr' ab' dx' ox') → wX_run_57 post (wX_run_28 post p m) p x3 (n + 1) x2 x rc cc sl nw no ops o1 o2 o3 sz st pr pc rg wk jn sd br io cp cl hd ct wt wc rr ab dx ox) ∧ (∀ (post : Int32 → SY → Prop) (n : Nat) (x1 : Int32), fd_C56 post n (x1 + 1) (x + 1) v' → wY_tick_56 post (n + 1) x1 x cc sl nw no ss yy ops o1 o2 o3 sz st pr pc rg wk sp cp cl hd ct ab dy ly) ∧ fd_RR (B + 1) (s + 201) u' v') ∨
    (∃ u' v', (∀ (post : Int32 → SX → Prop) (p x3 x2 : Int32) (m n : Nat), (match u' with | (rc', cc', sl', nw', no', ops', o1', o2', o3', sz', st', pr', pc', rg', wk', jn', sd', br', io', cp', cl', hd', ct', wt', wc', rr', ab', dx', ox') => wX_run_57 post (wX_run_28 post p m) p x3 n x2 (x + 1) rc' cc' sl' nw' no' ops' o1' o2' o3' sz' st' pr' pc' rg' wk' jn' sd' br' io' cp' cl' hd' ct' wt' wc' rr' ab' dx' ox') → wX_run_57 post (wX_run_28 post p m) p x3 (n + 1) x2 x rc cc sl nw no ops o1 o2 o3 sz st pr pc rg wk jn sd br io cp cl hd ct wt wc rr ab dx ox) ∧ (∀ (post : Int32 → SY → Prop) (n : Nat) (x1 : Int32), fd_C56 post n x1 (x + 1) v' → wY_tick_56 post (n + 1) x1 x cc sl nw no ss yy ops o1 o2 o3 sz st pr pc rg wk sp cp cl hd ct ab dy ly) ∧ fd_RR (B + 1) (s + 201) u' v') := by
  have hN := h.2.2.2.2.2.2.2
  by_cases ha : ab x.toNatClampNeg = -1
  · have na : ¬ 0 ≤ ab x.toNatClampNeg := by rw [ha]; decide
    obtain ⟨L, hQ, hH, ec⟩ := h.2.2.1
    obtain ⟨r, m1, fr⟩ := fd_Y_fr (cc := cc) (sl := sl) (nw := nw) (no := no) (ss := ss) (yy := yy) (ops := ops) (o1 := o1) (o2 := o2) (o3 := o3) (sz := sz) (st := st) (pr := pr) (pc := pc) (rg := rg) (wk := wk) (sp := sp) (cp := cp) (cl := cl) (hd := hd) (ct := ct) (ab := ab) (dy := dy) (ly := ly)
    cases L with
    | nil =>
      right
      have er : r = -1 := by
        by_cases e : r = -1
        · exact e
        · have q := fd_M_yes m1 e
          exact absurd ((hQ.1 _).mpr ⟨fd_lt q.1, q.2⟩) List.not_mem_nil
      have eab : upd ab x.toNatClampNeg r = ab := by
        funext j
        by_cases e : j = x.toNatClampNeg
        · rw [e, pk_us, ha, er]
        · rw [pk_un e]
      have hN' : fd_N cc st ab dx (upd dy x.toNatClampNeg 0) 3 := by
        refine ⟨hN.1, fun k hk => ?_, hN.2.2⟩
        by_cases e : k = x.toNatClampNeg
        · exact Or.inl (by rw [e]; exact ha)
        · rw [pk_un e]; exact hN.2.1 k hk
      refine ⟨(rc, cc, sl, nw, no, ops, o1, o2, o3, sz, st, pr, pc, rg, wk, jn, sd, br, io, cp, cl, hd, ct, wt, wc, rr, ab, dx, ox), (cc, sl, nw, no, ss, yy, ops, o1, o2, o3, sz, st, pr, pc, rg, wk, sp, cp, cl, hd, ct, ab, upd dy x.toNatClampNeg 0, ly), fun post p x3 x2 m n H => ?_, fun post n x1 H => ?_, ⟨rc, cc, sl, nw, no, ops, o1, o2, o3, sz, st, pr, pc, rg, wk, jn, sd, br, io, cp, cl, hd, ct, wt, wc, rr, ab, dx, ox, ss, yy, sp, _, ly, rfl, rfl, fd_K_m (fd_K_N h hN') (by omega) (by omega)⟩⟩
      · exact br_f hc (And.intro hx (br_t ha (br_t (by rw [ec]; rfl) ⟨hx, br_t ha (nm_e H)⟩)))
      · refine br_f hc ⟨hx, br_f na (fr _ ⟨hx, nm_r eab ⟨hx, nm_e ⟨hx, br_f na (nm_e H)⟩⟩⟩)⟩
    | cons a l =>
      left
      have hl := fd_Q_len hQ
      have l1 : (a :: l).length = l.length + 1 := rfl
      have ma := (hQ.1 a).mp List.mem_cons_self
      have hz : vp_in (nI a) 12 := vp_in_nI ma.1 (by omega)
      have g1 : fd_Mi (fun g => st g = 1) sp 12 (nI a) := fd_Mi_c (P := fun g => st g = 1 ∧ True) (fd_M_first (K := fun _ => True) hQ 0 (by omega) trivial (fun j hj l => absurd l (Nat.not_lt_zero j))) (fun g hg => ⟨fun z => ⟨z, trivial⟩, fun z => z.1⟩)
      have er : r = nI a := fd_M_u (K := fun g => st g = 1) hQ (fun g z => z) m1 g1
      subst er
      obtain ⟨K1, hr⟩ := fd_K_board hx ha hQ hH h
      obtain ⟨u1, u', v', f1, f2, f3, ⟨rc', cc', sl', nw', no', ops', o1', o2', o3', sz', st', pr', pc', rg', wk', jn', sd', br', io', cp', cl', hd', ct', wt', wc', rr', ab', dx', ox', ss', yy', sp', dy', ly', rfl, rfl, K2⟩⟩ := fd_go hx hr hs hB K1
      have e0 : rr 0 = nI a := hH 0 (by omega)
      refine ⟨_, _, fun post p x3 x2 m n H => ?_, fun post n x1 H => ?_, ⟨rc', cc', sl', nw', no', ops', o1', o2', o3', sz', st', pr', pc', rg', wk', jn', sd', br', io', cp', cl', hd', ct', wt', wc', rr', ab', dx', ox', ss', yy', sp', dy', ly', rfl, rfl, K2⟩⟩
      · refine br_f hc (fd_X_board hx hz ha e0 (m := l.length) (by omega) ec ⟨hx, br_f ?_ ⟨hx, ?_⟩⟩)
        · rw [pk_us]; exact fd_m1 hz
        · rw [pk_us]
          refine f1 _ ?_
          obtain ⟨rc'', cc'', sl'', nw'', no'', ops'', o1'', o2'', o3'', sz'', st'', pr'', pc'', rg'', wk'', jn'', sd'', br'', io'', cp'', cl'', hd'', ct'', wt'', wc'', rr'', ab'', dx'', ox''⟩ := u1
          exact nm_e (f2 _ (nm_e H))
      · refine br_f hc ⟨hx, br_f na (fr _ ⟨hx, nm_e ⟨hx, nm_e ⟨hx, br_t ?_ ⟨hx, ?_, nm_r (e' := upd st (nI a).toNatClampNeg 2) ?_ (f3 post n x1 H)⟩⟩⟩⟩)⟩
        · rw [pk_us]; exact fd_ge0 hz
        · rw [pk_us]; exact hz
        · rw [pk_us]
  · left
    obtain ⟨hz, s2, _⟩ := (hN.2.1 x.toNatClampNeg (fd_lt hx)).resolve_left ha
    have x3 := fd_lt hx
    have hr : fd_run x.toNatClampNeg st ab (ab x.toNatClampNeg) := ⟨hz, s2 (by omega), x3, rfl⟩
    have K1 := fd_K_N h (fd_N_w (k := x.toNatClampNeg) hN)
    obtain ⟨u1, u', v', f1, f2, f3, ⟨rc', cc', sl', nw', no', ops', o1', o2', o3', sz', st', pr', pc', rg', wk', jn', sd', br', io', cp', cl', hd', ct', wt', wc', rr', ab', dx', ox', ss', yy', sp', dy', ly', rfl, rfl, K2⟩⟩ := fd_go hx hr hs hB K1
    refine ⟨_, _, fun post p x3 x2 m n H => ?_, fun post n x1 H => ?_, ⟨rc', cc', sl', nw', no', ops', o1', o2', o3', sz', st', pr', pc', rg', wk', jn', sd', br', io', cp', cl', hd', ct', wt', wc', rr', ab', dx', ox', ss', yy', sp', dy', ly', rfl, rfl, K2⟩⟩
    · refine br_f hc (And.intro hx (br_f ha ⟨hx, br_f ha ⟨hx, f1 _ ?_⟩⟩))
      obtain ⟨rc'', cc'', sl'', nw'', no'', ops'', o1'', o2'', o3'', sz'', st'', pr'', pc'', rg'', wk'', jn'', sd'', br'', io'', cp'', cl'', hd'', ct'', wt'', wc'', rr'', ab'', dx'', ox''⟩ := u1
      exact nm_e (f2 _ (nm_e H))
    · exact br_f hc ⟨hx, br_t (fd_ge0 hz) (f3 post n x1 H)⟩
end
theorem fd_cars : ∀ (d c B s : Nat) (rc cc sl nw no : Int32) (ops o1 o2 o3 sz st pr pc rg wk jn sd br io cp cl hd ct wt wc rr ab dx ox : Nat → Int32) (ss : Int64) (yy : Int32) (sp : Nat → Int64) (dy ly : Nat → Int32), c + d = 3 → s + 201 * d < 2 ^ 62 → B + d < 2 ^ 30 → fd_K B s 3 rc cc sl nw no ops o1 o2 o3 sz st pr pc rg wk jn sd br io cp cl hd ct wt wc rr ab dx ox ss yy sp dy ly → ∃ (q : Int32) (u' : SX) (v' : SY), (∀ (post : Int32 → SX → Prop) (p x3 x2 : Int32) (m : Nat), fd_C28 post p m (x2 + q) (x3 + 1) u' → wX_run_57 post (wX_run_28 post p m) p x3 (d + 1) x2 (nI c) rc cc sl nw no ops o1 o2 o3 sz st pr pc rg wk jn sd br io cp cl hd ct wt wc rr ab dx ox) ∧ (∀ (post : Int32 → SY → Prop) (x1 : Int32), post (x1 + q) v' → wY_tick_56 post (d + 1) x1 (nI c) cc sl nw no ss yy ops o1 o2 o3 sz st pr pc rg wk sp cp cl hd ct ab dy ly) ∧ fd_RR (B + d) (s + 201 * d) u' v' := by
  intro d
  induction d with
  | zero =>
    intro c B s rc cc sl nw no ops o1 o2 o3 sz st pr pc rg wk jn sd br io cp cl hd ct wt wc rr ab dx ox ss yy sp dy ly hc hs hB h
    obtain ⟨n, n1, n2, e⟩ := h.2.2.2.2.2.2.2.1
    have le : cc ≤ nI c := by rw [e]; exact nI_le (by omega) (by omega)
    refine ⟨0, (rc, cc, sl, nw, no, ops, o1, o2, o3, sz, st, pr, pc, rg, wk, jn, sd, br, io, cp, cl, hd, ct, wt, wc, rr, ab, dx, ox), (cc, sl, nw, no, ss, yy, ops, o1, o2, o3, sz, st, pr, pc, rg, wk, sp, cp, cl, hd, ct, ab, dy, ly), fun post p x3 x2 m H => br_t le (nm_e ?_), fun post x1 H => br_t le ?_, ⟨rc, cc, sl, nw, no, ops, o1, o2, o3, sz, st, pr, pc, rg, wk, jn, sd, br, io, cp, cl, hd, ct, wt, wc, rr, ab, dx, ox, ss, yy, sp, dy, ly, rfl, rfl, h⟩⟩
    · rw [Int32.add_zero] at H; exact H
    · rw [Int32.add_zero] at H; exact H
  | succ d ih =>
    intro c B s rc cc sl nw no ops o1 o2 o3 sz st pr pc rg wk jn sd br io cp cl hd ct wt wc rr ab dx ox ss yy sp dy ly hc hs hB h
    by_cases le : cc ≤ nI c
    · refine ⟨0, (rc, cc, sl, nw, no, ops, o1, o2, o3, sz, st, pr, pc, rg, wk, jn, sd, br, io, cp, cl, hd, ct, wt, wc, rr, ab, dx, ox), (cc, sl, nw, no, ss, yy, ops, o1, o2, o3, sz, st, pr, pc, rg, wk, sp, cp, cl, hd, ct, ab, dy, ly), fun post p x3 x2 m H => br_t le (nm_e ?_), fun post x1 H => br_t le ?_, ⟨rc, cc, sl, nw, no, ops, o1, o2, o3, sz, st, pr, pc, rg, wk, jn, sd, br, io, cp, cl, hd, ct, wt, wc, rr, ab, dx, ox, ss, yy, sp, dy, ly, rfl, rfl, fd_K_m h (by omega) (by omega)⟩⟩
      · rw [Int32.add_zero] at H; exact H
      · rw [Int32.add_zero] at H; exact H
    · have hx : vp_in (nI c) 3 := vp_in_nI (by omega) (by omega)
      rcases fd_car hx le (by omega) (by omega) h with ⟨u1, v1, h1, h2, ⟨rc', cc', sl', nw', no', ops', o1', o2', o3', sz', st', pr', pc', rg', wk', jn', sd', br', io', cp', cl', hd', ct', wt', wc', rr', ab', dx', ox', ss', yy', sp', dy', ly', rfl, rfl, K1⟩⟩ | ⟨u1, v1, h1, h2, ⟨rc', cc', sl', nw', no', ops', o1', o2', o3', sz', st', pr', pc', rg', wk', jn', sd', br', io', cp', cl', hd', ct', wt', wc', rr', ab', dx', ox', ss', yy', sp', dy', ly', rfl, rfl, K1⟩⟩
      · obtain ⟨q, u', v', g1, g2, ⟨rc'', cc'', sl'', nw'', no'', ops'', o1'', o2'', o3'', sz'', st'', pr'', pc'', rg'', wk'', jn'', sd'', br'', io'', cp'', cl'', hd'', ct'', wt'', wc'', rr'', ab'', dx'', ox'', ss'', yy'', sp'', dy'', ly'', e1, e2, K2⟩⟩ := ih (c + 1) (B + 1) (s + 201) _ _ _ _ _ _ _ _ _ _ _ _ _ _ _ _ _ _ _ _ _ _ _ _ _ _ _ _ _ _ _ _ _ _ (by omega) (by omega) (by omega) K1
        refine ⟨1 + q, u', v', fun post p x3 x2 m H => h1 post p x3 x2 m (d + 1) ?_, fun post x1 H => h2 post (d + 1) x1 ?_, ⟨rc'', cc'', sl'', nw'', no'', ops'', o1'', o2'', o3'', sz'', st'', pr'', pc'', rg'', wk'', jn'', sd'', br'', io'', cp'', cl'', hd'', ct'', wt'', wc'', rr'', ab'', dx'', ox'', ss'', yy'', sp'', dy'', ly'', e1, e2, fd_K_m K2 (by omega) (by omega)⟩⟩
        · rw [nI_1]
          rw [← Int32.add_assoc] at H
          exact g1 post p x3 (x2 + 1) m H
        · rw [nI_1]
          rw [← Int32.add_assoc] at H
          exact g2 post (x1 + 1) H
      · obtain ⟨q, u', v', g1, g2, ⟨rc'', cc'', sl'', nw'', no'', ops'', o1'', o2'', o3'', sz'', st'', pr'', pc'', rg'', wk'', jn'', sd'', br'', io'', cp'', cl'', hd'', ct'', wt'', wc'', rr'', ab'', dx'', ox'', ss'', yy'', sp'', dy'', ly'', e1, e2, K2⟩⟩ := ih (c + 1) (B + 1) (s + 201) _ _ _ _ _ _ _ _ _ _ _ _ _ _ _ _ _ _ _ _ _ _ _ _ _ _ _ _ _ _ _ _ _ _ (by omega) (by omega) (by omega) K1
        refine ⟨q, u', v', fun post p x3 x2 m H => h1 post p x3 x2 m (d + 1) ?_, fun post x1 H => h2 post (d + 1) x1 ?_, ⟨rc'', cc'', sl'', nw'', no'', ops'', o1'', o2'', o3'', sz'', st'', pr'', pc'', rg'', wk'', jn'', sd'', br'', io'', cp'', cl'', hd'', ct'', wt'', wc'', rr'', ab'', dx'', ox'', ss'', yy'', sp'', dy'', ly'', e1, e2, fd_K_m K2 (by omega) (by omega)⟩⟩
        · rw [nI_1]
          exact g1 post p x3 x2 m H
        · rw [nI_1]
          exact g2 post x1 H
theorem fd_wake : ∀ (d i B s : Nat) (rc cc sl nw no : Int32) (ops o1 o2 o3 sz st pr pc rg wk jn sd br io cp cl hd ct wt wc rr ab dx ox : Nat → Int32) (ss : Int64) (yy : Int32) (sp : Nat → Int64) (dy ly : Nat → Int32), i + d = 12 → s + d < 2 ^ 62 → fd_K B s 3 rc cc sl nw no ops o1 o2 o3 sz st pr pc rg wk jn sd br io cp cl hd ct wt wc rr ab dx ox ss yy sp dy ly → ∃ (u' : SX) (v' : SY), (∀ post : SX → Prop, post u' → wX_wakeSleepers_2 post (d + 1) (nI i) rc cc sl nw no ops o1 o2 o3 sz st pr pc rg wk jn sd br io cp cl hd ct wt wc rr ab dx ox) ∧ (∀ (post : Int32 → SY → Prop) (x1 : Int32), fd_T56 post x1 v' → wY_tick_14 post x1 (d + 1) (nI i) cc sl nw no ss yy ops o1 o2 o3 sz st pr pc rg wk sp cp cl hd ct ab dy ly) ∧ fd_RR B (s + d) u' v' := by
  intro d
  induction d with
  | zero =>
    intro i B s rc cc sl nw no ops o1 o2 o3 sz st pr pc rg wk jn sd br io cp cl hd ct wt wc rr ab dx ox ss yy sp dy ly hi hs h
    have e : i = 12 := by omega
    subst e
    exact ⟨(rc, cc, sl, nw, no, ops, o1, o2, o3, sz, st, pr, pc, rg, wk, jn, sd, br, io, cp, cl, hd, ct, wt, wc, rr, ab, dx, ox), (cc, sl, nw, no, ss, yy, ops, o1, o2, o3, sz, st, pr, pc, rg, wk, sp, cp, cl, hd, ct, ab, dy, ly), fun post H => br_t (by decide) H, fun post x1 H => br_t (by decide) H, ⟨rc, cc, sl, nw, no, ops, o1, o2, o3, sz, st, pr, pc, rg, wk, jn, sd, br, io, cp, cl, hd, ct, wt, wc, rr, ab, dx, ox, ss, yy, sp, dy, ly, rfl, rfl, h⟩⟩
  | succ d ih =>
    intro i B s rc cc sl nw no ops o1 o2 o3 sz st pr pc rg wk jn sd br io cp cl hd ct wt wc rr ab dx ox ss yy sp dy ly hi hs h
    have hx : vp_in (nI i) 12 := vp_in_nI (by omega) (by omega)
    have n12 : ¬ (12 : Int32) ≤ nI i := nI_ge (b := 12) (by omega) (by decide)
    have hi1 : nI i + 1 = nI (i + 1) := nI_1 i
    generalize nI i = x at hx n12 hi1
    have skip : ∃ (u' : SX) (v' : SY), (∀ post : SX → Prop, post u' → wX_wakeSleepers_2 post (d + 1) (nI (i + 1)) rc cc sl nw no ops o1 o2 o3 sz st pr pc rg wk jn sd br io cp cl hd ct wt wc rr ab dx ox) ∧ (∀ (post : Int32 → SY → Prop) (x1 : Int32), fd_T56 post x1 v' → wY_tick_14 post x1 (d + 1) (nI (i + 1)) cc sl nw no ss yy ops o1 o2 o3 sz st pr pc rg wk sp cp cl hd ct ab dy ly) ∧ fd_RR B (s + (d + 1)) u' v' := by
      obtain ⟨u', v', h1, h2, ⟨rc'', cc'', sl'', nw'', no'', ops'', o1'', o2'', o3'', sz'', st'', pr'', pc'', rg'', wk'', jn'', sd'', br'', io'', cp'', cl'', hd'', ct'', wt'', wc'', rr'', ab'', dx'', ox'', ss'', yy'', sp'', dy'', ly'', e1, e2, K2⟩⟩ := ih (i + 1) B s rc cc sl nw no ops o1 o2 o3 sz st pr pc rg wk jn sd br io cp cl hd ct wt wc rr ab dx ox ss yy sp dy ly (by omega) (by omega) h
      exact ⟨u', v', h1, h2, ⟨rc'', cc'', sl'', nw'', no'', ops'', o1'', o2'', o3'', sz'', st'', pr'', pc'', rg'', wk'', jn'', sd'', br'', io'', cp'', cl'', hd'', ct'', wt'', wc'', rr'', ab'', dx'', ox'', ss'', yy'', sp'', dy'', ly'', e1, e2, fd_K_m K2 (by omega) (by omega)⟩⟩
    by_cases s4 : st x.toNatClampNeg = 4
    · by_cases w : wk x.toNatClampNeg = nw
      · have hrc := fd_K_rc h hx (by rw [s4]; decide)
        have hp0 := ((h.2.1 x.toNatClampNeg (fd_lt hx)).1 (Or.inr (Or.inr (Or.inr s4)))).2
        have K1 := fd_K_row (pc' := pc) h (by omega) hx (Or.inr s4) fd_ag_r hp0
        obtain ⟨u', v', h1, h2, ⟨rc'', cc'', sl'', nw'', no'', ops'', o1'', o2'', o3'', sz'', st'', pr'', pc'', rg'', wk'', jn'', sd'', br'', io'', cp'', cl'', hd'', ct'', wt'', wc'', rr'', ab'', dx'', ox'', ss'', yy'', sp'', dy'', ly'', e1, e2, K2⟩⟩ := ih (i + 1) B (s + 1) _ _ _ _ _ _ _ _ _ _ _ _ _ _ _ _ _ _ _ _ _ _ _ _ _ _ _ _ _ _ _ _ _ _ (by omega) (by omega) K1
        refine ⟨u', v', fun post H => br_f n12 ⟨hx, br_t s4 ⟨hx, br_t w (fd_X_toRow hx hrc (nm_r hi1 (h1 post H)))⟩⟩, fun post x1 H => br_f n12 ⟨hx, br_t s4 ⟨hx, br_t w (fd_Y_ready hx (nm_r hi1 (h2 post x1 H)))⟩⟩, ⟨rc'', cc'', sl'', nw'', no'', ops'', o1'', o2'', o3'', sz'', st'', pr'', pc'', rg'', wk'', jn'', sd'', br'', io'', cp'', cl'', hd'', ct'', wt'', wc'', rr'', ab'', dx'', ox'', ss'', yy'', sp'', dy'', ly'', e1, e2, fd_K_m K2 (by omega) (by omega)⟩⟩
      · obtain ⟨u', v', h1, h2, h3⟩ := skip
        exact ⟨u', v', fun post H => br_f n12 ⟨hx, br_t s4 ⟨hx, br_f w (nm_r hi1 (h1 post H))⟩⟩, fun post x1 H => br_f n12 ⟨hx, br_t s4 ⟨hx, br_f w (nm_r hi1 (h2 post x1 H))⟩⟩, h3⟩
    · obtain ⟨u', v', h1, h2, h3⟩ := skip
      exact ⟨u', v', fun post H => br_f n12 ⟨hx, br_f s4 (nm_r hi1 (h1 post H))⟩, fun post x1 H => br_f n12 ⟨hx, br_f s4 (nm_r hi1 (h2 post x1 H))⟩, h3⟩
def fd_ac (z : Int32) : Prop := z = 1 ∨ z = 2 ∨ z = 4
theorem fd_ac_d (st : Nat → Int32) : (∀ g, g < 12 → ¬ fd_ac (st g)) ∨ ∃ b, b < 12 ∧ fd_ac (st b) ∧ ∀ g, g < b → ¬ fd_ac (st g) := by
  have key : ∀ n, n ≤ 12 → (∀ g, g < n → ¬ fd_ac (st g)) ∨ ∃ b, b < 12 ∧ fd_ac (st b) ∧ ∀ g, g < b → ¬ fd_ac (st g) := by
    intro n
    induction n with
    | zero => intro _; exact Or.inl (fun g hg => absurd hg (Nat.not_lt_zero g))
    | succ n ih =>
      intro hn
      rcases ih (by omega) with h | h
      · rcases Classical.em (fd_ac (st n)) with q | q
        · exact Or.inr ⟨n, by omega, q, h⟩
        · exact Or.inl (lt_s h q)
      · exact Or.inr h
  exact key 12 (Nat.le_refl 12)
section
variable {rc cc sl nw no : Int32} {ops o1 o2 o3 sz st pr pc rg wk jn sd br io cp cl hd ct wt wc rr ab dx ox : Nat → Int32} {ss : Int64} {yy : Int32} {sp : Nat → Int64} {dy ly : Nat → Int32} {B s : Nat}
theorem fd_X_cs {post : Int32 → Prop} {x : Int32} {n : Nat} (hx : vp_in x 12) (n12 : ¬ (12 : Int32) ≤ x) (na : ¬ fd_ac (st x.toNatClampNeg)) (H : wX_canGoOn_2 post rc cc sl nw no ops o1 o2 o3 sz st pr pc rg wk jn sd br io cp cl hd ct wt wc rr ab dx ox n (x + 1)) : wX_canGoOn_2 post rc cc sl nw no ops o1 o2 o3 sz st pr pc rg wk jn sd br io cp cl hd ct wt wc rr ab dx ox (n + 1) x := by
  refine br_f n12 (fd_X_aw hx (fun aw => br_f (by decide) ⟨hx, br_c (fun _ => nm_e H) (fun q => ?_)⟩) (fun _ => br_t rfl (nm_e H)))
  rcases aw with w | w | w | w
  · exact absurd (Or.inl w) na
  · exact absurd (Or.inr (Or.inl w)) na
  · exact absurd w q
  · exact absurd (Or.inr (Or.inr w)) na
theorem fd_Y_cs {post : Int32 → Prop} {x : Int32} {n : Nat} (hx : vp_in x 12) (n12 : ¬ (12 : Int32) ≤ x) (na : ¬ fd_ac (st x.toNatClampNeg)) (H : wY_isIdle_2 post cc sl nw no ss yy ops o1 o2 o3 sz st pr pc rg wk sp cp cl hd ct ab dy ly n (x + 1)) : wY_isIdle_2 post cc sl nw no ss yy ops o1 o2 o3 sz st pr pc rg wk sp cp cl hd ct ab dy ly (n + 1) x :=
  br_f n12 ⟨hx, br_f (fun z => na (Or.inl z)) ⟨hx, br_f (fun z => na (Or.inr (Or.inl z))) ⟨hx, br_f (fun z => na (Or.inr (Or.inr z))) (nm_e H)⟩⟩⟩
theorem fd_X_c1 {post : Int32 → Prop} {x : Int32} {n : Nat} (hx : vp_in x 12) (n12 : ¬ (12 : Int32) ≤ x) (ac : fd_ac (st x.toNatClampNeg)) (H : post 1) : wX_canGoOn_2 post rc cc sl nw no ops o1 o2 o3 sz st pr pc rg wk jn sd br io cp cl hd ct wt wc rr ab dx ox (n + 1) x := by
  have aw : fd_aw (st x.toNatClampNeg) := by
    rcases ac with w | w | w
    · exact Or.inl w
    · exact Or.inr (Or.inl w)
    · exact Or.inr (Or.inr (Or.inr w))
  have n3 : ¬ st x.toNatClampNeg = 3 := by
    rcases ac with w | w | w <;> rw [w] <;> decide
  exact br_f n12 (fd_X_aw hx (fun _ => br_f (by decide) ⟨hx, br_f n3 H⟩) (fun z => absurd aw z))
theorem fd_Y_c1 {post : Int32 → Prop} {x : Int32} {n : Nat} (hx : vp_in x 12) (n12 : ¬ (12 : Int32) ≤ x) (ac : fd_ac (st x.toNatClampNeg)) (H : post 0) : wY_isIdle_2 post cc sl nw no ss yy ops o1 o2 o3 sz st pr pc rg wk sp cp cl hd ct ab dy ly (n + 1) x :=
  br_f n12 ⟨hx, br_c (fun _ => H) (fun a1 => ⟨hx, br_c (fun _ => H) (fun a2 => ⟨hx, br_c (fun _ => H) (fun a3 => absurd (ac.elim a1 (fun q => q.elim a2 a3)) id)⟩)⟩)⟩
theorem fd_cgo : (∃ b : Nat, True ∧ (∀ post : Int32 → Prop, post 1 → wpX_canGoOn post (rc, cc, sl, nw, no, ops, o1, o2, o3, sz, st, pr, pc, rg, wk, jn, sd, br, io, cp, cl, hd, ct, wt, wc, rr, ab, dx, ox)) ∧ (∀ post : Int32 → Prop, post 0 → wpY_isIdle post (cc, sl, nw, no, ss, yy, ops, o1, o2, o3, sz, st, pr, pc, rg, wk, sp, cp, cl, hd, ct, ab, dy, ly))) ∨ ((∀ post : Int32 → Prop, post 0 → wpX_canGoOn post (rc, cc, sl, nw, no, ops, o1, o2, o3, sz, st, pr, pc, rg, wk, jn, sd, br, io, cp, cl, hd, ct, wt, wc, rr, ab, dx, ox)) ∧ (∀ post : Int32 → Prop, post 1 → wpY_isIdle post (cc, sl, nw, no, ss, yy, ops, o1, o2, o3, sz, st, pr, pc, rg, wk, sp, cp, cl, hd, ct, ab, dy, ly))) := by
  rcases fd_ac_d st with ha | ⟨b, hb, hb1, hb2⟩
  · right
    have key : ∀ d i : Nat, i + d = 12 → (∀ post : Int32 → Prop, post 0 → wX_canGoOn_2 post rc cc sl nw no ops o1 o2 o3 sz st pr pc rg wk jn sd br io cp cl hd ct wt wc rr ab dx ox (d + 1) (nI i)) ∧ (∀ post : Int32 → Prop, post 1 → wY_isIdle_2 post cc sl nw no ss yy ops o1 o2 o3 sz st pr pc rg wk sp cp cl hd ct ab dy ly (d + 1) (nI i)) := by
      intro d
      induction d with
      | zero =>
        intro i hi
        have e : i = 12 := by omega
        subst e
        exact ⟨fun post H => br_t (by decide) H, fun post H => br_t (by decide) H⟩
      | succ d ih =>
        intro i hi
        have hx : vp_in (nI i) 12 := vp_in_nI (by omega) (by omega)
        have n12 : ¬ (12 : Int32) ≤ nI i := nI_ge (b := 12) (by omega) (by decide)
        have na : ¬ fd_ac (st (nI i).toNatClampNeg) := by rw [nI_clamp (by omega)]; exact ha i (by omega)
        obtain ⟨q1, q2⟩ := ih (i + 1) (by omega)
        exact ⟨fun post H => fd_X_cs hx n12 na (by rw [nI_1]; exact q1 post H), fun post H => fd_Y_cs hx n12 na (by rw [nI_1]; exact q2 post H)⟩
    obtain ⟨q1, q2⟩ := key 12 0 rfl
    refine ⟨fun post H => ?_, fun post H => ?_⟩
    · unfold wpX_canGoOn; exact ⟨13, q1 post H⟩
    · unfold wpY_isIdle; exact ⟨13, q2 post H⟩
  · left
    have key : ∀ d i : Nat, i + d = b → (∀ post : Int32 → Prop, post 1 → wX_canGoOn_2 post rc cc sl nw no ops o1 o2 o3 sz st pr pc rg wk jn sd br io cp cl hd ct wt wc rr ab dx ox (d + 1) (nI i)) ∧ (∀ post : Int32 → Prop, post 0 → wY_isIdle_2 post cc sl nw no ss yy ops o1 o2 o3 sz st pr pc rg wk sp cp cl hd ct ab dy ly (d + 1) (nI i)) := by
      intro d
      induction d with
      | zero =>
        intro i hi
        have e : i = b := by omega
        subst e
        have hx : vp_in (nI i) 12 := vp_in_nI (by omega) (by omega)
        have n12 : ¬ (12 : Int32) ≤ nI i := nI_ge (b := 12) (by omega) (by decide)
        have ac : fd_ac (st (nI i).toNatClampNeg) := by rw [nI_clamp (by omega)]; exact hb1
        exact ⟨fun post H => fd_X_c1 hx n12 ac H, fun post H => fd_Y_c1 hx n12 ac H⟩
      | succ d ih =>
        intro i hi
        have hx : vp_in (nI i) 12 := vp_in_nI (by omega) (by omega)
        have n12 : ¬ (12 : Int32) ≤ nI i := nI_ge (b := 12) (by omega) (by decide)
        have na : ¬ fd_ac (st (nI i).toNatClampNeg) := by rw [nI_clamp (by omega)]; exact hb2 i (by omega)
        obtain ⟨q1, q2⟩ := ih (i + 1) (by omega)
        exact ⟨fun post H => fd_X_cs hx n12 na (by rw [nI_1]; exact q1 post H), fun post H => fd_Y_cs hx n12 na (by rw [nI_1]; exact q2 post H)⟩
    obtain ⟨q1, q2⟩ := key b 0 (Nat.zero_add b)
    refine ⟨b, trivial, fun post H => ?_, fun post H => ?_⟩
    · unfold wpX_canGoOn; exact ⟨b + 1, q1 post H⟩
    · unfold wpY_isIdle; exact ⟨b + 1, q2 post H⟩
end
theorem fd_ticks {n : Nat} (hn : n ≤ 2000) : ∀ (d i B s : Nat) (x2 : Int32) (rc cc sl nw no : Int32) (ops o1 o2 o3 sz st pr pc rg wk jn sd br io cp cl hd ct wt wc rr ab dx ox : Nat → Int32) (ss : Int64) (yy : Int32) (sp : Nat → Int64) (dy ly : Nat → Int32), i + d = n → s + 1000 * d < 2 ^ 62 → B + 3 * d < 2 ^ 30 → fd_K B s 3 rc cc sl nw no ops o1 o2 o3 sz st pr pc rg wk jn sd br io cp cl hd ct wt wc rr ab dx ox ss yy sp dy ly → ∃ (r : Int32) (u' : SX) (v' : SY), (∀ post : Int32 → SX → Prop, post r u' → wX_run_28 post (nI n) (d + 1) x2 (nI i) rc cc sl nw no ops o1 o2 o3 sz st pr pc rg wk jn sd br io cp cl hd ct wt wc rr ab dx ox) ∧ (∀ post : Int32 → SY → Prop, post r v' → wY_run_28 post (nI n) (d + 1) x2 (nI i) cc sl nw no ss yy ops o1 o2 o3 sz st pr pc rg wk sp cp cl hd ct ab dy ly) ∧ fd_RR (B + 3 * d) (s + 1000 * d) u' v' := by
  intro d
  induction d with
  | zero =>
    intro i B s x2 rc cc sl nw no ops o1 o2 o3 sz st pr pc rg wk jn sd br io cp cl hd ct wt wc rr ab dx ox ss yy sp dy ly hi hs hB h
    have le : nI n ≤ nI i := nI_le (by omega) (by omega)
    exact ⟨x2, (rc, cc, sl, nw, no, ops, o1, o2, o3, sz, st, pr, pc, rg, wk, jn, sd, br, io, cp, cl, hd, ct, wt, wc, rr, ab, dx, ox), (cc, sl, nw, no, ss, yy, ops, o1, o2, o3, sz, st, pr, pc, rg, wk, sp, cp, cl, hd, ct, ab, dy, ly), fun post H => br_t le H, fun post H => br_t le H, ⟨rc, cc, sl, nw, no, ops, o1, o2, o3, sz, st, pr, pc, rg, wk, jn, sd, br, io, cp, cl, hd, ct, wt, wc, rr, ab, dx, ox, ss, yy, sp, dy, ly, rfl, rfl, h⟩⟩
  | succ d ih =>
    intro i B s x2 rc cc sl nw no ops o1 o2 o3 sz st pr pc rg wk jn sd br io cp cl hd ct wt wc rr ab dx ox ss yy sp dy ly hi hs hB h
    have le : ¬ nI n ≤ nI i := nI_ge (by omega) (by omega)
    rcases fd_cgo (rc := rc) (cc := cc) (sl := sl) (nw := nw) (no := no) (ops := ops) (o1 := o1) (o2 := o2) (o3 := o3) (sz := sz) (st := st) (pr := pr) (pc := pc) (rg := rg) (wk := wk) (jn := jn) (sd := sd) (br := br) (io := io) (cp := cp) (cl := cl) (hd := hd) (ct := ct) (wt := wt) (wc := wc) (rr := rr) (ab := ab) (dx := dx) (ox := ox) (ss := ss) (yy := yy) (sp := sp) (dy := dy) (ly := ly) with ⟨_, _, c1, c2⟩ | ⟨c1, c2⟩
    · have h0 : fd_K B s 3 rc cc sl (nw + 1) no ops o1 o2 o3 sz st pr pc rg wk jn sd br io cp cl hd ct wt wc rr ab dx ox ss yy sp dy ly := h
      obtain ⟨u1, v1, w1, w2, ⟨rc', cc', sl', nw', no', ops', o1', o2', o3', sz', st', pr', pc', rg', wk', jn', sd', br', io', cp', cl', hd', ct', wt', wc', rr', ab', dx', ox', ss', yy', sp', dy', ly', rfl, rfl, K1⟩⟩ := fd_wake 12 0 B s _ _ _ _ _ _ _ _ _ _ _ _ _ _ _ _ _ _ _ _ _ _ _ _ _ _ _ _ _ _ _ _ _ _ rfl (by omega) h0
      obtain ⟨q, u2, v2, g1, g2, ⟨rc'', cc'', sl'', nw'', no'', ops'', o1'', o2'', o3'', sz'', st'', pr'', pc'', rg'', wk'', jn'', sd'', br'', io'', cp'', cl'', hd'', ct'', wt'', wc'', rr'', ab'', dx'', ox'', ss'', yy'', sp'', dy'', ly'', rfl, rfl, K2⟩⟩ := fd_cars 3 0 B (s + 12) _ _ _ _ _ _ _ _ _ _ _ _ _ _ _ _ _ _ _ _ _ _ _ _ _ _ _ _ _ _ _ _ _ _ rfl (by omega) (by omega) K1
      obtain ⟨r, u3, v3, f1, f2, ⟨rc''', cc''', sl''', nw''', no''', ops''', o1''', o2''', o3''', sz''', st''', pr''', pc''', rg''', wk''', jn''', sd''', br''', io''', cp''', cl''', hd''', ct''', wt''', wc''', rr''', ab''', dx''', ox''', ss''', yy''', sp''', dy''', ly''', e1, e2, K3⟩⟩ := ih (i + 1) (B + 3) (s + 12 + 201 * 3) (x2 + q) _ _ _ _ _ _ _ _ _ _ _ _ _ _ _ _ _ _ _ _ _ _ _ _ _ _ _ _ _ _ _ _ _ _ (by omega) (by omega) (by omega) K2
      refine ⟨r, u3, v3, fun post H => br_f le (c1 _ (br_f (by decide) (nm_e ?_))), fun post H => br_f le (c2 _ (br_t rfl ?_)), ⟨rc''', cc''', sl''', nw''', no''', ops''', o1''', o2''', o3''', sz''', st''', pr''', pc''', rg''', wk''', jn''', sd''', br''', io''', cp''', cl''', hd''', ct''', wt''', wc''', rr''', ab''', dx''', ox''', ss''', yy''', sp''', dy''', ly''', e1, e2, fd_K_m K3 (by omega) (by omega)⟩⟩
      · unfold wpX_wakeSleepers
        refine ⟨13, w1 _ ⟨4, g1 post (nI n) (nI i) x2 (d + 1) ?_⟩⟩
        rw [nI_1]
        exact f1 post H
      · unfold wpY_tick
        refine nm_e ⟨13, w2 _ 0 ⟨4, g2 _ 0 ?_⟩⟩
        rw [Int32.zero_add]
        exact nm_e (nm_r (nI_1 i) (f2 post H))
    · exact ⟨x2, (rc, cc, sl, nw, no, ops, o1, o2, o3, sz, st, pr, pc, rg, wk, jn, sd, br, io, cp, cl, hd, ct, wt, wc, rr, ab, dx, ox), (cc, sl, nw, no, ss, yy, ops, o1, o2, o3, sz, st, pr, pc, rg, wk, sp, cp, cl, hd, ct, ab, dy, ly), fun post H => br_f le (c1 _ (br_t rfl H)), fun post H => br_f le (c2 _ (br_f (by decide) H)), ⟨rc, cc, sl, nw, no, ops, o1, o2, o3, sz, st, pr, pc, rg, wk, jn, sd, br, io, cp, cl, hd, ct, wt, wc, rr, ab, dx, ox, ss, yy, sp, dy, ly, rfl, rfl, fd_K_m h (by omega) (by omega)⟩⟩
end
section
theorem fd_Y_wi1 {x : Int32} {post : Int32 → Prop} {m : Nat} (hm : m < 2 ^ 31) (h1 : vp_in x m → post 1) (h0 : ¬ vp_in x m → post 0) : wpY_within post x 0 (nI m - 1) := by
  cases m with
  | zero =>
    have nv : ¬ vp_in x 0 := fun z => absurd (fd_lt z) (Nat.not_lt_zero _)
    have e : nI 0 - 1 = -1 := by decide
    rw [e]
    refine And.intro (fun _ => h0 nv) (fun q => ⟨fun _ => h0 nv, fun q' => absurd ?_ q'⟩)
    obtain ⟨j, hj, rfl⟩ := nI_of q
    exact Int32.lt_of_lt_of_le (by decide : (-1 : Int32) < 0) (nI_pos' hj)
  | succ m =>
    rw [nI_pred]
    exact fd_Y_wi m hm rfl h1 h0
theorem fd_RR_m {B B' s s' : Nat} {u : SX} {v : SY} (h : fd_RR B s u v) (hB : B ≤ B') (hs : s ≤ s') : fd_RR B' s' u v := by
  obtain ⟨rc, cc, sl, nw, no, ops, o1, o2, o3, sz, st, pr, pc, rg, wk, jn, sd, br, io, cp, cl, hd, ct, wt, wc, rr, ab, dx, ox, ss, yy, sp, dy, ly, e1, e2, K⟩ := h
  exact ⟨rc, cc, sl, nw, no, ops, o1, o2, o3, sz, st, pr, pc, rg, wk, jn, sd, br, io, cp, cl, hd, ct, wt, wc, rr, ab, dx, ox, ss, yy, sp, dy, ly, e1, e2, fd_K_m K hB hs⟩
theorem fd_Rel_RR {B s : Nat} {W0 : Int32 → Nat → Prop} {st0 pc0 ab0 : Nat → Int32} {yy0 : Int32} {u : SX} {v : SY} (h : fd_Rel B s 3 W0 st0 pc0 ab0 yy0 u v) : fd_RR B s u v := by
  obtain ⟨rc, cc, sl, nw, no, ops, o1, o2, o3, sz, st, pr, pc, rg, wk, jn, sd, br, io, cp, cl, hd, ct, wt, wc, rr, ab, dx, ox, ss, yy, sp, dy, ly, e1, e2, K, _⟩ := h
  exact ⟨rc, cc, sl, nw, no, ops, o1, o2, o3, sz, st, pr, pc, rg, wk, jn, sd, br, io, cp, cl, hd, ct, wt, wc, rr, ab, dx, ox, ss, yy, sp, dy, ly, e1, e2, K⟩
def fd_ai (c : Nat) : Nat → Int32 := fun j => if j < c then -1 else 0
theorem fd_ai_0 : fd_ai 0 = fun _ => 0 := by
  funext j
  exact if_neg (Nat.not_lt_zero j)
theorem fd_ai_s (c : Nat) : upd (fd_ai c) c (-1) = fd_ai (c + 1) := by
  funext j
  unfold fd_ai upd
  by_cases e : j = c
  · rw [if_pos e, if_pos (by omega)]
  · rw [if_neg e]
    dsimp only
    by_cases l : j < c
    · rw [if_pos l, if_pos (by omega)]
    · rw [if_neg l, if_neg (by omega)]
section
variable {rc cc sl nw no : Int32} {ops o1 o2 o3 sz st pr pc rg wk jn sd br io cp cl hd ct wt wc rr ab dx ox : Nat → Int32} {ss : Int64} {yy : Int32} {sp : Nat → Int64} {dy ly : Nat → Int32} {B s : Nat}
theorem fd_X_il {post : SX → Prop} (H : post (rc, cc, sl, nw, no, ops, o1, o2, o3, sz, st, pr, pc, rg, wk, jn, sd, br, io, cp, cl, hd, ct, wt, wc, rr, fd_ai 3, dx, ox)) : ∀ d c : Nat, c + d = 3 → wX_init_235 post rc cc sl nw no (d + 1) (nI c) ops o1 o2 o3 sz st pr pc rg wk jn sd br io cp cl hd ct wt wc rr (fd_ai c) dx ox := by
  intro d
  induction d with
  | zero =>
    intro c hc
    have e : c = 3 := by omega
    subst e
    exact br_t (by decide) H
  | succ d ih =>
    intro c hc
    exact br_f (nI_ge (b := 3) (by omega) (by decide)) ⟨vp_in_nI (by omega) (by omega), nm_r (by rw [nI_clamp (by omega)]; exact fd_ai_s c) (nm_r (nI_1 c) (ih (c + 1) (by omega)))⟩
theorem fd_Y_il {post : SY → Prop} (H : post (cc, sl, nw, no, ss, yy, ops, o1, o2, o3, sz, st, pr, pc, rg, wk, sp, cp, cl, hd, ct, fd_ai 3, dy, ly)) : ∀ d c : Nat, c + d = 3 → wY_init_173 post cc sl nw no ss yy (d + 1) (nI c) ops o1 o2 o3 sz st pr pc rg wk sp cp cl hd ct (fd_ai c) dy ly := by
  intro d
  induction d with
  | zero =>
    intro c hc
    have e : c = 3 := by omega
    subst e
    exact br_t (by decide) H
  | succ d ih =>
    intro c hc
    exact br_f (nI_ge (b := 3) (by omega) (by decide)) ⟨vp_in_nI (by omega) (by omega), nm_r (by rw [nI_clamp (by omega)]; exact fd_ai_s c) (nm_r (nI_1 c) (ih (c + 1) (by omega)))⟩
end
def fd_z : Nat → Int32 := fun _ => 0
theorem fd_K_0 {cc : Int32} {n : Nat} (h1 : 1 ≤ n) (h3 : n ≤ 3) (e : cc = nI n) (B s : Nat) : fd_K B s 3 0 cc 4 0 0 fd_z fd_z fd_z fd_z fd_z fd_z fd_z fd_z fd_z fd_z fd_z fd_z fd_z fd_z fd_z fd_z fd_z fd_z fd_z fd_z fd_z (fd_ai 3) fd_z fd_z 0 0 (fun _ => 0) fd_z fd_z := by
  have z : ∀ f, fd_z f = 0 := fun _ => rfl
  refine ⟨fun p hp => ⟨fd_0in (by omega), fun i hi => absurd hi ?_⟩, fun f hf => fd_F_o ?_, ⟨[], ⟨fun f => ⟨fun m => absurd m List.not_mem_nil, fun m => absurd m.2 ?_⟩, List.Pairwise.nil⟩, fun i hi => absurd hi (Nat.not_lt_zero i), rfl⟩, fun y hy => ⟨[], ⟨fun f => ⟨fun m => absurd m List.not_mem_nil, fun m => absurd m.2.1 ?_⟩, List.Pairwise.nil⟩, fun i hi => absurd hi (Nat.not_lt_zero i), rfl⟩, ⟨by decide, ?_, fun f hf => Int64.le_refl _⟩, fun y hy => ⟨fd_0in (by omega), fd_0in (by omega)⟩, ⟨0, Nat.zero_le _, rfl, fun i _ hi => absurd hi (Nat.not_lt_zero i)⟩, ⟨n, h1, h3, e⟩, fun k hk => Or.inl (if_pos hk), fun i j hi hj q n1 => absurd (if_pos hi) n1⟩
  · rw [z, show (0 : Int32).toNatClampNeg = 0 from by decide]; exact Nat.not_lt_zero i
  · rw [z]; decide
  · show ¬ fd_z f = 1
    rw [z]; decide
  · rw [z]; decide
  · have : (0 : Int64).toInt = 0 := by decide
    rw [this]; omega
theorem fd_init (B s : Nat) (k0 : Int32) : ∃ u v, (∀ post : SX → Prop, post u → wpX_init post k0) ∧ (∀ post : SY → Prop, post v → wpY_init post k0) ∧ fd_RR B s u v := by
  have key : ∀ (cc : Int32) (n : Nat), 1 ≤ n → n ≤ 3 → cc = nI n → (∀ post : SX → Prop, (∃ m, wX_init_235 post 0 cc 4 0 0 m 0 fd_z fd_z fd_z fd_z fd_z fd_z fd_z fd_z fd_z fd_z fd_z fd_z fd_z fd_z fd_z fd_z fd_z fd_z fd_z fd_z fd_z fd_z fd_z fd_z) → wpX_init post k0) → (∀ post : SY → Prop, (∃ m, wY_init_173 post cc 4 0 0 0 0 m 0 fd_z fd_z fd_z fd_z fd_z fd_z fd_z fd_z fd_z fd_z (fun _ => 0) fd_z fd_z fd_z fd_z fd_z fd_z fd_z) → wpY_init post k0) → ∃ u v, (∀ post : SX → Prop, post u → wpX_init post k0) ∧ (∀ post : SY → Prop, post v → wpY_init post k0) ∧ fd_RR B s u v := by
    intro cc n n1 n3 e hX hY
    refine ⟨_, _, fun post H => hX post ⟨4, ?_⟩, fun post H => hY post ⟨4, ?_⟩, ⟨_, _, _, _, _, _, _, _, _, _, _, _, _, _, _, _, _, _, _, _, _, _, _, _, _, _, _, _, _, _, _, _, _, _, rfl, rfl, fd_K_0 n1 n3 e B s⟩⟩
    · have q := fd_X_il H 3 0 rfl
      rw [fd_ai_0] at q
      exact q
    · have q := fd_Y_il H 3 0 rfl
      rw [fd_ai_0] at q
      exact q
  by_cases h1 : 1 ≤ k0
  · by_cases h3 : k0 ≤ 3
    · have n0 : ¬ k0 < 0 := fun z => absurd (Int32.lt_of_lt_of_le z (by decide : (0 : Int32) ≤ 1)) (Int32.not_lt.mpr h1)
      obtain ⟨j, hj, rfl⟩ := nI_of2 (M := 3) (n := 3) (by decide) n0 h3
      have j1 : 1 ≤ j := by
        have q : nI 1 ≤ nI j := h1
        rw [nI_leI (by omega) (by omega)] at q
        exact q
      exact key _ j j1 hj rfl (fun post H => br_t h1 (br_t h3 H)) (fun post H => br_t h1 (br_t h3 H))
    · exact key 3 3 (by omega) (by omega) rfl (fun post H => br_t h1 (br_f h3 H)) (fun post H => br_t h1 (br_f h3 H))
  · exact key 1 1 (by omega) (by omega) rfl (fun post H => br_f h1 H) (fun post H => br_f h1 H)
section
variable {rc cc sl nw no : Int32} {ops o1 o2 o3 sz st pr pc rg wk jn sd br io cp cl hd ct wt wc rr ab dx ox : Nat → Int32} {ss : Int64} {yy : Int32} {sp : Nat → Int64} {dy ly : Nat → Int32} {B s : Nat}
theorem fd_slice {n : Int32} (h : fd_K B s 3 rc cc sl nw no ops o1 o2 o3 sz st pr pc rg wk jn sd br io cp cl hd ct wt wc rr ab dx ox ss yy sp dy ly) : ∃ r u' v', (∀ post : Int32 → SX → Prop, post r u' → wpX_slice post (rc, cc, sl, nw, no, ops, o1, o2, o3, sz, st, pr, pc, rg, wk, jn, sd, br, io, cp, cl, hd, ct, wt, wc, rr, ab, dx, ox) n) ∧ (∀ post : Int32 → SY → Prop, post r v' → wpY_slice post (cc, sl, nw, no, ss, yy, ops, o1, o2, o3, sz, st, pr, pc, rg, wk, sp, cp, cl, hd, ct, ab, dy, ly) n) ∧ fd_RR B s u' v' := by
  by_cases h1 : n < 1
  · refine ⟨0, (rc, cc, sl, nw, no, ops, o1, o2, o3, sz, st, pr, pc, rg, wk, jn, sd, br, io, cp, cl, hd, ct, wt, wc, rr, ab, dx, ox), (cc, sl, nw, no, ss, yy, ops, o1, o2, o3, sz, st, pr, pc, rg, wk, sp, cp, cl, hd, ct, ab, dy, ly), fun post H => br_t h1 H, fun post H => ?_, ⟨rc, cc, sl, nw, no, ops, o1, o2, o3, sz, st, pr, pc, rg, wk, jn, sd, br, io, cp, cl, hd, ct, wt, wc, rr, ab, dx, ox, ss, yy, sp, dy, ly, rfl, rfl, h⟩⟩
    unfold wpY_slice
    exact br_t h1 (br_t rfl H)
  · by_cases h8 : n ≤ 8
    · have h' : fd_K B s 3 rc cc n nw no ops o1 o2 o3 sz st pr pc rg wk jn sd br io cp cl hd ct wt wc rr ab dx ox ss yy sp dy ly := h
      refine ⟨1, (rc, cc, n, nw, no, ops, o1, o2, o3, sz, st, pr, pc, rg, wk, jn, sd, br, io, cp, cl, hd, ct, wt, wc, rr, ab, dx, ox), (cc, n, nw, no, ss, yy, ops, o1, o2, o3, sz, st, pr, pc, rg, wk, sp, cp, cl, hd, ct, ab, dy, ly), fun post H => br_f h1 (br_t h8 H), fun post H => ?_, ⟨rc, cc, _, nw, no, ops, o1, o2, o3, sz, st, pr, pc, rg, wk, jn, sd, br, io, cp, cl, hd, ct, wt, wc, rr, ab, dx, ox, ss, yy, sp, dy, ly, rfl, rfl, h'⟩⟩
      unfold wpY_slice
      exact br_f h1 (br_f (Int32.not_lt.mpr h8) (br_f (by decide) H))
    · refine ⟨0, (rc, cc, sl, nw, no, ops, o1, o2, o3, sz, st, pr, pc, rg, wk, jn, sd, br, io, cp, cl, hd, ct, wt, wc, rr, ab, dx, ox), (cc, sl, nw, no, ss, yy, ops, o1, o2, o3, sz, st, pr, pc, rg, wk, sp, cp, cl, hd, ct, ab, dy, ly), fun post H => br_f h1 (br_f h8 H), fun post H => ?_, ⟨rc, cc, sl, nw, no, ops, o1, o2, o3, sz, st, pr, pc, rg, wk, jn, sd, br, io, cp, cl, hd, ct, wt, wc, rr, ab, dx, ox, ss, yy, sp, dy, ly, rfl, rfl, h⟩⟩
      unfold wpY_slice
      exact br_f h1 (br_t (Int32.not_le.mp h8) (br_t rfl H))
theorem fd_channel {c p : Int32} (h : fd_K B s 3 rc cc sl nw no ops o1 o2 o3 sz st pr pc rg wk jn sd br io cp cl hd ct wt wc rr ab dx ox ss yy sp dy ly) : ∃ r u' v', (∀ post : Int32 → SX → Prop, post r u' → wpX_channel post (rc, cc, sl, nw, no, ops, o1, o2, o3, sz, st, pr, pc, rg, wk, jn, sd, br, io, cp, cl, hd, ct, wt, wc, rr, ab, dx, ox) c p) ∧ (∀ post : Int32 → SY → Prop, post r v' → wpY_channel post (cc, sl, nw, no, ss, yy, ops, o1, o2, o3, sz, st, pr, pc, rg, wk, sp, cp, cl, hd, ct, ab, dy, ly) c p) ∧ fd_RR B s u' v' := by
  rcases Classical.em (vp_in c 4) with hc | hc
  · rcases Classical.em (vp_in p 4) with hp | hp
    · have p0 : ¬ p < 0 := fd_nn hp
      have p3 : ¬ 3 < p := ((fd_wi (n := 3) (by omega)).mp hp).2
      obtain ⟨L, hQ, hH, ec⟩ := h.2.2.2.1 c hc
      obtain ⟨r, g1, g2⟩ := fd_Y_first (cc := cc) (sl := sl) (nw := nw) (no := no) (ss := ss) (yy := yy) (sz := sz) (wk := wk) (cp := cp) (cl := cl) (hd := hd) (ct := ct) (ab := ab) (dy := dy) (ly := ly) (y := c) (sp := sp) h.2.1 fd_kdT
      cases L with
      | nil =>
        have er : r = -1 := by
          by_cases e : r = -1
          · exact e
          · have q := fd_M_yes g1 e
            exact absurd ((hQ.1 _).mpr ⟨fd_lt q.1, q.2.1⟩) List.not_mem_nil
        have hC' : fd_C (upd cp c.toNatClampNeg p) (upd ct c.toNatClampNeg 0) := fun y hy => by
          have q := h.2.2.2.2.2.1 y hy
          by_cases e : y.toNatClampNeg = c.toNatClampNeg
          · rw [e, pk_us, pk_us]; exact ⟨hp, fd_0in (by omega)⟩
          · rw [pk_un e, pk_un e]; exact q
        have K1 : fd_K B s 3 rc cc sl nw no ops o1 o2 o3 sz st pr pc rg wk jn sd br io (upd cp c.toNatClampNeg p) (upd cl c.toNatClampNeg (vp_nar .boolean 0)) hd (upd ct c.toNatClampNeg 0) wt wc rr ab dx ox ss yy sp dy ly := ⟨h.1, h.2.1, h.2.2.1, h.2.2.2.1, h.2.2.2.2.1, hC', h.2.2.2.2.2.2⟩
        refine ⟨1, _, _, fun post H => ?_, fun post H => ?_, ⟨rc, cc, sl, nw, no, ops, o1, o2, o3, sz, st, pr, pc, rg, wk, jn, sd, br, io, _, _, hd, _, wt, wc, rr, ab, dx, ox, ss, yy, sp, dy, ly, rfl, rfl, K1⟩⟩
        · unfold wpX_channel
          exact fd_X_bl 4 (by omega) rfl (fun _ => br_f (by decide) (br_f p0 (br_f p3 ⟨hc, br_t (by rw [ec]; decide) ⟨hc, nm_e ⟨hc, nm_e ⟨hc, nm_e H⟩⟩⟩⟩))) (fun z => absurd hc z)
        · unfold wpY_channel
          exact fd_Y_wi 3 (by omega) rfl (fun _ => br_f (by decide) (fd_Y_wi 3 (by omega) rfl (fun _ => br_f (by decide) (g2 _ (br_t (by rw [er]; decide) ⟨hc, nm_e ⟨hc, nm_e ⟨hc, nm_e H⟩⟩⟩))) (fun z => absurd hp z))) (fun z => absurd hc z)
      | cons a l =>
        have hl := fd_Q_len hQ
        have l1 : (a :: l).length = l.length + 1 := rfl
        have ma := (hQ.1 a).mp List.mem_cons_self
        have er : ¬ r = -1 := fun e => fd_M_no g1 e a ma.1 ⟨ma.2, trivial⟩
        have er' : ¬ r < 0 := fun z => er ((fd_M_neg g1).mp z)
        refine ⟨0, (rc, cc, sl, nw, no, ops, o1, o2, o3, sz, st, pr, pc, rg, wk, jn, sd, br, io, cp, cl, hd, ct, wt, wc, rr, ab, dx, ox), (cc, sl, nw, no, ss, yy, ops, o1, o2, o3, sz, st, pr, pc, rg, wk, sp, cp, cl, hd, ct, ab, dy, ly), fun post H => ?_, fun post H => ?_, ⟨rc, cc, sl, nw, no, ops, o1, o2, o3, sz, st, pr, pc, rg, wk, jn, sd, br, io, cp, cl, hd, ct, wt, wc, rr, ab, dx, ox, ss, yy, sp, dy, ly, rfl, rfl, h⟩⟩
        · unfold wpX_channel
          exact fd_X_bl 4 (by omega) rfl (fun _ => br_f (by decide) (br_f p0 (br_f p3 ⟨hc, br_f (by rw [ec]; exact nI_nle (by omega) (by omega)) H⟩))) (fun z => absurd hc z)
        · unfold wpY_channel
          exact fd_Y_wi 3 (by omega) rfl (fun _ => br_f (by decide) (fd_Y_wi 3 (by omega) rfl (fun _ => br_f (by decide) (g2 _ (br_f er' H))) (fun z => absurd hp z))) (fun z => absurd hc z)
    · refine ⟨0, (rc, cc, sl, nw, no, ops, o1, o2, o3, sz, st, pr, pc, rg, wk, jn, sd, br, io, cp, cl, hd, ct, wt, wc, rr, ab, dx, ox), (cc, sl, nw, no, ss, yy, ops, o1, o2, o3, sz, st, pr, pc, rg, wk, sp, cp, cl, hd, ct, ab, dy, ly), fun post H => ?_, fun post H => ?_, ⟨rc, cc, sl, nw, no, ops, o1, o2, o3, sz, st, pr, pc, rg, wk, jn, sd, br, io, cp, cl, hd, ct, wt, wc, rr, ab, dx, ox, ss, yy, sp, dy, ly, rfl, rfl, h⟩⟩
      · unfold wpX_channel
        refine fd_X_bl 4 (by omega) rfl (fun _ => br_f (by decide) (br_c (fun _ => H) (fun p0 => br_c (fun _ => H) (fun p3 => absurd ((fd_wi (n := 3) (by omega)).mpr ⟨p0, p3⟩) hp)))) (fun z => absurd hc z)
      · unfold wpY_channel
        exact fd_Y_wi 3 (by omega) rfl (fun _ => br_f (by decide) (fd_Y_wi 3 (by omega) rfl (fun z => absurd z hp) (fun _ => br_t rfl H))) (fun z => absurd hc z)
  · refine ⟨0, (rc, cc, sl, nw, no, ops, o1, o2, o3, sz, st, pr, pc, rg, wk, jn, sd, br, io, cp, cl, hd, ct, wt, wc, rr, ab, dx, ox), (cc, sl, nw, no, ss, yy, ops, o1, o2, o3, sz, st, pr, pc, rg, wk, sp, cp, cl, hd, ct, ab, dy, ly), fun post H => ?_, fun post H => ?_, ⟨rc, cc, sl, nw, no, ops, o1, o2, o3, sz, st, pr, pc, rg, wk, jn, sd, br, io, cp, cl, hd, ct, wt, wc, rr, ab, dx, ox, ss, yy, sp, dy, ly, rfl, rfl, h⟩⟩
    · unfold wpX_channel
      exact fd_X_bl 4 (by omega) rfl (fun z => absurd z hc) (fun _ => br_t rfl H)
    · unfold wpY_channel
      exact fd_Y_wi 3 (by omega) rfl (fun z => absurd z hc) (fun _ => br_t rfl H)
theorem fd_start {p v : Int32} (hs : s < 2 ^ 62) (h : fd_K B s 3 rc cc sl nw no ops o1 o2 o3 sz st pr pc rg wk jn sd br io cp cl hd ct wt wc rr ab dx ox ss yy sp dy ly) : ∃ r u' v', (∀ post : Int32 → SX → Prop, post r u' → wpX_start post (rc, cc, sl, nw, no, ops, o1, o2, o3, sz, st, pr, pc, rg, wk, jn, sd, br, io, cp, cl, hd, ct, wt, wc, rr, ab, dx, ox) p v) ∧ (∀ post : Int32 → SY → Prop, post r v' → wpY_start post (cc, sl, nw, no, ss, yy, ops, o1, o2, o3, sz, st, pr, pc, rg, wk, sp, cp, cl, hd, ct, ab, dy, ly) p v) ∧ fd_RR B (s + 1) u' v' := by
  rcases Classical.em (vp_in p 6) with hp | hp
  · obtain ⟨r, u', v', h1, h2, ⟨rc', cc', sl', nw', no', ops', o1', o2', o3', sz', st', pr', pc', rg', wk', jn', sd', br', io', cp', cl', hd', ct', wt', wc', rr', ab', dx', ox', ss', yy', sp', dy', ly', rfl, rfl, K, _⟩⟩ := fd_launch (v := v) hp hs h
    refine ⟨r, _, _, fun post H => ?_, h2, ⟨rc', cc', sl', nw', no', ops', o1', o2', o3', sz', st', pr', pc', rg', wk', jn', sd', br', io', cp', cl', hd', ct', wt', wc', rr', ab', dx', ox', ss', yy', sp', dy', ly', rfl, rfl, K⟩⟩
    unfold wpX_start
    exact fd_X_bl 6 (by omega) rfl (fun _ => br_f (by decide) (h1 _ H)) (fun z => absurd hp z)
  · refine ⟨-1, (rc, cc, sl, nw, no, ops, o1, o2, o3, sz, st, pr, pc, rg, wk, jn, sd, br, io, cp, cl, hd, ct, wt, wc, rr, ab, dx, ox), (cc, sl, nw, no, ss, yy, ops, o1, o2, o3, sz, st, pr, pc, rg, wk, sp, cp, cl, hd, ct, ab, dy, ly), fun post H => ?_, fun post H => ?_, ⟨rc, cc, sl, nw, no, ops, o1, o2, o3, sz, st, pr, pc, rg, wk, jn, sd, br, io, cp, cl, hd, ct, wt, wc, rr, ab, dx, ox, ss, yy, sp, dy, ly, rfl, rfl, fd_K_m h (Nat.le_refl B) (by omega)⟩⟩
    · unfold wpX_start
      exact fd_X_bl 6 (by omega) rfl (fun z => absurd z hp) (fun _ => br_t rfl H)
    · unfold wpY_start
      rcases fd_rm st with ha | ⟨b, hb, hn, ha⟩
      · refine ⟨13, fd_Y_rl ha ?_ 12 0 rfl⟩
        exact fd_Y_wi 5 (by omega) rfl (fun z => absurd z hp) (fun _ => br_t rfl H)
      · refine ⟨b + 1, fd_Y_rlb hb hn ha ?_ b 0 (Nat.zero_add b)⟩
        exact fd_Y_wi 5 (by omega) rfl (fun z => absurd z hp) (fun _ => br_t rfl H)
theorem fd_runs {n : Int32} (hs : s + 2000000 < 2 ^ 62) (hB : B + 6000 < 2 ^ 30) (h : fd_K B s 3 rc cc sl nw no ops o1 o2 o3 sz st pr pc rg wk jn sd br io cp cl hd ct wt wc rr ab dx ox ss yy sp dy ly) : ∃ r u' v', (∀ post : Int32 → SX → Prop, post r u' → wpX_run post (rc, cc, sl, nw, no, ops, o1, o2, o3, sz, st, pr, pc, rg, wk, jn, sd, br, io, cp, cl, hd, ct, wt, wc, rr, ab, dx, ox) n) ∧ (∀ post : Int32 → SY → Prop, post r v' → wpY_run post (cc, sl, nw, no, ss, yy, ops, o1, o2, o3, sz, st, pr, pc, rg, wk, sp, cp, cl, hd, ct, ab, dy, ly) n) ∧ fd_RR (B + 6000) (s + 2000000) u' v' := by
  have R0 : fd_RR (B + 6000) (s + 2000000) (rc, cc, sl, nw, no, ops, o1, o2, o3, sz, st, pr, pc, rg, wk, jn, sd, br, io, cp, cl, hd, ct, wt, wc, rr, ab, dx, ox) (cc, sl, nw, no, ss, yy, ops, o1, o2, o3, sz, st, pr, pc, rg, wk, sp, cp, cl, hd, ct, ab, dy, ly) := ⟨rc, cc, sl, nw, no, ops, o1, o2, o3, sz, st, pr, pc, rg, wk, jn, sd, br, io, cp, cl, hd, ct, wt, wc, rr, ab, dx, ox, ss, yy, sp, dy, ly, rfl, rfl, fd_K_m h (by omega) (by omega)⟩
  rcases Classical.em (vp_in n 2001) with hn | hn
  · have n0 : ¬ n < 0 := fd_nn hn
    have n1 : ¬ 2000 < n := ((fd_wi (n := 2000) (by omega)).mp hn).2
    by_cases le : nw ≤ 100000000 - n
    · obtain ⟨j, hj, rfl⟩ := vp_in_of hn (by omega)
      obtain ⟨r, u', v', h1, h2, h3⟩ := fd_ticks (n := j) (by omega) j 0 B s 0 rc cc sl nw no ops o1 o2 o3 sz st pr pc rg wk jn sd br io cp cl hd ct wt wc rr ab dx ox ss yy sp dy ly (Nat.zero_add j) (by omega) (by omega) h
      refine ⟨r, u', v', fun post H => br_f n0 (br_f n1 (br_t le ⟨_, h1 post H⟩)), fun post H => ?_, fd_RR_m h3 (by omega) (by omega)⟩
      unfold wpY_run
      exact fd_Y_wi 2000 (by omega) rfl (fun _ => br_f (by decide) (br_t le ⟨_, h2 post H⟩)) (fun z => absurd hn z)
    · refine ⟨-1, (rc, cc, sl, nw, no, ops, o1, o2, o3, sz, st, pr, pc, rg, wk, jn, sd, br, io, cp, cl, hd, ct, wt, wc, rr, ab, dx, ox), (cc, sl, nw, no, ss, yy, ops, o1, o2, o3, sz, st, pr, pc, rg, wk, sp, cp, cl, hd, ct, ab, dy, ly), fun post H => br_f n0 (br_f n1 (br_f le H)), fun post H => ?_, R0⟩
      unfold wpY_run
      exact fd_Y_wi 2000 (by omega) rfl (fun _ => br_f (by decide) (br_f le H)) (fun z => absurd hn z)
  · refine ⟨-1, (rc, cc, sl, nw, no, ops, o1, o2, o3, sz, st, pr, pc, rg, wk, jn, sd, br, io, cp, cl, hd, ct, wt, wc, rr, ab, dx, ox), (cc, sl, nw, no, ss, yy, ops, o1, o2, o3, sz, st, pr, pc, rg, wk, sp, cp, cl, hd, ct, ab, dy, ly), fun post H => br_c (fun _ => H) (fun n0 => br_c (fun _ => H) (fun n1 => absurd ((fd_wi (n := 2000) (by omega)).mpr ⟨n0, n1⟩) hn)), fun post H => ?_, R0⟩
    unfold wpY_run
    exact fd_Y_wi 2000 (by omega) rfl (fun z => absurd z hn) (fun _ => br_t rfl H)
end
end
section
def fd_rk (L : List Nat) (k r : Int32) : Prop := (k = -1 ∧ r = nI L.length) ∨ (∃ j, ∃ hj : j < L.length, k = nI j ∧ r = nI (L[j]'hj)) ∨ (¬ k = -1 ∧ (∀ j, j < L.length → ¬ k = nI j) ∧ r = -1)
theorem fd_rk_ex (L : List Nat) (k : Int32) : ∃ r, fd_rk L k r := by
  by_cases h : k = -1
  · exact ⟨_, Or.inl ⟨h, rfl⟩⟩
  · rcases Classical.em (∃ j, ∃ _ : j < L.length, k = nI j) with ⟨j, hj, e⟩ | n
    · exact ⟨_, Or.inr (Or.inl ⟨j, hj, e, rfl⟩)⟩
    · exact ⟨_, Or.inr (Or.inr ⟨h, fun j hj e => n ⟨j, hj, e⟩, rfl⟩)⟩
theorem fd_rk_at {L : List Nat} {k r : Int32} (h : fd_rk L k r) (hl : L.length ≤ 12) {j : Nat} (hj : j < L.length) (e : nI j = k) : r = nI (L[j]'hj) := by
  rcases h with ⟨h, _⟩ | ⟨i, hi, h, q⟩ | ⟨_, h, _⟩
  · exact absurd (e.trans h) (fd_m1 (vp_in_nI hj (by omega)))
  · have : i = j := (nI_eq (by omega) (by omega)).mp (h.symm.trans e.symm)
    subst this
    exact q
  · exact absurd e.symm (h j hj)
theorem fd_rk_end {L : List Nat} {k r : Int32} (h : fd_rk L k r) (hn : ∀ j, j < L.length → ¬ nI j = k) : (k = -1 → r = nI L.length) ∧ (¬ k = -1 → r = -1) := by
  rcases h with ⟨h, q⟩ | ⟨i, hi, h, q⟩ | ⟨n, h, q⟩
  · exact ⟨fun _ => q, fun z => absurd h z⟩
  · exact absurd h.symm (hn i hi)
  · exact ⟨fun z => absurd z n, fun _ => q⟩
theorem fd_cnt_all {L : List Nat} (hL : ∀ g, g ∈ L → g < 12) (q : Nat → Bool) : L.countP (fun g => decide (g < 12) && q g) = L.countP q := by
  refine List.countP_congr (fun g hg => ?_)
  rw [decide_eq_true (hL g hg), Bool.true_and]
theorem fd_cnt_0 {L : List Nat} (q : Nat → Bool) : L.countP (fun g => decide (g < 0) && q g) = 0 := by
  refine List.countP_eq_zero.mpr (fun g hg => ?_)
  rw [decide_eq_false (Nat.not_lt_zero g), Bool.false_and]
  exact Bool.false_ne_true
section
variable {rc cc sl nw no : Int32} {ops o1 o2 o3 sz st pr pc rg wk jn sd br io cp cl hd ct wt wc rr ab dx ox : Nat → Int32} {ss : Int64} {yy : Int32} {sp : Nat → Int64} {dy ly : Nat → Int32} {B s k0 : Nat}
theorem fd_Y_ri {L : List Nat} (hQ : fd_Q (fun g => st g = 1) sp L) {f : Nat} (hf : f < 12) {k x2 : Int32} {post : Int32 → Prop} {J : Int32 → Int32 → Prop} (H1 : nI (L.countP (fun g => decide (sp g < sp f))) = k → post (nI f)) (H2 : ¬ nI (L.countP (fun g => decide (sp g < sp f))) = k → J (x2 + 1) (nI f + 1)) : ∀ d i : Nat, i + d = 12 → wY_row_29 post J k x2 (nI f) cc sl nw no ss yy ops o1 o2 o3 sz st pr pc rg wk sp cp cl hd ct ab dy ly (d + 1) (nI (L.countP (fun g => decide (g < i) && decide (sp g < sp f)))) (nI i) := by
  have hL : ∀ g, g ∈ L → g < 12 := fun g hg => ((hQ.1 g).mp hg).1
  intro d
  induction d with
  | zero =>
    intro i hi
    have e : i = 12 := by omega
    subst e
    rw [fd_cnt_all hL]
    exact br_t (by decide) (br_c H1 (fun n => nm_e (nm_e (H2 n))))
  | succ d ih =>
    intro i hi
    have ei : (nI i).toNatClampNeg = i := nI_clamp (by omega)
    have ef : (nI f).toNatClampNeg = f := nI_clamp (by omega)
    have hx : vp_in (nI i) 12 := vp_in_nI (by omega) (by omega)
    have hf' : vp_in (nI f) 12 := vp_in_nI hf (by omega)
    have n12 : ¬ (12 : Int32) ≤ nI i := nI_ge (b := 12) (by omega) (by decide)
    have hc := fd_cnt (fd_Q_nd hQ) (fun g => decide (sp g < sp f)) i
    have IH := ih (i + 1) (by omega)
    by_cases w : st i = 1
    · by_cases z : sp f ≤ sp i
      · have e : ¬ (i ∈ L ∧ decide (sp i < sp f) = true) := fun q => absurd (of_decide_eq_true q.2) (Int64.not_lt.mpr z)
        rw [if_neg e, Nat.add_zero] at hc
        rw [hc] at IH
        exact br_f n12 ⟨hx, br_t (by rw [ei]; exact w) ⟨hx, hf', br_t (by rw [ei, ef]; exact z) (nm_r (nI_1 i) IH)⟩⟩
      · have e : i ∈ L ∧ decide (sp i < sp f) = true := ⟨(hQ.1 i).mpr ⟨by omega, w⟩, decide_eq_true (Int64.not_le.mp z)⟩
        rw [if_pos e] at hc
        rw [hc] at IH
        exact br_f n12 ⟨hx, br_t (by rw [ei]; exact w) ⟨hx, hf', br_f (by rw [ei, ef]; exact z) (nm_r (nI_1 _) (nm_r (nI_1 i) IH))⟩⟩
    · have e : ¬ (i ∈ L ∧ decide (sp i < sp f) = true) := fun q => w ((hQ.1 i).mp q.1).2
      rw [if_neg e, Nat.add_zero] at hc
      rw [hc] at IH
      exact br_f n12 ⟨hx, br_f (by rw [ei]; exact w) (nm_r (nI_1 i) IH)⟩
theorem fd_Y_ro {L : List Nat} (hQ : fd_Q (fun g => st g = 1) sp L) {k r : Int32} (hr : fd_rk L k r) {post : Int32 → Prop} (H : post r) : ∀ d i : Nat, i + d = 12 → (∀ j, (hj : j < L.length) → L[j]'hj < i → ¬ nI j = k) → wY_row_4 post k cc sl nw no ss yy ops o1 o2 o3 sz st pr pc rg wk sp cp cl hd ct ab dy ly (d + 1) (nI (L.countP (fun g => decide (g < i) && true))) (nI i) := by
  have hL : ∀ g, g ∈ L → g < 12 := fun g hg => ((hQ.1 g).mp hg).1
  have hl := fd_Q_len hQ
  intro d
  induction d with
  | zero =>
    intro i hi hn
    have e : i = 12 := by omega
    subst e
    have q := fd_rk_end hr (fun j hj => hn j hj (hL _ (List.getElem_mem hj)))
    rw [fd_cnt_all hL (fun _ => true), List.countP_true]
    exact br_t (by decide) (br_c (fun z => by rw [← q.1 z]; exact H) (fun z => by rw [← q.2 z]; exact H))
  | succ d ih =>
    intro i hi hn
    have ei : (nI i).toNatClampNeg = i := nI_clamp (by omega)
    have hx : vp_in (nI i) 12 := vp_in_nI (by omega) (by omega)
    have n12 : ¬ (12 : Int32) ≤ nI i := nI_ge (b := 12) (by omega) (by decide)
    have hc := fd_cnt (fd_Q_nd hQ) (fun _ => true) i
    by_cases w : st i = 1
    · have mi := (hQ.1 i).mpr ⟨by omega, w⟩
      obtain ⟨j, hj, ej⟩ := List.getElem_of_mem mi
      have rk := fd_rank hQ.2 j hj
      rw [ej] at rk
      rw [if_pos ⟨mi, rfl⟩] at hc
      have q := fd_Y_ri (cc := cc) (sl := sl) (nw := nw) (no := no) (ss := ss) (yy := yy) (ops := ops) (o1 := o1) (o2 := o2) (o3 := o3) (sz := sz) (pr := pr) (pc := pc) (rg := rg) (wk := wk) (cp := cp) (cl := cl) (hd := hd) (ct := ct) (ab := ab) (dy := dy) (ly := ly) hQ (f := i) (k := k) (x2 := nI (L.countP (fun g => decide (g < i) && true))) (post := post) (J := wY_row_4 post k cc sl nw no ss yy ops o1 o2 o3 sz st pr pc rg wk sp cp cl hd ct ab dy ly (d + 1)) (by omega) (fun e => by
          rw [rk] at e
          have er := fd_rk_at hr hl hj e
          rw [ej] at er
          rw [← er]; exact H) (fun n => by
          rw [rk] at n
          rw [nI_1, nI_1, ← hc]
          exact ih (i + 1) (by omega) (fun j' hj' lt => by
            by_cases e : L[j']'hj' = i
            · have : j' = j := by
                have p := List.pairwise_iff_getElem.mp hQ.2
                rcases Nat.lt_trichotomy j' j with l | l | l
                · have := p j' j hj' hj l
                  rw [e, ej] at this
                  exact absurd this Int64.lt_irrefl
                · exact l
                · have := p j j' hj hj' l
                  rw [e, ej] at this
                  exact absurd this Int64.lt_irrefl
              subst this
              exact n
            · exact hn j' hj' (by omega))) 12 0 rfl
      rw [fd_cnt_0] at q
      exact br_f n12 ⟨hx, br_t (by rw [ei]; exact w) ⟨13, q⟩⟩
    · have ni : ¬ i ∈ L := fun m => w ((hQ.1 i).mp m).2
      rw [if_neg (fun q => ni q.1), Nat.add_zero] at hc
      have IH := ih (i + 1) (by omega) (fun j' hj' lt => hn j' hj' (by
        have : L[j']'hj' ≠ i := fun e => ni (e ▸ List.getElem_mem hj')
        omega))
      rw [hc] at IH
      exact br_f n12 ⟨hx, br_f (by rw [ei]; exact w) (nm_r (nI_1 i) IH)⟩
theorem fd_row {k : Int32} (h : fd_K B s k0 rc cc sl nw no ops o1 o2 o3 sz st pr pc rg wk jn sd br io cp cl hd ct wt wc rr ab dx ox ss yy sp dy ly) : ∃ r, (∀ post : Int32 → Prop, post r → wpX_row post (rc, cc, sl, nw, no, ops, o1, o2, o3, sz, st, pr, pc, rg, wk, jn, sd, br, io, cp, cl, hd, ct, wt, wc, rr, ab, dx, ox) k) ∧ (∀ post : Int32 → Prop, post r → wpY_row post (cc, sl, nw, no, ss, yy, ops, o1, o2, o3, sz, st, pr, pc, rg, wk, sp, cp, cl, hd, ct, ab, dy, ly) k) := by
  obtain ⟨L, hQ, hH, ec⟩ := h.2.2.1
  have hl := fd_Q_len hQ
  obtain ⟨r, hr⟩ := fd_rk_ex L k
  refine ⟨r, fun post H => ?_, fun post H => ?_⟩
  · rcases hr with ⟨h1, q⟩ | ⟨j, hj, h1, q⟩ | ⟨n, h1, q⟩
    · exact br_t h1 (by rw [ec, ← q]; exact H)
    · have hk : vp_in k L.length := by rw [h1]; exact vp_in_nI hj (by omega)
      refine br_f (fd_m1 hk) (fd_X_bl L.length (by omega) ec (fun _ => br_f (by decide) ⟨fd_mono hk hl, ?_⟩) (fun z => absurd hk z))
      have e := hH j hj
      rw [Nat.zero_add] at e
      rw [h1, nI_clamp (by omega), e, ← q]; exact H
    · refine br_f n (fd_X_bl L.length (by omega) ec (fun z => ?_) (fun _ => br_t rfl (by rw [← q]; exact H)))
      obtain ⟨j, hj, e⟩ := vp_in_of z (by omega)
      exact absurd e (h1 j hj)
  · unfold wpY_row
    have q := fd_Y_ro (cc := cc) (sl := sl) (nw := nw) (no := no) (ss := ss) (yy := yy) (ops := ops) (o1 := o1) (o2 := o2) (o3 := o3) (sz := sz) (pr := pr) (pc := pc) (rg := rg) (wk := wk) (cp := cp) (cl := cl) (hd := hd) (ct := ct) (ab := ab) (dy := dy) (ly := ly) hQ hr H 12 0 rfl (fun j hj l => absurd l (Nat.not_lt_zero _))
    rw [fd_cnt_0] at q
    exact ⟨13, q⟩
theorem fd_Y_qi {L : List Nat} {c : Int32} (hF : ∀ g, g < 12 → fd_F ops o1 o2 o3 st pr pc rg jn sd br io g) (hQ : fd_Q (fd_wa ops o1 o2 st pr pc c) sp L) {f : Nat} (hf : f < 12) {k x2 : Int32} {post : Int32 → Prop} {J : Int32 → Int32 → Prop} (H1 : nI (L.countP (fun g => decide (sp g < sp f))) = k → post (nI f)) (H2 : ¬ nI (L.countP (fun g => decide (sp g < sp f))) = k → J (x2 + 1) (nI f + 1)) : ∀ d i : Nat, i + d = 12 → wY_waits_42 post J c k x2 (nI f) cc sl nw no ss yy ops o1 o2 o3 sz st pr pc rg wk sp cp cl hd ct ab dy ly (d + 1) (nI (L.countP (fun g => decide (g < i) && decide (sp g < sp f)))) (nI i) := by
  have hL : ∀ g, g ∈ L → g < 12 := fun g hg => ((hQ.1 g).mp hg).1
  intro d
  induction d with
  | zero =>
    intro i hi
    have e : i = 12 := by omega
    subst e
    rw [fd_cnt_all hL]
    exact br_t (by decide) (br_c H1 (fun n => nm_e (nm_e (H2 n))))
  | succ d ih =>
    intro i hi
    have ei : (nI i).toNatClampNeg = i := nI_clamp (by omega)
    have ef : (nI f).toNatClampNeg = f := nI_clamp (by omega)
    have hx : vp_in (nI i) 12 := vp_in_nI (by omega) (by omega)
    have hf' : vp_in (nI f) 12 := vp_in_nI hf (by omega)
    have n12 : ¬ (12 : Int32) ≤ nI i := nI_ge (b := 12) (by omega) (by decide)
    have hFi : fd_F ops o1 o2 o3 st pr pc rg jn sd br io (nI i).toNatClampNeg := by rw [ei]; exact hF i (by omega)
    have hc := fd_cnt (fd_Q_nd hQ) (fun g => decide (sp g < sp f)) i
    have IH := ih (i + 1) (by omega)
    rcases Classical.em (fd_wa ops o1 o2 st pr pc c i) with w | w
    · have w' : fd_wa ops o1 o2 st pr pc c (nI i).toNatClampNeg := by rw [ei]; exact w
      by_cases z : sp f ≤ sp i
      · have e : ¬ (i ∈ L ∧ decide (sp i < sp f) = true) := fun q => absurd (of_decide_eq_true q.2) (Int64.not_lt.mpr z)
        rw [if_neg e, Nat.add_zero] at hc
        rw [hc] at IH
        exact br_f n12 (fd_Y_wa hx hFi (fun _ => br_f (by decide) ⟨hx, hf', br_t (by rw [ei, ef]; exact z) (nm_r (nI_1 i) IH)⟩) (fun n => absurd w' n))
      · have e : i ∈ L ∧ decide (sp i < sp f) = true := ⟨(hQ.1 i).mpr ⟨by omega, w⟩, decide_eq_true (Int64.not_le.mp z)⟩
        rw [if_pos e] at hc
        rw [hc] at IH
        exact br_f n12 (fd_Y_wa hx hFi (fun _ => br_f (by decide) ⟨hx, hf', br_f (by rw [ei, ef]; exact z) (nm_r (nI_1 _) (nm_r (nI_1 i) IH))⟩) (fun n => absurd w' n))
    · have w' : ¬ fd_wa ops o1 o2 st pr pc c (nI i).toNatClampNeg := by rw [ei]; exact w
      have e : ¬ (i ∈ L ∧ decide (sp i < sp f) = true) := fun q => w ((hQ.1 i).mp q.1).2
      rw [if_neg e, Nat.add_zero] at hc
      rw [hc] at IH
      exact br_f n12 (fd_Y_wa hx hFi (fun n => absurd n w') (fun _ => br_t rfl (nm_r (nI_1 i) IH)))
theorem fd_Y_qo {L : List Nat} {c : Int32} (hF : ∀ g, g < 12 → fd_F ops o1 o2 o3 st pr pc rg jn sd br io g) (hQ : fd_Q (fd_wa ops o1 o2 st pr pc c) sp L) {k r : Int32} (hr : fd_rk L k r) {post : Int32 → Prop} (H : post r) : ∀ d i : Nat, i + d = 12 → (∀ j, (hj : j < L.length) → L[j]'hj < i → ¬ nI j = k) → wY_waits_16 post c k cc sl nw no ss yy ops o1 o2 o3 sz st pr pc rg wk sp cp cl hd ct ab dy ly (d + 1) (nI (L.countP (fun g => decide (g < i) && true))) (nI i) := by
  have hL : ∀ g, g ∈ L → g < 12 := fun g hg => ((hQ.1 g).mp hg).1
  have hl := fd_Q_len hQ
  intro d
  induction d with
  | zero =>
    intro i hi hn
    have e : i = 12 := by omega
    subst e
    have q := fd_rk_end hr (fun j hj => hn j hj (hL _ (List.getElem_mem hj)))
    rw [fd_cnt_all hL (fun _ => true), List.countP_true]
    exact br_t (by decide) (br_c (fun z => by rw [← q.1 z]; exact H) (fun z => by rw [← q.2 z]; exact H))
  | succ d ih =>
    intro i hi hn
    have ei : (nI i).toNatClampNeg = i := nI_clamp (by omega)
    have hx : vp_in (nI i) 12 := vp_in_nI (by omega) (by omega)
    have n12 : ¬ (12 : Int32) ≤ nI i := nI_ge (b := 12) (by omega) (by decide)
    have hFi : fd_F ops o1 o2 o3 st pr pc rg jn sd br io (nI i).toNatClampNeg := by rw [ei]; exact hF i (by omega)
    have hc := fd_cnt (fd_Q_nd hQ) (fun _ => true) i
    rcases Classical.em (fd_wa ops o1 o2 st pr pc c i) with w | w
    · have w' : fd_wa ops o1 o2 st pr pc c (nI i).toNatClampNeg := by rw [ei]; exact w
      have mi := (hQ.1 i).mpr ⟨by omega, w⟩
      obtain ⟨j, hj, ej⟩ := List.getElem_of_mem mi
      have rk := fd_rank hQ.2 j hj
      rw [ej] at rk
      rw [if_pos ⟨mi, rfl⟩] at hc
      have q := fd_Y_qi (cc := cc) (sl := sl) (nw := nw) (no := no) (ss := ss) (yy := yy) (sz := sz) (wk := wk) (cp := cp) (cl := cl) (hd := hd) (ct := ct) (ab := ab) (dy := dy) (ly := ly) hF hQ (f := i) (k := k) (x2 := nI (L.countP (fun g => decide (g < i) && true))) (post := post) (J := wY_waits_16 post c k cc sl nw no ss yy ops o1 o2 o3 sz st pr pc rg wk sp cp cl hd ct ab dy ly (d + 1)) (by omega) (fun e => by
          rw [rk] at e
          have er := fd_rk_at hr hl hj e
          rw [ej] at er
          rw [← er]; exact H) (fun n => by
          rw [rk] at n
          rw [nI_1, nI_1, ← hc]
          exact ih (i + 1) (by omega) (fun j' hj' lt => by
            by_cases e : L[j']'hj' = i
            · have : j' = j := by
                have p := List.pairwise_iff_getElem.mp hQ.2
                rcases Nat.lt_trichotomy j' j with l | l | l
                · have := p j' j hj' hj l
                  rw [e, ej] at this
                  exact absurd this Int64.lt_irrefl
                · exact l
                · have := p j j' hj hj' l
                  rw [e, ej] at this
                  exact absurd this Int64.lt_irrefl
              subst this
              exact n
            · exact hn j' hj' (by omega))) 12 0 rfl
      rw [fd_cnt_0] at q
      exact br_f n12 (fd_Y_wa hx hFi (fun _ => br_f (by decide) ⟨13, q⟩) (fun n => absurd w' n))
    · have w' : ¬ fd_wa ops o1 o2 st pr pc c (nI i).toNatClampNeg := by rw [ei]; exact w
      have ni : ¬ i ∈ L := fun m => w ((hQ.1 i).mp m).2
      rw [if_neg (fun q => ni q.1), Nat.add_zero] at hc
      have IH := ih (i + 1) (by omega) (fun j' hj' lt => hn j' hj' (by
        have : L[j']'hj' ≠ i := fun e => ni (e ▸ List.getElem_mem hj')
        omega))
      rw [hc] at IH
      exact br_f n12 (fd_Y_wa hx hFi (fun n => absurd n w') (fun _ => br_t rfl (nm_r (nI_1 i) IH)))
theorem fd_waits {c k : Int32} (h : fd_K B s k0 rc cc sl nw no ops o1 o2 o3 sz st pr pc rg wk jn sd br io cp cl hd ct wt wc rr ab dx ox ss yy sp dy ly) : ∃ r, (∀ post : Int32 → Prop, post r → wpX_waits post (rc, cc, sl, nw, no, ops, o1, o2, o3, sz, st, pr, pc, rg, wk, jn, sd, br, io, cp, cl, hd, ct, wt, wc, rr, ab, dx, ox) c k) ∧ (∀ post : Int32 → Prop, post r → wpY_waits post (cc, sl, nw, no, ss, yy, ops, o1, o2, o3, sz, st, pr, pc, rg, wk, sp, cp, cl, hd, ct, ab, dy, ly) c k) := by
  rcases Classical.em (vp_in c 4) with hc | hc
  · obtain ⟨L, hQ, hH, ec⟩ := h.2.2.2.1 c hc
    have hl := fd_Q_len hQ
    obtain ⟨r, hr⟩ := fd_rk_ex L k
    refine ⟨r, fun post H => ?_, fun post H => ?_⟩
    · unfold wpX_waits
      refine fd_X_bl 4 (by omega) rfl (fun _ => br_f (by decide) ?_) (fun z => absurd hc z)
      rcases hr with ⟨h1, q⟩ | ⟨j, hj, h1, q⟩ | ⟨n, h1, q⟩
      · exact br_t h1 ⟨hc, by rw [ec, ← q]; exact H⟩
      · have hk : vp_in k L.length := by rw [h1]; exact vp_in_nI hj (by omega)
        have ix := fd_c12 hc (fd_mono hk hl)
        refine br_f (fd_m1 hk) ⟨hc, fd_X_bl L.length (by omega) ec (fun _ => br_f (by decide) ⟨ix.1, ?_⟩) (fun z => absurd hk z)⟩
        have e := hH j hj
        rw [ix.2, h1, nI_clamp (by omega), e, ← q]; exact H
      · refine br_f n ⟨hc, fd_X_bl L.length (by omega) ec (fun z => ?_) (fun _ => br_t rfl (by rw [← q]; exact H))⟩
        obtain ⟨j, hj, e⟩ := vp_in_of z (by omega)
        exact absurd e (h1 j hj)
    · unfold wpY_waits
      have q := fd_Y_qo (cc := cc) (sl := sl) (nw := nw) (no := no) (ss := ss) (yy := yy) (sz := sz) (wk := wk) (cp := cp) (cl := cl) (hd := hd) (ct := ct) (ab := ab) (dy := dy) (ly := ly) h.2.1 hQ hr H 12 0 rfl (fun j hj l => absurd l (Nat.not_lt_zero _))
      rw [fd_cnt_0] at q
      exact fd_Y_wi 3 (by omega) rfl (fun _ => br_f (by decide) ⟨13, q⟩) (fun z => absurd hc z)
  · refine ⟨-1, fun post H => ?_, fun post H => ?_⟩
    · unfold wpX_waits
      exact fd_X_bl 4 (by omega) rfl (fun z => absurd z hc) (fun _ => br_t rfl H)
    · unfold wpY_waits
      exact fd_Y_wi 3 (by omega) rfl (fun z => absurd z hc) (fun _ => br_t rfl H)
theorem fd_state {f : Int32} : ∃ r, (∀ post : Int32 → Prop, post r → wpX_state post (rc, cc, sl, nw, no, ops, o1, o2, o3, sz, st, pr, pc, rg, wk, jn, sd, br, io, cp, cl, hd, ct, wt, wc, rr, ab, dx, ox) f) ∧ (∀ post : Int32 → Prop, post r → wpY_state post (cc, sl, nw, no, ss, yy, ops, o1, o2, o3, sz, st, pr, pc, rg, wk, sp, cp, cl, hd, ct, ab, dy, ly) f) := by
  rcases Classical.em (vp_in f 12) with hc | hc
  · refine ⟨st f.toNatClampNeg, fun post H => ?_, fun post H => ?_⟩
    · unfold wpX_state
      exact fd_X_bl 12 (by omega) rfl (fun _ => br_f (by decide) ⟨hc, H⟩) (fun z => absurd hc z)
    · unfold wpY_state
      exact fd_Y_wi 11 (by omega) rfl (fun _ => br_f (by decide) ⟨hc, H⟩) (fun z => absurd hc z)
  · refine ⟨-1, fun post H => ?_, fun post H => ?_⟩
    · unfold wpX_state
      exact fd_X_bl 12 (by omega) rfl (fun z => absurd z hc) (fun _ => br_t rfl H)
    · unfold wpY_state
      exact fd_Y_wi 11 (by omega) rfl (fun z => absurd z hc) (fun _ => br_t rfl H)
theorem fd_carrier {k : Int32} (h : fd_K B s k0 rc cc sl nw no ops o1 o2 o3 sz st pr pc rg wk jn sd br io cp cl hd ct wt wc rr ab dx ox ss yy sp dy ly) : ∃ r, (∀ post : Int32 → Prop, post r → wpX_carrier post (rc, cc, sl, nw, no, ops, o1, o2, o3, sz, st, pr, pc, rg, wk, jn, sd, br, io, cp, cl, hd, ct, wt, wc, rr, ab, dx, ox) k) ∧ (∀ post : Int32 → Prop, post r → wpY_carrier post (cc, sl, nw, no, ss, yy, ops, o1, o2, o3, sz, st, pr, pc, rg, wk, sp, cp, cl, hd, ct, ab, dy, ly) k) := by
  obtain ⟨n, n1, n3, e⟩ := h.2.2.2.2.2.2.2.1
  rcases Classical.em (vp_in k n) with hc | hc
  · have h3 := fd_mono hc n3
    refine ⟨ab k.toNatClampNeg, fun post H => ?_, fun post H => ?_⟩
    · unfold wpX_carrier
      exact fd_X_bl n (by omega) e (fun _ => br_f (by decide) ⟨h3, br_c (fun q => by rw [← q]; exact H) (fun _ => ⟨h3, H⟩)⟩) (fun z => absurd hc z)
    · unfold wpY_carrier
      show wpY_within _ k 0 (cc - 1)
      rw [e]
      exact fd_Y_wi1 (by omega) (fun _ => br_f (by decide) ⟨h3, H⟩) (fun z => absurd hc z)
  · refine ⟨-1, fun post H => ?_, fun post H => ?_⟩
    · unfold wpX_carrier
      exact fd_X_bl n (by omega) e (fun z => absurd z hc) (fun _ => br_t rfl H)
    · unfold wpY_carrier
      show wpY_within _ k 0 (cc - 1)
      rw [e]
      exact fd_Y_wi1 (by omega) (fun z => absurd z hc) (fun _ => br_t rfl H)
theorem fd_held {c k : Int32} (h : fd_K B s k0 rc cc sl nw no ops o1 o2 o3 sz st pr pc rg wk jn sd br io cp cl hd ct wt wc rr ab dx ox ss yy sp dy ly) : ∃ r, (∀ post : Int32 → Prop, post r → wpX_held post (rc, cc, sl, nw, no, ops, o1, o2, o3, sz, st, pr, pc, rg, wk, jn, sd, br, io, cp, cl, hd, ct, wt, wc, rr, ab, dx, ox) c k) ∧ (∀ post : Int32 → Prop, post r → wpY_held post (cc, sl, nw, no, ss, yy, ops, o1, o2, o3, sz, st, pr, pc, rg, wk, sp, cp, cl, hd, ct, ab, dy, ly) c k) := by
  rcases Classical.em (vp_in c 4) with hc | hc
  · have hC := (h.2.2.2.2.2.1 c hc).2
    have base : ∀ r : Int32, (∀ post : Int32 → Prop, post r → ((k = -1 → (vp_in c 4 ∧ post (ct c.toNatClampNeg))) ∧ (¬ k = -1 → ((k = -2 → (vp_in c 4 ∧ ((cl c.toNatClampNeg = 0 → (vp_in c 4 ∧ post (cp c.toNatClampNeg))) ∧ (¬ cl c.toNatClampNeg = 0 → (vp_in c 4 ∧ post (cp c.toNatClampNeg + 10)))))) ∧ (¬ k = -2 → (vp_in c 4 ∧ wpX_isBelow (fun r_6 => ((r_6 = 0 → post (-2)) ∧ (¬ r_6 = 0 → (vp_in (c * 3 + k) 12 ∧ post (hd (c * 3 + k).toNatClampNeg))))) k (ct c.toNatClampNeg))))))) → (∀ post : Int32 → Prop, post r → ((k = -1 → (vp_in c 4 ∧ post (ct c.toNatClampNeg))) ∧ (¬ k = -1 → ((k = -2 → (vp_in c 4 ∧ (vp_in c 4 ∧ ((cl c.toNatClampNeg = 0 → post (cp c.toNatClampNeg + 0)) ∧ (¬ cl c.toNatClampNeg = 0 → post (cp c.toNatClampNeg + 10)))))) ∧ (¬ k = -2 → (vp_in c 4 ∧ wpY_within (fun r_6 => ((r_6 = 0 → post (-2)) ∧ (¬ r_6 = 0 → (vp_in (3 * c + k) 12 ∧ post (hd (3 * c + k).toNatClampNeg))))) k 0 (ct c.toNatClampNeg - 1))))))) → ∃ r, (∀ post : Int32 → Prop, post r → wpX_held post (rc, cc, sl, nw, no, ops, o1, o2, o3, sz, st, pr, pc, rg, wk, jn, sd, br, io, cp, cl, hd, ct, wt, wc, rr, ab, dx, ox) c k) ∧ (∀ post : Int32 → Prop, post r → wpY_held post (cc, sl, nw, no, ss, yy, ops, o1, o2, o3, sz, st, pr, pc, rg, wk, sp, cp, cl, hd, ct, ab, dy, ly) c k) := by
      intro r hX hY
      refine ⟨r, fun post H => ?_, fun post H => ?_⟩
      · unfold wpX_held
        exact fd_X_bl 4 (by omega) rfl (fun _ => br_f (by decide) (hX post H)) (fun z => absurd hc z)
      · unfold wpY_held
        exact fd_Y_wi 3 (by omega) rfl (fun _ => br_f (by decide) (hY post H)) (fun z => absurd hc z)
    by_cases k1 : k = -1
    · exact base (ct c.toNatClampNeg) (fun post H => br_t k1 ⟨hc, H⟩) (fun post H => br_t k1 ⟨hc, H⟩)
    · by_cases k2 : k = -2
      · by_cases c0 : cl c.toNatClampNeg = 0
        · exact base (cp c.toNatClampNeg) (fun post H => br_f k1 (br_t k2 ⟨hc, br_t c0 ⟨hc, H⟩⟩)) (fun post H => br_f k1 (br_t k2 ⟨hc, hc, br_t c0 (by rw [Int32.add_zero]; exact H)⟩))
        · exact base (cp c.toNatClampNeg + 10) (fun post H => br_f k1 (br_t k2 ⟨hc, br_f c0 ⟨hc, H⟩⟩)) (fun post H => br_f k1 (br_t k2 ⟨hc, hc, br_f c0 H⟩))
      · obtain ⟨m, hm, em⟩ := vp_in_of hC (by omega)
        rw [em] at base
        rcases Classical.em (vp_in k m) with hk | hk
        · have i1 := fd_c3' hc (fd_mono hk (show m ≤ 3 by omega))
          have i2 := fd_c3 hc (fd_mono hk (show m ≤ 3 by omega))
          exact base (hd (3 * c.toNatClampNeg + k.toNatClampNeg)) (fun post H => br_f k1 (br_f k2 ⟨hc, fd_X_bl m (by omega) rfl (fun _ => br_f (by decide) ⟨i1.1, by rw [i1.2]; exact H⟩) (fun z => absurd hk z)⟩)) (fun post H => br_f k1 (br_f k2 ⟨hc, fd_Y_wi1 (by omega) (fun _ => br_f (by decide) ⟨i2.1, by rw [i2.2]; exact H⟩) (fun z => absurd hk z)⟩))
        · exact base (-2) (fun post H => br_f k1 (br_f k2 ⟨hc, fd_X_bl m (by omega) rfl (fun z => absurd z hk) (fun _ => br_t rfl H)⟩)) (fun post H => br_f k1 (br_f k2 ⟨hc, fd_Y_wi1 (by omega) (fun z => absurd z hk) (fun _ => br_t rfl H)⟩))
  · refine ⟨-2, fun post H => ?_, fun post H => ?_⟩
    · unfold wpX_held
      exact fd_X_bl 4 (by omega) rfl (fun z => absurd z hc) (fun _ => br_t rfl H)
    · unfold wpY_held
      exact fd_Y_wi 3 (by omega) rfl (fun z => absurd z hc) (fun _ => br_t rfl H)
theorem fd_out {k : Int32} (hB : B < 2 ^ 30) (h : fd_K B s k0 rc cc sl nw no ops o1 o2 o3 sz st pr pc rg wk jn sd br io cp cl hd ct wt wc rr ab dx ox ss yy sp dy ly) : ∃ r, (∀ post : Int32 → Prop, post r → wpX_out post (rc, cc, sl, nw, no, ops, o1, o2, o3, sz, st, pr, pc, rg, wk, jn, sd, br, io, cp, cl, hd, ct, wt, wc, rr, ab, dx, ox) k) ∧ (∀ post : Int32 → Prop, post r → wpY_out post (cc, sl, nw, no, ss, yy, ops, o1, o2, o3, sz, st, pr, pc, rg, wk, sp, cp, cl, hd, ct, ab, dy, ly) k) := by
  obtain ⟨n, hn, en, hO⟩ := h.2.2.2.2.2.2.1
  by_cases k1 : k = -1
  · exact ⟨no, fun post H => br_t k1 H, fun post H => br_t k1 H⟩
  · rcases Classical.em (vp_in k 16) with hk | hk
    · by_cases le : no ≤ k
      · exact ⟨0, fun post H => br_f k1 (fd_X_bl 16 (by omega) rfl (fun _ => br_f (by decide) (br_t le H)) (fun z => absurd hk z)), fun post H => br_f k1 (fd_Y_wi 15 (by omega) rfl (fun _ => br_f (by decide) (br_t le H)) (fun z => absurd hk z))⟩
      · obtain ⟨i, hi, rfl⟩ := vp_in_of hk (by omega)
        have lt : i < n := by
          rw [en, nI_leI (by omega) (by omega)] at le
          omega
        have e1 : no - 1 - nI i = nI (n - 1 - i) := by
          rw [en]
          have q : nI n - nI 1 = nI (n - 1) := pk_sub (by omega)
          have q' : nI n - 1 = nI (n - 1) := q
          rw [q', pk_sub (by omega)]
        have e2 : no - 1 - nI i - (no - 1 - nI i) / 16 * 16 = nI ((n - 1 - i) % 16) := by
          rw [e1]; exact pk_rem (d := 16) (by omega) (by omega) (by omega)
        refine ⟨ly i, fun post H => br_f k1 (fd_X_bl 16 (by omega) rfl (fun _ => br_f (by decide) (br_f le ⟨by decide, ?_⟩)) (fun z => absurd hk z)), fun post H => br_f k1 (fd_Y_wi 15 (by omega) rfl (fun _ => br_f (by decide) (br_f le ⟨hk, by rw [nI_clamp (by omega)]; exact H⟩)) (fun z => absurd hk z))⟩
        rw [e2, nI_clamp (by omega), hO i hi lt]
        exact ⟨vp_in_nI (Nat.mod_lt _ (by omega)) (by omega), H⟩
    · exact ⟨0, fun post H => br_f k1 (fd_X_bl 16 (by omega) rfl (fun z => absurd z hk) (fun _ => br_t rfl H)), fun post H => br_f k1 (fd_Y_wi 15 (by omega) rfl (fun z => absurd z hk) (fun _ => br_t rfl H))⟩
theorem fd_ofs {f w : Int32} : ∃ r, (∀ post : Int32 → Prop, post r → wpX_of post (rc, cc, sl, nw, no, ops, o1, o2, o3, sz, st, pr, pc, rg, wk, jn, sd, br, io, cp, cl, hd, ct, wt, wc, rr, ab, dx, ox) f w) ∧ (∀ post : Int32 → Prop, post r → wpY_of post (cc, sl, nw, no, ss, yy, ops, o1, o2, o3, sz, st, pr, pc, rg, wk, sp, cp, cl, hd, ct, ab, dy, ly) f w) := by
  rcases Classical.em (vp_in f 12) with hc | hc
  · by_cases s0 : st f.toNatClampNeg = 0
    · refine ⟨-1, fun post H => ?_, fun post H => ?_⟩
      · unfold wpX_of
        exact fd_X_bl 12 (by omega) rfl (fun _ => br_f (by decide) ⟨hc, br_t s0 H⟩) (fun z => absurd hc z)
      · unfold wpY_of
        exact fd_Y_wi 11 (by omega) rfl (fun _ => br_f (by decide) ⟨hc, br_t s0 H⟩) (fun z => absurd hc z)
    · rcases Classical.em (vp_in w 6) with hw | hw
      · have w0 := fd_nn hw
        have w5 : ¬ 5 < w := ((fd_wi (n := 5) (by omega)).mp hw).2
        rcases Classical.em (vp_in w 3) with h3 | h3
        · have i1 := fd_3' hc h3
          have i2 := fd_3 hc h3
          refine ⟨rg (3 * f.toNatClampNeg + w.toNatClampNeg), fun post H => ?_, fun post H => ?_⟩
          · unfold wpX_of
            exact fd_X_bl 12 (by omega) rfl (fun _ => br_f (by decide) ⟨hc, br_f s0 (fd_X_bl 3 (by omega) rfl (fun _ => br_f (by decide) ⟨i1.1, by rw [i1.2]; exact H⟩) (fun z => absurd h3 z))⟩) (fun z => absurd hc z)
          · unfold wpY_of
            have y60 : wY_of_60 post f w cc sl nw no ss yy ops o1 o2 o3 sz st pr pc rg wk sp cp cl hd ct ab dy ly := And.intro i2.1 (by rw [i2.2]; exact H)
            refine fd_Y_wi 11 (by omega) rfl (fun _ => br_f (by decide) ⟨hc, br_f s0 (br_f w0 (br_f w5 (br_c (fun _ => y60) (fun a0 => br_c (fun _ => y60) (fun a1 => br_c (fun _ => y60) (fun a2 => ?_))))))⟩) (fun z => absurd hc z)
            obtain ⟨j, hj, e⟩ := vp_in_of h3 (by omega)
            rcases (by omega : j = 0 ∨ j = 1 ∨ j = 2) with q | q | q <;> subst q
            · exact absurd e a0
            · exact absurd e a1
            · exact absurd e a2
        · have hX : ∀ post : Int32 → Prop, ((w = 3 → (vp_in f 12 ∧ post (pc f.toNatClampNeg))) ∧ (¬ w = 3 → ((w = 4 → (vp_in f 12 ∧ post (pr f.toNatClampNeg))) ∧ (¬ w = 4 → ((w = 5 → (vp_in f 12 ∧ ((st f.toNatClampNeg = 4 → (vp_in f 12 ∧ post (wk f.toNatClampNeg - nw))) ∧ (¬ st f.toNatClampNeg = 4 → post (-1))))) ∧ (¬ w = 5 → post (-1))))))) → wpX_of post (rc, cc, sl, nw, no, ops, o1, o2, o3, sz, st, pr, pc, rg, wk, jn, sd, br, io, cp, cl, hd, ct, wt, wc, rr, ab, dx, ox) f w := fun post H => by
            unfold wpX_of
            exact fd_X_bl 12 (by omega) rfl (fun _ => br_f (by decide) ⟨hc, br_f s0 (fd_X_bl 3 (by omega) rfl (fun z => absurd z h3) (fun _ => br_t rfl H))⟩) (fun z => absurd hc z)
          have n0 : ¬ w = 0 := fun e => h3 (by rw [e]; exact fd_0in (by omega))
          have n1 : ¬ w = 1 := fun e => h3 (by rw [e]; exact vp_in_nI (n := 1) (by omega) (by omega))
          have n2 : ¬ w = 2 := fun e => h3 (by rw [e]; exact vp_in_nI (n := 2) (by omega) (by omega))
          have hY : ∀ post : Int32 → Prop, ((w = 3 → (vp_in f 12 ∧ post (pc f.toNatClampNeg))) ∧ (¬ w = 3 → ((w = 4 → (vp_in f 12 ∧ post (pr f.toNatClampNeg))) ∧ (¬ w = 4 → ((w = 5 → (vp_in f 12 ∧ ((st f.toNatClampNeg = 4 → (vp_in f 12 ∧ post (wk f.toNatClampNeg - nw))) ∧ (¬ st f.toNatClampNeg = 4 → post (-1))))) ∧ (¬ w = 5 → True)))))) → wpY_of post (cc, sl, nw, no, ss, yy, ops, o1, o2, o3, sz, st, pr, pc, rg, wk, sp, cp, cl, hd, ct, ab, dy, ly) f w := fun post H => by
            unfold wpY_of
            exact fd_Y_wi 11 (by omega) rfl (fun _ => br_f (by decide) ⟨hc, br_f s0 (br_f w0 (br_f w5 (br_f n0 (br_f n1 (br_f n2 H)))))⟩) (fun z => absurd hc z)
          by_cases a3 : w = 3
          · exact ⟨pc f.toNatClampNeg, fun post H => hX post (br_t a3 ⟨hc, H⟩), fun post H => hY post (br_t a3 ⟨hc, H⟩)⟩
          · by_cases a4 : w = 4
            · exact ⟨pr f.toNatClampNeg, fun post H => hX post (br_f a3 (br_t a4 ⟨hc, H⟩)), fun post H => hY post (br_f a3 (br_t a4 ⟨hc, H⟩))⟩
            · have a5 : w = 5 := by
                obtain ⟨j, hj, e⟩ := vp_in_of hw (by omega)
                rcases (by omega : j = 0 ∨ j = 1 ∨ j = 2 ∨ j = 3 ∨ j = 4 ∨ j = 5) with q | q | q | q | q | q <;> subst q
                · exact absurd e n0
                · exact absurd e n1
                · exact absurd e n2
                · exact absurd e a3
                · exact absurd e a4
                · exact e
              by_cases s4 : st f.toNatClampNeg = 4
              · exact ⟨wk f.toNatClampNeg - nw, fun post H => hX post (br_f a3 (br_f a4 (br_t a5 ⟨hc, br_t s4 ⟨hc, H⟩⟩))), fun post H => hY post (br_f a3 (br_f a4 (br_t a5 ⟨hc, br_t s4 ⟨hc, H⟩⟩)))⟩
              · exact ⟨-1, fun post H => hX post (br_f a3 (br_f a4 (br_t a5 ⟨hc, br_f s4 H⟩))), fun post H => hY post (br_f a3 (br_f a4 (br_t a5 ⟨hc, br_f s4 H⟩)))⟩
      · have n3 : ¬ vp_in w 3 := fun z => hw (fd_mono z (by omega))
        have m3 : ¬ w = 3 := fun e => hw (by rw [e]; exact vp_in_nI (n := 3) (by omega) (by omega))
        have m4 : ¬ w = 4 := fun e => hw (by rw [e]; exact vp_in_nI (n := 4) (by omega) (by omega))
        have m5 : ¬ w = 5 := fun e => hw (by rw [e]; exact vp_in_nI (n := 5) (by omega) (by omega))
        refine ⟨-1, fun post H => ?_, fun post H => ?_⟩
        · unfold wpX_of
          exact fd_X_bl 12 (by omega) rfl (fun _ => br_f (by decide) ⟨hc, br_f s0 (fd_X_bl 3 (by omega) rfl (fun z => absurd z n3) (fun _ => br_t rfl (br_f m3 (br_f m4 (br_f m5 H)))))⟩) (fun z => absurd hc z)
        · unfold wpY_of
          exact fd_Y_wi 11 (by omega) rfl (fun _ => br_f (by decide) ⟨hc, br_f s0 (br_c (fun _ => H) (fun a0 => br_c (fun _ => H) (fun a5 => absurd ((fd_wi (n := 5) (by omega)).mpr ⟨a0, a5⟩) hw)))⟩) (fun z => absurd hc z)
  · refine ⟨-1, fun post H => ?_, fun post H => ?_⟩
    · unfold wpX_of
      exact fd_X_bl 12 (by omega) rfl (fun z => absurd z hc) (fun _ => br_t rfl H)
    · unfold wpY_of
      exact fd_Y_wi 11 (by omega) rfl (fun z => absurd z hc) (fun _ => br_t rfl H)
end
end
section
theorem fd_g0 {a b c : Int32} : fd_gd 0 a b c ↔ (vp_in a 3) := ⟨fun h => h.2.1 (Or.inl rfl), fun h => ⟨vp_in_nI (n := 0) (by omega) (by omega), fun _ => h, fun z => absurd z (by decide), fun z => absurd z (by decide), fun z => absurd z (by decide), fun z => absurd z (by decide), fun z => absurd z (by decide), fun z => absurd z (by decide), fun z => absurd z (by decide)⟩⟩
theorem fd_g1 {a b c : Int32} : fd_gd 1 a b c ↔ (vp_in a 3 ∧ vp_in b 3) := ⟨fun h => h.2.2.1 (Or.inl rfl), fun h => ⟨vp_in_nI (n := 1) (by omega) (by omega), fun z => absurd z (by decide), fun _ => h, fun z => absurd z (by decide), fun z => absurd z (by decide), fun z => absurd z (by decide), fun z => absurd z (by decide), fun z => absurd z (by decide), fun z => absurd z (by decide)⟩⟩
theorem fd_g2 {a b c : Int32} : fd_gd 2 a b c ↔ (vp_in a 13) := ⟨fun h => h.2.2.2.1 (rfl), fun h => ⟨vp_in_nI (n := 2) (by omega) (by omega), fun z => absurd z (by decide), fun z => absurd z (by decide), fun _ => h, fun z => absurd z (by decide), fun z => absurd z (by decide), fun z => absurd z (by decide), fun z => absurd z (by decide), fun z => absurd z (by decide)⟩⟩
theorem fd_g3 {a b c : Int32} : fd_gd 3 a b c ↔ (vp_in a 3 ∧ vp_in b 13) := ⟨fun h => h.2.2.2.2.1 (rfl), fun h => ⟨vp_in_nI (n := 3) (by omega) (by omega), fun z => absurd z (by decide), fun z => absurd z (by decide), fun z => absurd z (by decide), fun _ => h, fun z => absurd z (by decide), fun z => absurd z (by decide), fun z => absurd z (by decide), fun z => absurd z (by decide)⟩⟩
theorem fd_g4 {a b c : Int32} : fd_gd 4 a b c := ⟨vp_in_nI (n := 4) (by omega) (by omega), fun z => absurd z (by decide), fun z => absurd z (by decide), fun z => absurd z (by decide), fun z => absurd z (by decide), fun z => absurd z (by decide), fun z => absurd z (by decide), fun z => absurd z (by decide), fun z => absurd z (by decide)⟩
theorem fd_g5 {a b c : Int32} : fd_gd 5 a b c ↔ (vp_in a 3) := ⟨fun h => h.2.1 (Or.inr (Or.inl rfl)), fun h => ⟨vp_in_nI (n := 5) (by omega) (by omega), fun _ => h, fun z => absurd z (by decide), fun z => absurd z (by decide), fun z => absurd z (by decide), fun z => absurd z (by decide), fun z => absurd z (by decide), fun z => absurd z (by decide), fun z => absurd z (by decide)⟩⟩
theorem fd_g6 {a b c : Int32} : fd_gd 6 a b c ↔ (vp_in a 4 ∧ vp_in b 3) := ⟨fun h => h.2.2.2.2.2.1 (Or.inl rfl), fun h => ⟨vp_in_nI (n := 6) (by omega) (by omega), fun z => absurd z (by decide), fun z => absurd z (by decide), fun z => absurd z (by decide), fun z => absurd z (by decide), fun _ => h, fun z => absurd z (by decide), fun z => absurd z (by decide), fun z => absurd z (by decide)⟩⟩
theorem fd_g7 {a b c : Int32} : fd_gd 7 a b c ↔ (vp_in a 4 ∧ vp_in b 3) := ⟨fun h => h.2.2.2.2.2.1 (Or.inr rfl), fun h => ⟨vp_in_nI (n := 7) (by omega) (by omega), fun z => absurd z (by decide), fun z => absurd z (by decide), fun z => absurd z (by decide), fun z => absurd z (by decide), fun _ => h, fun z => absurd z (by decide), fun z => absurd z (by decide), fun z => absurd z (by decide)⟩⟩
theorem fd_g8 {a b c : Int32} : fd_gd 8 a b c ↔ (vp_in a 4 ∧ vp_in b 4 ∧ vp_in c 3) := ⟨fun h => h.2.2.2.2.2.2.1 (rfl), fun h => ⟨vp_in_nI (n := 8) (by omega) (by omega), fun z => absurd z (by decide), fun z => absurd z (by decide), fun z => absurd z (by decide), fun z => absurd z (by decide), fun z => absurd z (by decide), fun _ => h, fun z => absurd z (by decide), fun z => absurd z (by decide)⟩⟩
theorem fd_g9 {a b c : Int32} : fd_gd 9 a b c ↔ (vp_in a 6 ∧ vp_in b 3) := ⟨fun h => h.2.2.2.2.2.2.2.1 (rfl), fun h => ⟨vp_in_nI (n := 9) (by omega) (by omega), fun z => absurd z (by decide), fun z => absurd z (by decide), fun z => absurd z (by decide), fun z => absurd z (by decide), fun z => absurd z (by decide), fun z => absurd z (by decide), fun _ => h, fun z => absurd z (by decide)⟩⟩
theorem fd_g10 {a b c : Int32} : fd_gd 10 a b c ↔ (vp_in a 3 ∧ vp_in b 3) := ⟨fun h => h.2.2.1 (Or.inr rfl), fun h => ⟨vp_in_nI (n := 10) (by omega) (by omega), fun z => absurd z (by decide), fun _ => h, fun z => absurd z (by decide), fun z => absurd z (by decide), fun z => absurd z (by decide), fun z => absurd z (by decide), fun z => absurd z (by decide), fun z => absurd z (by decide)⟩⟩
theorem fd_g11 {a b c : Int32} : fd_gd 11 a b c ↔ (vp_in a 4) := ⟨fun h => h.2.2.2.2.2.2.2.2 (rfl), fun h => ⟨vp_in_nI (n := 11) (by omega) (by omega), fun z => absurd z (by decide), fun z => absurd z (by decide), fun z => absurd z (by decide), fun z => absurd z (by decide), fun z => absurd z (by decide), fun z => absurd z (by decide), fun z => absurd z (by decide), fun _ => h⟩⟩
theorem fd_g12 {a b c : Int32} : fd_gd 12 a b c ↔ (vp_in a 3) := ⟨fun h => h.2.1 (Or.inr (Or.inr rfl)), fun h => ⟨vp_in_nI (n := 12) (by omega) (by omega), fun _ => h, fun z => absurd z (by decide), fun z => absurd z (by decide), fun z => absurd z (by decide), fun z => absurd z (by decide), fun z => absurd z (by decide), fun z => absurd z (by decide), fun z => absurd z (by decide)⟩⟩
theorem fd_g13 {a b c : Int32} : fd_gd 13 a b c := ⟨vp_in_nI (n := 13) (by omega) (by omega), fun z => absurd z (by decide), fun z => absurd z (by decide), fun z => absurd z (by decide), fun z => absurd z (by decide), fun z => absurd z (by decide), fun z => absurd z (by decide), fun z => absurd z (by decide), fun z => absurd z (by decide)⟩
theorem fd_X_tg {x : Int32} {post : Int32 → Prop} (h1 : vp_in x 13 → post 1) (h0 : ¬ vp_in x 13 → post 0) : wpX_isTarget post x :=
  And.intro (fun q => h0 (fun z => fd_nn z q)) (fun q => ⟨fun q' => h0 (fun z => ((fd_wi (n := 12) (by omega)).mp z).2 q'), fun q' => h1 ((fd_wi (n := 12) (by omega)).mpr ⟨q, q'⟩)⟩)
theorem fd_Xg0 {post : Int32 → Prop} {a b c : Int32} (h1 : fd_gd 0 a b c → post 1) (h0 : ¬ fd_gd 0 a b c → post 0) : wpX_operandsFit post 0 a b c := br_f (by decide) (br_f (by decide) (br_t rfl (by unfold wX_operandsFit_68; exact fd_X_bl 3 (by omega) rfl (fun z0 => ⟨rfl, h1 (fd_g0.mpr z0)⟩) (fun z0 => ⟨rfl, h0 (fun q => z0 (fd_g0.mp q))⟩))))
theorem fd_Xg1 {post : Int32 → Prop} {a b c : Int32} (h1 : fd_gd 1 a b c → post 1) (h0 : ¬ fd_gd 1 a b c → post 0) : wpX_operandsFit post 1 a b c := br_f (by decide) (br_f (by decide) (br_f (by decide) (br_t rfl (by unfold wX_operandsFit_74; exact fd_X_bl 3 (by omega) rfl (fun z0 => br_f (by decide) (fd_X_bl 3 (by omega) rfl (fun z1 => br_f (by decide) (h1 (fd_g1.mpr ⟨z0, z1⟩))) (fun z1 => br_t rfl (h0 (fun q => z1 (fd_g1.mp q).2))))) (fun z0 => br_t rfl (h0 (fun q => z0 (fd_g1.mp q).1)))))))
theorem fd_Xg2 {post : Int32 → Prop} {a b c : Int32} (h1 : fd_gd 2 a b c → post 1) (h0 : ¬ fd_gd 2 a b c → post 0) : wpX_operandsFit post 2 a b c := br_f (by decide) (br_f (by decide) (br_f (by decide) (br_f (by decide) (br_t rfl (fd_X_tg (fun z0 => ⟨rfl, h1 (fd_g2.mpr z0)⟩) (fun z0 => ⟨rfl, h0 (fun q => z0 (fd_g2.mp q))⟩))))))
theorem fd_Xg3 {post : Int32 → Prop} {a b c : Int32} (h1 : fd_gd 3 a b c → post 1) (h0 : ¬ fd_gd 3 a b c → post 0) : wpX_operandsFit post 3 a b c := br_f (by decide) (br_f (by decide) (br_f (by decide) (br_f (by decide) (br_f (by decide) (br_t rfl (fd_X_bl 3 (by omega) rfl (fun z0 => br_f (by decide) (fd_X_tg (fun z1 => br_f (by decide) (h1 (fd_g3.mpr ⟨z0, z1⟩))) (fun z1 => br_t rfl (h0 (fun q => z1 (fd_g3.mp q).2))))) (fun z0 => br_t rfl (h0 (fun q => z0 (fd_g3.mp q).1)))))))))
theorem fd_Xg4 {post : Int32 → Prop} {a b c : Int32} (h1 : fd_gd 4 a b c → post 1) (h0 : ¬ fd_gd 4 a b c → post 0) : wpX_operandsFit post 4 a b c := br_f (by decide) (br_f (by decide) (br_f (by decide) (br_f (by decide) (br_f (by decide) (br_f (by decide) (br_t rfl (br_t rfl (h1 fd_g4))))))))
theorem fd_Xg5 {post : Int32 → Prop} {a b c : Int32} (h1 : fd_gd 5 a b c → post 1) (h0 : ¬ fd_gd 5 a b c → post 0) : wpX_operandsFit post 5 a b c := br_f (by decide) (br_f (by decide) (br_f (by decide) (br_f (by decide) (br_f (by decide) (br_f (by decide) (br_f (by decide) (br_t rfl (by unfold wX_operandsFit_68; exact fd_X_bl 3 (by omega) rfl (fun z0 => ⟨rfl, h1 (fd_g5.mpr z0)⟩) (fun z0 => ⟨rfl, h0 (fun q => z0 (fd_g5.mp q))⟩)))))))))
theorem fd_Xg6 {post : Int32 → Prop} {a b c : Int32} (h1 : fd_gd 6 a b c → post 1) (h0 : ¬ fd_gd 6 a b c → post 0) : wpX_operandsFit post 6 a b c := br_f (by decide) (br_f (by decide) (br_f (by decide) (br_f (by decide) (br_f (by decide) (br_f (by decide) (br_f (by decide) (br_f (by decide) (br_t rfl (by unfold wX_operandsFit_122; exact fd_X_bl 4 (by omega) rfl (fun z0 => br_f (by decide) (fd_X_bl 3 (by omega) rfl (fun z1 => br_f (by decide) (h1 (fd_g6.mpr ⟨z0, z1⟩))) (fun z1 => br_t rfl (h0 (fun q => z1 (fd_g6.mp q).2))))) (fun z0 => br_t rfl (h0 (fun q => z0 (fd_g6.mp q).1))))))))))))
theorem fd_Xg7 {post : Int32 → Prop} {a b c : Int32} (h1 : fd_gd 7 a b c → post 1) (h0 : ¬ fd_gd 7 a b c → post 0) : wpX_operandsFit post 7 a b c := br_f (by decide) (br_f (by decide) (br_f (by decide) (br_f (by decide) (br_f (by decide) (br_f (by decide) (br_f (by decide) (br_f (by decide) (br_f (by decide) (br_t rfl (by unfold wX_operandsFit_122; exact fd_X_bl 4 (by omega) rfl (fun z0 => br_f (by decide) (fd_X_bl 3 (by omega) rfl (fun z1 => br_f (by decide) (h1 (fd_g7.mpr ⟨z0, z1⟩))) (fun z1 => br_t rfl (h0 (fun q => z1 (fd_g7.mp q).2))))) (fun z0 => br_t rfl (h0 (fun q => z0 (fd_g7.mp q).1)))))))))))))
theorem fd_Xg8 {post : Int32 → Prop} {a b c : Int32} (h1 : fd_gd 8 a b c → post 1) (h0 : ¬ fd_gd 8 a b c → post 0) : wpX_operandsFit post 8 a b c := br_f (by decide) (br_f (by decide) (br_f (by decide) (br_f (by decide) (br_f (by decide) (br_f (by decide) (br_f (by decide) (br_f (by decide) (br_f (by decide) (br_f (by decide) (br_t rfl (fd_X_bl 4 (by omega) rfl (fun z0 => br_f (by decide) (fd_X_bl 4 (by omega) rfl (fun z1 => br_f (by decide) (fd_X_bl 3 (by omega) rfl (fun z2 => br_f (by decide) (h1 (fd_g8.mpr ⟨z0, z1, z2⟩))) (fun z2 => br_t rfl (h0 (fun q => z2 (fd_g8.mp q).2.2))))) (fun z1 => br_t rfl (h0 (fun q => z1 (fd_g8.mp q).2.1))))) (fun z0 => br_t rfl (h0 (fun q => z0 (fd_g8.mp q).1))))))))))))))
theorem fd_Xg9 {post : Int32 → Prop} {a b c : Int32} (h1 : fd_gd 9 a b c → post 1) (h0 : ¬ fd_gd 9 a b c → post 0) : wpX_operandsFit post 9 a b c := br_f (by decide) (br_f (by decide) (br_f (by decide) (br_f (by decide) (br_f (by decide) (br_f (by decide) (br_f (by decide) (br_f (by decide) (br_f (by decide) (br_f (by decide) (br_f (by decide) (br_t rfl (fd_X_bl 6 (by omega) rfl (fun z0 => br_f (by decide) (fd_X_bl 3 (by omega) rfl (fun z1 => br_f (by decide) (h1 (fd_g9.mpr ⟨z0, z1⟩))) (fun z1 => br_t rfl (h0 (fun q => z1 (fd_g9.mp q).2))))) (fun z0 => br_t rfl (h0 (fun q => z0 (fd_g9.mp q).1)))))))))))))))
theorem fd_Xg10 {post : Int32 → Prop} {a b c : Int32} (h1 : fd_gd 10 a b c → post 1) (h0 : ¬ fd_gd 10 a b c → post 0) : wpX_operandsFit post 10 a b c := br_f (by decide) (br_f (by decide) (br_f (by decide) (br_f (by decide) (br_f (by decide) (br_f (by decide) (br_f (by decide) (br_f (by decide) (br_f (by decide) (br_f (by decide) (br_f (by decide) (br_f (by decide) (br_t rfl (by unfold wX_operandsFit_74; exact fd_X_bl 3 (by omega) rfl (fun z0 => br_f (by decide) (fd_X_bl 3 (by omega) rfl (fun z1 => br_f (by decide) (h1 (fd_g10.mpr ⟨z0, z1⟩))) (fun z1 => br_t rfl (h0 (fun q => z1 (fd_g10.mp q).2))))) (fun z0 => br_t rfl (h0 (fun q => z0 (fd_g10.mp q).1))))))))))))))))
theorem fd_Xg11 {post : Int32 → Prop} {a b c : Int32} (h1 : fd_gd 11 a b c → post 1) (h0 : ¬ fd_gd 11 a b c → post 0) : wpX_operandsFit post 11 a b c := br_f (by decide) (br_f (by decide) (br_f (by decide) (br_f (by decide) (br_f (by decide) (br_f (by decide) (br_f (by decide) (br_f (by decide) (br_f (by decide) (br_f (by decide) (br_f (by decide) (br_f (by decide) (br_f (by decide) (br_t rfl (fd_X_bl 4 (by omega) rfl (fun z0 => ⟨rfl, h1 (fd_g11.mpr z0)⟩) (fun z0 => ⟨rfl, h0 (fun q => z0 (fd_g11.mp q))⟩)))))))))))))))
theorem fd_Xg12 {post : Int32 → Prop} {a b c : Int32} (h1 : fd_gd 12 a b c → post 1) (h0 : ¬ fd_gd 12 a b c → post 0) : wpX_operandsFit post 12 a b c := br_f (by decide) (br_f (by decide) (br_f (by decide) (br_f (by decide) (br_f (by decide) (br_f (by decide) (br_f (by decide) (br_f (by decide) (br_f (by decide) (br_f (by decide) (br_f (by decide) (br_f (by decide) (br_f (by decide) (br_f (by decide) (br_t rfl (by unfold wX_operandsFit_68; exact fd_X_bl 3 (by omega) rfl (fun z0 => ⟨rfl, h1 (fd_g12.mpr z0)⟩) (fun z0 => ⟨rfl, h0 (fun q => z0 (fd_g12.mp q))⟩))))))))))))))))
theorem fd_Xg13 {post : Int32 → Prop} {a b c : Int32} (h1 : fd_gd 13 a b c → post 1) (h0 : ¬ fd_gd 13 a b c → post 0) : wpX_operandsFit post 13 a b c := br_f (by decide) (br_t (by decide) (br_f (by decide) (br_t rfl (h1 fd_g13))))
theorem fd_Yg0 {post : Int32 → Prop} {a b c : Int32} (h1 : fd_gd 0 a b c → post 1) (h0 : ¬ fd_gd 0 a b c → post 0) : wpY_isGood post 0 a b c := br_f (by decide) (br_f (by decide) (br_t rfl (by unfold wY_isGood_72; exact fd_Y_wi 2 (by omega) rfl (fun z0 => ⟨rfl, h1 (fd_g0.mpr z0)⟩) (fun z0 => ⟨rfl, h0 (fun q => z0 (fd_g0.mp q))⟩))))
theorem fd_Yg1 {post : Int32 → Prop} {a b c : Int32} (h1 : fd_gd 1 a b c → post 1) (h0 : ¬ fd_gd 1 a b c → post 0) : wpY_isGood post 1 a b c := br_f (by decide) (br_f (by decide) (br_f (by decide) (br_t rfl (by unfold wY_isGood_79; exact fd_Y_wi 2 (by omega) rfl (fun z0 => br_f (by decide) (fd_Y_wi 2 (by omega) rfl (fun z1 => br_f (by decide) (h1 (fd_g1.mpr ⟨z0, z1⟩))) (fun z1 => br_t rfl (h0 (fun q => z1 (fd_g1.mp q).2))))) (fun z0 => br_t rfl (h0 (fun q => z0 (fd_g1.mp q).1)))))))
theorem fd_Yg2 {post : Int32 → Prop} {a b c : Int32} (h1 : fd_gd 2 a b c → post 1) (h0 : ¬ fd_gd 2 a b c → post 0) : wpY_isGood post 2 a b c := br_f (by decide) (br_f (by decide) (br_f (by decide) (br_f (by decide) (br_t rfl (fd_Y_wi 12 (by omega) rfl (fun z0 => ⟨rfl, h1 (fd_g2.mpr z0)⟩) (fun z0 => ⟨rfl, h0 (fun q => z0 (fd_g2.mp q))⟩))))))
theorem fd_Yg3 {post : Int32 → Prop} {a b c : Int32} (h1 : fd_gd 3 a b c → post 1) (h0 : ¬ fd_gd 3 a b c → post 0) : wpY_isGood post 3 a b c := br_f (by decide) (br_f (by decide) (br_f (by decide) (br_f (by decide) (br_f (by decide) (br_t rfl (fd_Y_wi 2 (by omega) rfl (fun z0 => br_f (by decide) (fd_Y_wi 12 (by omega) rfl (fun z1 => br_f (by decide) (h1 (fd_g3.mpr ⟨z0, z1⟩))) (fun z1 => br_t rfl (h0 (fun q => z1 (fd_g3.mp q).2))))) (fun z0 => br_t rfl (h0 (fun q => z0 (fd_g3.mp q).1)))))))))
theorem fd_Yg4 {post : Int32 → Prop} {a b c : Int32} (h1 : fd_gd 4 a b c → post 1) (h0 : ¬ fd_gd 4 a b c → post 0) : wpY_isGood post 4 a b c := br_f (by decide) (br_f (by decide) (br_f (by decide) (br_f (by decide) (br_f (by decide) (br_f (by decide) (br_t rfl (h1 fd_g4)))))))
theorem fd_Yg5 {post : Int32 → Prop} {a b c : Int32} (h1 : fd_gd 5 a b c → post 1) (h0 : ¬ fd_gd 5 a b c → post 0) : wpY_isGood post 5 a b c := br_f (by decide) (br_f (by decide) (br_f (by decide) (br_f (by decide) (br_f (by decide) (br_f (by decide) (br_f (by decide) (br_t rfl (by unfold wY_isGood_72; exact fd_Y_wi 2 (by omega) rfl (fun z0 => ⟨rfl, h1 (fd_g5.mpr z0)⟩) (fun z0 => ⟨rfl, h0 (fun q => z0 (fd_g5.mp q))⟩)))))))))
theorem fd_Yg6 {post : Int32 → Prop} {a b c : Int32} (h1 : fd_gd 6 a b c → post 1) (h0 : ¬ fd_gd 6 a b c → post 0) : wpY_isGood post 6 a b c := br_f (by decide) (br_f (by decide) (br_f (by decide) (br_f (by decide) (br_f (by decide) (br_f (by decide) (br_f (by decide) (br_f (by decide) (br_t rfl (by unfold wY_isGood_138; exact fd_Y_wi 3 (by omega) rfl (fun z0 => br_f (by decide) (fd_Y_wi 2 (by omega) rfl (fun z1 => br_f (by decide) (h1 (fd_g6.mpr ⟨z0, z1⟩))) (fun z1 => br_t rfl (h0 (fun q => z1 (fd_g6.mp q).2))))) (fun z0 => br_t rfl (h0 (fun q => z0 (fd_g6.mp q).1))))))))))))
theorem fd_Yg7 {post : Int32 → Prop} {a b c : Int32} (h1 : fd_gd 7 a b c → post 1) (h0 : ¬ fd_gd 7 a b c → post 0) : wpY_isGood post 7 a b c := br_f (by decide) (br_f (by decide) (br_f (by decide) (br_f (by decide) (br_f (by decide) (br_f (by decide) (br_f (by decide) (br_f (by decide) (br_f (by decide) (br_t rfl (by unfold wY_isGood_138; exact fd_Y_wi 3 (by omega) rfl (fun z0 => br_f (by decide) (fd_Y_wi 2 (by omega) rfl (fun z1 => br_f (by decide) (h1 (fd_g7.mpr ⟨z0, z1⟩))) (fun z1 => br_t rfl (h0 (fun q => z1 (fd_g7.mp q).2))))) (fun z0 => br_t rfl (h0 (fun q => z0 (fd_g7.mp q).1)))))))))))))
theorem fd_Yg8 {post : Int32 → Prop} {a b c : Int32} (h1 : fd_gd 8 a b c → post 1) (h0 : ¬ fd_gd 8 a b c → post 0) : wpY_isGood post 8 a b c := br_f (by decide) (br_f (by decide) (br_f (by decide) (br_f (by decide) (br_f (by decide) (br_f (by decide) (br_f (by decide) (br_f (by decide) (br_f (by decide) (br_f (by decide) (br_t rfl (fd_Y_wi 3 (by omega) rfl (fun z0 => br_f (by decide) (fd_Y_wi 3 (by omega) rfl (fun z1 => br_f (by decide) (fd_Y_wi 2 (by omega) rfl (fun z2 => br_f (by decide) (h1 (fd_g8.mpr ⟨z0, z1, z2⟩))) (fun z2 => br_t rfl (h0 (fun q => z2 (fd_g8.mp q).2.2))))) (fun z1 => br_t rfl (h0 (fun q => z1 (fd_g8.mp q).2.1))))) (fun z0 => br_t rfl (h0 (fun q => z0 (fd_g8.mp q).1))))))))))))))
theorem fd_Yg9 {post : Int32 → Prop} {a b c : Int32} (h1 : fd_gd 9 a b c → post 1) (h0 : ¬ fd_gd 9 a b c → post 0) : wpY_isGood post 9 a b c := br_f (by decide) (br_f (by decide) (br_f (by decide) (br_f (by decide) (br_f (by decide) (br_f (by decide) (br_f (by decide) (br_f (by decide) (br_f (by decide) (br_f (by decide) (br_f (by decide) (br_t rfl (fd_Y_wi 5 (by omega) rfl (fun z0 => br_f (by decide) (fd_Y_wi 2 (by omega) rfl (fun z1 => br_f (by decide) (h1 (fd_g9.mpr ⟨z0, z1⟩))) (fun z1 => br_t rfl (h0 (fun q => z1 (fd_g9.mp q).2))))) (fun z0 => br_t rfl (h0 (fun q => z0 (fd_g9.mp q).1)))))))))))))))
theorem fd_Yg10 {post : Int32 → Prop} {a b c : Int32} (h1 : fd_gd 10 a b c → post 1) (h0 : ¬ fd_gd 10 a b c → post 0) : wpY_isGood post 10 a b c := br_f (by decide) (br_f (by decide) (br_f (by decide) (br_f (by decide) (br_f (by decide) (br_f (by decide) (br_f (by decide) (br_f (by decide) (br_f (by decide) (br_f (by decide) (br_f (by decide) (br_f (by decide) (br_t rfl (by unfold wY_isGood_79; exact fd_Y_wi 2 (by omega) rfl (fun z0 => br_f (by decide) (fd_Y_wi 2 (by omega) rfl (fun z1 => br_f (by decide) (h1 (fd_g10.mpr ⟨z0, z1⟩))) (fun z1 => br_t rfl (h0 (fun q => z1 (fd_g10.mp q).2))))) (fun z0 => br_t rfl (h0 (fun q => z0 (fd_g10.mp q).1))))))))))))))))
theorem fd_Yg11 {post : Int32 → Prop} {a b c : Int32} (h1 : fd_gd 11 a b c → post 1) (h0 : ¬ fd_gd 11 a b c → post 0) : wpY_isGood post 11 a b c := br_f (by decide) (br_f (by decide) (br_f (by decide) (br_f (by decide) (br_f (by decide) (br_f (by decide) (br_f (by decide) (br_f (by decide) (br_f (by decide) (br_f (by decide) (br_f (by decide) (br_f (by decide) (br_f (by decide) (br_t rfl (fd_Y_wi 3 (by omega) rfl (fun z0 => ⟨rfl, h1 (fd_g11.mpr z0)⟩) (fun z0 => ⟨rfl, h0 (fun q => z0 (fd_g11.mp q))⟩)))))))))))))))
theorem fd_Yg12 {post : Int32 → Prop} {a b c : Int32} (h1 : fd_gd 12 a b c → post 1) (h0 : ¬ fd_gd 12 a b c → post 0) : wpY_isGood post 12 a b c := br_f (by decide) (br_f (by decide) (br_f (by decide) (br_f (by decide) (br_f (by decide) (br_f (by decide) (br_f (by decide) (br_f (by decide) (br_f (by decide) (br_f (by decide) (br_f (by decide) (br_f (by decide) (br_f (by decide) (br_f (by decide) (br_t rfl (by unfold wY_isGood_72; exact fd_Y_wi 2 (by omega) rfl (fun z0 => ⟨rfl, h1 (fd_g12.mpr z0)⟩) (fun z0 => ⟨rfl, h0 (fun q => z0 (fd_g12.mp q))⟩))))))))))))))))
theorem fd_Yg13 {post : Int32 → Prop} {a b c : Int32} (h1 : fd_gd 13 a b c → post 1) (h0 : ¬ fd_gd 13 a b c → post 0) : wpY_isGood post 13 a b c := br_f (by decide) (br_f (by decide) (br_f (by decide) (br_f (by decide) (br_f (by decide) (br_f (by decide) (br_f (by decide) (br_f (by decide) (br_f (by decide) (br_f (by decide) (br_f (by decide) (br_f (by decide) (br_f (by decide) (br_f (by decide) (br_f (by decide) (br_t rfl (h1 fd_g13))))))))))))))))
theorem fd_X_fit {post : Int32 → Prop} {op a b c : Int32} (h1 : fd_gd op a b c → post 1) (h0 : ¬ fd_gd op a b c → post 0) : wpX_operandsFit post op a b c := by
  rcases Classical.em (vp_in op 14) with hv | hv
  · obtain ⟨j, hj, e⟩ := vp_in_of hv (by omega)
    subst e
    rcases (by omega : j = 0 ∨ j = 1 ∨ j = 2 ∨ j = 3 ∨ j = 4 ∨ j = 5 ∨ j = 6 ∨ j = 7 ∨ j = 8 ∨ j = 9 ∨ j = 10 ∨ j = 11 ∨ j = 12 ∨ j = 13) with q | q | q | q | q | q | q | q | q | q | q | q | q | q <;> subst q
    · exact fd_Xg0 h1 h0
    · exact fd_Xg1 h1 h0
    · exact fd_Xg2 h1 h0
    · exact fd_Xg3 h1 h0
    · exact fd_Xg4 h1 h0
    · exact fd_Xg5 h1 h0
    · exact fd_Xg6 h1 h0
    · exact fd_Xg7 h1 h0
    · exact fd_Xg8 h1 h0
    · exact fd_Xg9 h1 h0
    · exact fd_Xg10 h1 h0
    · exact fd_Xg11 h1 h0
    · exact fd_Xg12 h1 h0
    · exact fd_Xg13 h1 h0
  · have p0 := h0 (fun z => hv z.1)
    have n4 : ¬ op = 4 := fun e => hv (by rw [e]; exact vp_in_nI (n := 4) (by omega) (by omega))
    have n13 : ¬ op = 13 := fun e => hv (by rw [e]; exact vp_in_nI (n := 13) (by omega) (by omega))
    have q : wX_operandsFit_203 post op := br_f n4 (br_f n13 p0)
    exact br_c (fun _ => q) (fun a0 => br_c (fun _ => q) (fun a1 => absurd (fd_mono ((fd_wi (n := 12) (by omega)).mpr ⟨a0, a1⟩) (by omega)) hv))
theorem fd_Y_fit {post : Int32 → Prop} {op a b c : Int32} (h1 : fd_gd op a b c → post 1) (h0 : ¬ fd_gd op a b c → post 0) : wpY_isGood post op a b c := by
  rcases Classical.em (vp_in op 14) with hv | hv
  · obtain ⟨j, hj, e⟩ := vp_in_of hv (by omega)
    subst e
    rcases (by omega : j = 0 ∨ j = 1 ∨ j = 2 ∨ j = 3 ∨ j = 4 ∨ j = 5 ∨ j = 6 ∨ j = 7 ∨ j = 8 ∨ j = 9 ∨ j = 10 ∨ j = 11 ∨ j = 12 ∨ j = 13) with q | q | q | q | q | q | q | q | q | q | q | q | q | q <;> subst q
    · exact fd_Yg0 h1 h0
    · exact fd_Yg1 h1 h0
    · exact fd_Yg2 h1 h0
    · exact fd_Yg3 h1 h0
    · exact fd_Yg4 h1 h0
    · exact fd_Yg5 h1 h0
    · exact fd_Yg6 h1 h0
    · exact fd_Yg7 h1 h0
    · exact fd_Yg8 h1 h0
    · exact fd_Yg9 h1 h0
    · exact fd_Yg10 h1 h0
    · exact fd_Yg11 h1 h0
    · exact fd_Yg12 h1 h0
    · exact fd_Yg13 h1 h0
  · have p0 := h0 (fun z => hv z.1)
    exact br_c (fun _ => p0) (fun a0 => br_c (fun _ => p0) (fun a1 => absurd ((fd_wi (n := 13) (by omega)).mpr ⟨a0, a1⟩) hv))
section
variable {rc cc sl nw no : Int32} {ops o1 o2 o3 sz st pr pc rg wk jn sd br io cp cl hd ct wt wc rr ab dx ox : Nat → Int32} {ss : Int64} {yy : Int32} {sp : Nat → Int64} {dy ly : Nat → Int32} {B s : Nat}
theorem fd_K_ops {ops' o1' o2' o3' sz' : Nat → Int32} (h : fd_K B s 3 rc cc sl nw no ops o1 o2 o3 sz st pr pc rg wk jn sd br io cp cl hd ct wt wc rr ab dx ox ss yy sp dy ly) (hG : fd_G ops' o1' o2' o3' sz') (he : ∀ f, f < 12 → st f = 3 → ops' (fd_k pr pc f) = ops (fd_k pr pc f) ∧ o1' (fd_k pr pc f) = o1 (fd_k pr pc f) ∧ o2' (fd_k pr pc f) = o2 (fd_k pr pc f) ∧ o3' (fd_k pr pc f) = o3 (fd_k pr pc f)) : fd_K B s 3 rc cc sl nw no ops' o1' o2' o3' sz' st pr pc rg wk jn sd br io cp cl hd ct wt wc rr ab dx ox ss yy sp dy ly := by
  obtain ⟨_, hF, hR, hV, hS, hC, hO, hN⟩ := h
  refine ⟨hG, fun f hf => ⟨(hF f hf).1, fun s3 => ?_⟩, hR, fd_V_c hV (fun y hy g hg => ?_), hS, hC, hO, hN⟩
  · obtain ⟨e0, e1, e2, e3⟩ := he f hf s3
    rw [e0, e1, e2, e3]
    exact (hF f hf).2 s3
  · refine ⟨fun z => ⟨z.1, ?_⟩, fun z => ⟨z.1, ?_⟩⟩
    · obtain ⟨e0, e1, e2, _⟩ := he g hg z.1
      have q := z.2
      rw [e0, e1, e2] at q
      exact q
    · obtain ⟨e0, e1, e2, _⟩ := he g hg z.1
      rw [e0, e1, e2]
      exact z.2
theorem fd_k72 {f : Nat} (h : fd_K B s 3 rc cc sl nw no ops o1 o2 o3 sz st pr pc rg wk jn sd br io cp cl hd ct wt wc rr ab dx ox ss yy sp dy ly) (hf : f < 12) (s3 : st f = 3) : fd_k pr pc f < 72 ∧ (pr f).toNatClampNeg < 6 ∧ (pc f).toNatClampNeg < 12 := by
  have p := fd_lt ((h.2.1 f hf).1 (Or.inr (Or.inr (Or.inl s3)))).1
  have c := fd_lt ((h.2.1 f hf).2 s3).1
  unfold fd_k
  omega
theorem fd_code {op a b c : Int32} (h : fd_K B s 3 rc cc sl nw no ops o1 o2 o3 sz st pr pc rg wk jn sd br io cp cl hd ct wt wc rr ab dx ox ss yy sp dy ly) : ∃ r u' v', (∀ post : Int32 → SX → Prop, post r u' → wpX_code post (rc, cc, sl, nw, no, ops, o1, o2, o3, sz, st, pr, pc, rg, wk, jn, sd, br, io, cp, cl, hd, ct, wt, wc, rr, ab, dx, ox) op a b c) ∧ (∀ post : Int32 → SY → Prop, post r v' → wpY_code post (cc, sl, nw, no, ss, yy, ops, o1, o2, o3, sz, st, pr, pc, rg, wk, sp, cp, cl, hd, ct, ab, dy, ly) op a b c) ∧ fd_RR B s u' v' := by
  obtain ⟨z13, zg⟩ := h.1 6 (by omega)
  obtain ⟨m, hm, em⟩ := vp_in_of z13 (by omega)
  by_cases m12 : m = 12
  · subst m12
    refine ⟨-1, (rc, cc, sl, nw, no, ops, o1, o2, o3, sz, st, pr, pc, rg, wk, jn, sd, br, io, cp, cl, hd, ct, wt, wc, rr, ab, dx, ox), (cc, sl, nw, no, ss, yy, ops, o1, o2, o3, sz, st, pr, pc, rg, wk, sp, cp, cl, hd, ct, ab, dy, ly), fun post H => br_t (by rw [em]; decide) H, fun post H => ?_, ⟨rc, cc, sl, nw, no, ops, o1, o2, o3, sz, st, pr, pc, rg, wk, jn, sd, br, io, cp, cl, hd, ct, wt, wc, rr, ab, dx, ox, ss, yy, sp, dy, ly, rfl, rfl, h⟩⟩
    unfold wpY_code
    exact fd_Y_fit (fun _ => br_f (by decide) (br_t em H)) (fun _ => br_t rfl H)
  · have n1 : ¬ 12 ≤ sz 6 := by rw [em]; exact nI_ge (b := 12) (by omega) (by decide)
    have n2 : ¬ sz 6 = 12 := by
      rw [em]
      intro q
      exact m12 ((nI_eq (b := 12) (by omega) (by decide)).mp q)
    rcases Classical.em (fd_gd op a b c) with g | g
    · have e72 : 72 + sz 6 = nI (72 + m) := by
        rw [em]; exact nI_add 72 m
      have hi : vp_in (nI (72 + m)) 84 := vp_in_nI (by omega) (by omega)
      have ec : (nI (72 + m)).toNatClampNeg = 72 + m := nI_clamp (by omega)
      have K1 := fd_K_ops (ops' := upd ops (nI (72 + m)).toNatClampNeg op) (o1' := upd o1 (nI (72 + m)).toNatClampNeg a) (o2' := upd o2 (nI (72 + m)).toNatClampNeg b) (o3' := upd o3 (nI (72 + m)).toNatClampNeg c) (sz' := upd sz 6 (sz 6 + 1)) h (by
        intro p hp
        rw [ec]
        by_cases e6 : p = 6
        · subst e6
          rw [pk_us, em, nI_1]
          refine ⟨vp_in_nI (by omega) (by omega), fun i hi => ?_⟩
          rw [nI_clamp (by omega)] at hi
          by_cases e : i = m
          · subst e
            rw [show 12 * 6 + i = 72 + i by omega, pk_us, pk_us, pk_us, pk_us]; exact g
          · rw [pk_un (by omega), pk_un (by omega), pk_un (by omega), pk_un (by omega)]
            exact zg i (by rw [em, nI_clamp (by omega)]; omega)
        · obtain ⟨q1, q2⟩ := h.1 p hp
          have l := fd_lt q1
          rw [pk_un e6]
          refine ⟨q1, fun i hi => ?_⟩
          rw [pk_un (by omega), pk_un (by omega), pk_un (by omega), pk_un (by omega)]
          exact q2 i hi) (by
        intro f hf s3
        have q := (fd_k72 h hf s3).1
        rw [ec, pk_un (by omega), pk_un (by omega), pk_un (by omega), pk_un (by omega)]
        exact ⟨rfl, rfl, rfl, rfl⟩)
      refine ⟨upd sz 6 (sz 6 + 1) 6, _, _, fun post H => br_f n1 (fd_X_fit (fun _ => br_f (by decide) (nm_r e72 ⟨hi, nm_e ⟨hi, nm_e ⟨hi, nm_e ⟨hi, nm_e (nm_e H)⟩⟩⟩⟩)) (fun z => absurd g z)), fun post H => ?_, ⟨rc, cc, sl, nw, no, _, _, _, _, _, st, pr, pc, rg, wk, jn, sd, br, io, cp, cl, hd, ct, wt, wc, rr, ab, dx, ox, ss, yy, sp, dy, ly, rfl, rfl, K1⟩⟩
      unfold wpY_code
      exact fd_Y_fit (fun _ => br_f (by decide) (br_f n2 (nm_e (nm_r e72 ⟨hi, nm_e ⟨hi, nm_e ⟨hi, nm_e ⟨hi, nm_e H⟩⟩⟩⟩)))) (fun z => absurd g z)
    · refine ⟨-1, (rc, cc, sl, nw, no, ops, o1, o2, o3, sz, st, pr, pc, rg, wk, jn, sd, br, io, cp, cl, hd, ct, wt, wc, rr, ab, dx, ox), (cc, sl, nw, no, ss, yy, ops, o1, o2, o3, sz, st, pr, pc, rg, wk, sp, cp, cl, hd, ct, ab, dy, ly), fun post H => br_f n1 (fd_X_fit (fun z => absurd z g) (fun _ => br_t rfl H)), fun post H => ?_, ⟨rc, cc, sl, nw, no, ops, o1, o2, o3, sz, st, pr, pc, rg, wk, jn, sd, br, io, cp, cl, hd, ct, wt, wc, rr, ab, dx, ox, ss, yy, sp, dy, ly, rfl, rfl, h⟩⟩
      unfold wpY_code
      exact fd_Y_fit (fun z => absurd z g) (fun _ => br_t rfl H)
end
theorem fd_pd (pr st : Nat → Int32) (p : Int32) : (∀ g, g < 12 → ¬ (pr g = p ∧ fd_aw (st g))) ∨ ∃ b, b < 12 ∧ (pr b = p ∧ fd_aw (st b)) ∧ ∀ g, g < b → ¬ (pr g = p ∧ fd_aw (st g)) := by
  have key : ∀ n, n ≤ 12 → (∀ g, g < n → ¬ (pr g = p ∧ fd_aw (st g))) ∨ ∃ b, b < 12 ∧ (pr b = p ∧ fd_aw (st b)) ∧ ∀ g, g < b → ¬ (pr g = p ∧ fd_aw (st g)) := by
    intro n
    induction n with
    | zero => intro _; exact Or.inl (fun g hg => absurd hg (Nat.not_lt_zero g))
    | succ n ih =>
      intro hn
      rcases ih (by omega) with h | h
      · rcases Classical.em (pr n = p ∧ fd_aw (st n)) with q | q
        · exact Or.inr ⟨n, by omega, q, h⟩
        · exact Or.inl (lt_s h q)
      · exact Or.inr h
  exact key 12 (Nat.le_refl 12)
/-- the first i cells of the draft, laid at place p -/
def fd_cy (h : Nat → Int32) (p i : Nat) : Nat → Int32 := fun j => if 12 * p ≤ j ∧ j < 12 * p + i then h (72 + (j - 12 * p)) else h j
theorem fd_cy_0 (h : Nat → Int32) (p : Nat) : fd_cy h p 0 = h := by
  funext j
  exact if_neg (by omega)
theorem fd_cy_s (h : Nat → Int32) (p i : Nat) (hp : p < 6) (hi : i < 12) : upd (fd_cy h p i) (12 * p + i) (fd_cy h p i (72 + i)) = fd_cy h p (i + 1) := by
  funext j
  unfold fd_cy upd
  by_cases e : j = 12 * p + i
  · subst e
    rw [if_pos rfl, if_neg (by omega), if_pos (by omega)]
    congr 1
    omega
  · rw [if_neg e]
    dsimp only
    by_cases q : 12 * p ≤ j ∧ j < 12 * p + i
    · rw [if_pos q, if_pos (by omega)]
    · rw [if_neg q, if_neg (by omega)]
theorem fd_cy_in {h : Nat → Int32} {p i : Nat} (hi : i < 12) : fd_cy h p 12 (12 * p + i) = h (72 + i) := by
  unfold fd_cy
  rw [if_pos (by omega)]
  congr 1
  omega
theorem fd_cy_out {h : Nat → Int32} {p j : Nat} (hj : ¬ (12 * p ≤ j ∧ j < 12 * p + 12)) : fd_cy h p 12 j = h j := if_neg hj
section
variable {rc cc sl nw no : Int32} {ops o1 o2 o3 sz st pr pc rg wk jn sd br io cp cl hd ct wt wc rr ab dx ox : Nat → Int32} {ss : Int64} {yy : Int32} {sp : Nat → Int64} {dy ly : Nat → Int32} {B s : Nat}
theorem fd_X_pl {post : Int32 → SX → Prop} {p : Int32} (hp : vp_in p 6) (H : post (upd (upd sz p.toNatClampNeg (sz 6)) 6 0 p.toNatClampNeg) (rc, cc, sl, nw, no, fd_cy ops p.toNatClampNeg 12, fd_cy o1 p.toNatClampNeg 12, fd_cy o2 p.toNatClampNeg 12, fd_cy o3 p.toNatClampNeg 12, upd (upd sz p.toNatClampNeg (sz 6)) 6 0, st, pr, pc, rg, wk, jn, sd, br, io, cp, cl, hd, ct, wt, wc, rr, ab, dx, ox)) : ∀ d i : Nat, i + d = 12 → wX_program_21 post p rc cc sl nw no (d + 1) (nI i) (fd_cy ops p.toNatClampNeg i) (fd_cy o1 p.toNatClampNeg i) (fd_cy o2 p.toNatClampNeg i) (fd_cy o3 p.toNatClampNeg i) sz st pr pc rg wk jn sd br io cp cl hd ct wt wc rr ab dx ox := by
  have p6 := fd_lt hp
  have hp7 := fd_mono hp (show 6 ≤ 7 by omega)
  intro d
  induction d with
  | zero =>
    intro i hi
    have e : i = 12 := by omega
    subst e
    exact br_t (by decide) ⟨hp7, nm_e (nm_e ⟨hp7, H⟩)⟩
  | succ d ih =>
    intro i hi
    have ix := fd_p12' hp (vp_in_nI (n := i) (N := 13) (by omega) (by omega))
    rw [nI_clamp (by omega)] at ix
    have e1 : p * 12 + nI i = nI (12 * p.toNatClampNeg + i) := by rw [← ix.2]; exact fd_eq ix.1
    have e2 : 72 + nI i = nI (72 + i) := nI_add 72 i
    have v1 : vp_in (nI (72 + i)) 84 := vp_in_nI (by omega) (by omega)
    have v2 : vp_in (nI (12 * p.toNatClampNeg + i)) 84 := vp_in_nI (by omega) (by omega)
    refine br_f (nI_ge (b := 12) (by omega) (by decide)) (nm_r e2 (nm_r e1 ?_))
    rw [nI_clamp (by omega), nI_clamp (by omega)]
    exact ⟨v1, v2, nm_r (fd_cy_s ops p.toNatClampNeg i p6 (by omega)) ⟨v1, v2, nm_r (fd_cy_s o1 p.toNatClampNeg i p6 (by omega)) ⟨v1, v2, nm_r (fd_cy_s o2 p.toNatClampNeg i p6 (by omega)) ⟨v1, v2, nm_r (fd_cy_s o3 p.toNatClampNeg i p6 (by omega)) (nm_r (nI_1 i) (ih (i + 1) (by omega)))⟩⟩⟩⟩
theorem fd_Y_pl {post : Int32 → SY → Prop} {p : Int32} (hp : vp_in p 6) (H : post (upd (upd sz p.toNatClampNeg (sz 6)) 6 0 p.toNatClampNeg) (cc, sl, nw, no, ss, yy, fd_cy ops p.toNatClampNeg 12, fd_cy o1 p.toNatClampNeg 12, fd_cy o2 p.toNatClampNeg 12, fd_cy o3 p.toNatClampNeg 12, upd (upd sz p.toNatClampNeg (sz 6)) 6 0, st, pr, pc, rg, wk, sp, cp, cl, hd, ct, ab, dy, ly)) : ∀ d i : Nat, i + d = 12 → wY_program_47 post p cc sl nw no ss yy (d + 1) (nI i) (fd_cy ops p.toNatClampNeg i) (fd_cy o1 p.toNatClampNeg i) (fd_cy o2 p.toNatClampNeg i) (fd_cy o3 p.toNatClampNeg i) sz st pr pc rg wk sp cp cl hd ct ab dy ly := by
  have p6 := fd_lt hp
  have hp7 := fd_mono hp (show 6 ≤ 7 by omega)
  intro d
  induction d with
  | zero =>
    intro i hi
    have e : i = 12 := by omega
    subst e
    exact br_t (by decide) ⟨hp7, nm_e (nm_e ⟨hp7, H⟩)⟩
  | succ d ih =>
    intro i hi
    have ix := fd_p12 hp (vp_in_nI (n := i) (N := 13) (by omega) (by omega))
    rw [nI_clamp (by omega)] at ix
    have e1 : 12 * p + nI i = nI (12 * p.toNatClampNeg + i) := by rw [← ix.2]; exact fd_eq ix.1
    have e2 : 72 + nI i = nI (72 + i) := nI_add 72 i
    have v1 : vp_in (nI (72 + i)) 84 := vp_in_nI (by omega) (by omega)
    have v2 : vp_in (nI (12 * p.toNatClampNeg + i)) 84 := vp_in_nI (by omega) (by omega)
    refine br_f (nI_ge (b := 12) (by omega) (by decide)) ?_
    rw [e1, e2, nI_clamp (by omega), nI_clamp (by omega)]
    exact ⟨v1, v2, nm_r (fd_cy_s ops p.toNatClampNeg i p6 (by omega)) ⟨v1, v2, nm_r (fd_cy_s o1 p.toNatClampNeg i p6 (by omega)) ⟨v1, v2, nm_r (fd_cy_s o2 p.toNatClampNeg i p6 (by omega)) ⟨v1, v2, nm_r (fd_cy_s o3 p.toNatClampNeg i p6 (by omega)) (nm_r (nI_1 i) (ih (i + 1) (by omega)))⟩⟩⟩⟩
theorem fd_X_ps {post : Int32 → Prop} {p x : Int32} {n : Nat} (hx : vp_in x 12) (n12 : ¬ (12 : Int32) ≤ x) (na : ¬ (pr x.toNatClampNeg = p ∧ fd_aw (st x.toNatClampNeg))) (H : wX_isProgramAtWork_2 post p rc cc sl nw no ops o1 o2 o3 sz st pr pc rg wk jn sd br io cp cl hd ct wt wc rr ab dx ox n (x + 1)) : wX_isProgramAtWork_2 post p rc cc sl nw no ops o1 o2 o3 sz st pr pc rg wk jn sd br io cp cl hd ct wt wc rr ab dx ox (n + 1) x :=
  br_f n12 ⟨hx, br_c (fun q => fd_X_aw hx (fun aw => absurd ⟨q, aw⟩ na) (fun _ => br_t rfl (nm_e H))) (fun _ => nm_e H)⟩
theorem fd_Y_ps {post : Int32 → SY → Prop} {p x : Int32} {n : Nat} (hx : vp_in x 12) (n12 : ¬ (12 : Int32) ≤ x) (na : ¬ (pr x.toNatClampNeg = p ∧ fd_aw (st x.toNatClampNeg))) (H : wY_program_13 post p cc sl nw no ss yy ops o1 o2 o3 sz st pr pc rg wk sp cp cl hd ct ab dy ly n (x + 1)) : wY_program_13 post p cc sl nw no ss yy ops o1 o2 o3 sz st pr pc rg wk sp cp cl hd ct ab dy ly (n + 1) x :=
  br_f n12 (fd_Y_aw hx (fun aw => br_f (by decide) ⟨hx, br_c (fun q => absurd ⟨q, aw⟩ na) (fun _ => nm_e H)⟩) (fun _ => br_t rfl (nm_e H)))
theorem fd_program {p : Int32} (h : fd_K B s 3 rc cc sl nw no ops o1 o2 o3 sz st pr pc rg wk jn sd br io cp cl hd ct wt wc rr ab dx ox ss yy sp dy ly) : ∃ r u' v', (∀ post : Int32 → SX → Prop, post r u' → wpX_program post (rc, cc, sl, nw, no, ops, o1, o2, o3, sz, st, pr, pc, rg, wk, jn, sd, br, io, cp, cl, hd, ct, wt, wc, rr, ab, dx, ox) p) ∧ (∀ post : Int32 → SY → Prop, post r v' → wpY_program post (cc, sl, nw, no, ss, yy, ops, o1, o2, o3, sz, st, pr, pc, rg, wk, sp, cp, cl, hd, ct, ab, dy, ly) p) ∧ fd_RR B s u' v' := by
  rcases Classical.em (vp_in p 6) with hp | hp
  · have p6 := fd_lt hp
    rcases fd_pd pr st p with ha | ⟨b, hb, hb1, hb2⟩
    · have K1 := fd_K_ops (ops' := fd_cy ops p.toNatClampNeg 12) (o1' := fd_cy o1 p.toNatClampNeg 12) (o2' := fd_cy o2 p.toNatClampNeg 12) (o3' := fd_cy o3 p.toNatClampNeg 12) (sz' := upd (upd sz p.toNatClampNeg (sz 6)) 6 0) h (by
        intro q hq
        by_cases e6 : q = 6
        · subst e6
          rw [pk_us]
          refine ⟨fd_0in (by omega), fun i hi => absurd hi ?_⟩
          rw [show (0 : Int32).toNatClampNeg = 0 from by decide]
          exact Nat.not_lt_zero i
        · rw [pk_un e6]
          by_cases e : q = p.toNatClampNeg
          · subst e
            obtain ⟨q1, q2⟩ := h.1 6 (by omega)
            have l := fd_lt q1
            rw [pk_us]
            refine ⟨q1, fun i hi => ?_⟩
            rw [fd_cy_in (by omega), fd_cy_in (by omega), fd_cy_in (by omega), fd_cy_in (by omega)]
            exact q2 i hi
          · obtain ⟨q1, q2⟩ := h.1 q hq
            have l := fd_lt q1
            rw [pk_un e]
            refine ⟨q1, fun i hi => ?_⟩
            rw [fd_cy_out (by omega), fd_cy_out (by omega), fd_cy_out (by omega), fd_cy_out (by omega)]
            exact q2 i hi) (by
        intro f hf s3
        obtain ⟨_, k1, k2⟩ := fd_k72 h hf s3
        have ne : (pr f).toNatClampNeg ≠ p.toNatClampNeg := fun e => ha f hf ⟨fd_inj ((h.2.1 f hf).1 (Or.inr (Or.inr (Or.inl s3)))).1 hp e, Or.inr (Or.inr (Or.inl s3))⟩
        have o : ¬ (12 * p.toNatClampNeg ≤ fd_k pr pc f ∧ fd_k pr pc f < 12 * p.toNatClampNeg + 12) := by
          unfold fd_k
          omega
        rw [fd_cy_out o, fd_cy_out o, fd_cy_out o, fd_cy_out o]
        exact ⟨rfl, rfl, rfl, rfl⟩)
      refine ⟨upd (upd sz p.toNatClampNeg (sz 6)) 6 0 p.toNatClampNeg, _, _, fun post H => ?_, fun post H => ?_, ⟨rc, cc, sl, nw, no, _, _, _, _, _, st, pr, pc, rg, wk, jn, sd, br, io, cp, cl, hd, ct, wt, wc, rr, ab, dx, ox, ss, yy, sp, dy, ly, rfl, rfl, K1⟩⟩
      · have fin := fd_X_pl (post := post) (rc := rc) (cc := cc) (sl := sl) (nw := nw) (no := no) (ops := ops) (o1 := o1) (o2 := o2) (o3 := o3) (sz := sz) (st := st) (pr := pr) (pc := pc) (rg := rg) (wk := wk) (jn := jn) (sd := sd) (br := br) (io := io) (cp := cp) (cl := cl) (hd := hd) (ct := ct) (wt := wt) (wc := wc) (rr := rr) (ab := ab) (dx := dx) (ox := ox) hp H 12 0 rfl
        rw [fd_cy_0, fd_cy_0, fd_cy_0, fd_cy_0] at fin
        have key : ∀ (P : Int32 → Prop), P 0 → ∀ d i : Nat, i + d = 12 → wX_isProgramAtWork_2 P p rc cc sl nw no ops o1 o2 o3 sz st pr pc rg wk jn sd br io cp cl hd ct wt wc rr ab dx ox (d + 1) (nI i) := by
          intro P HP d
          induction d with
          | zero =>
            intro i hi
            have e : i = 12 := by omega
            subst e
            exact br_t (by decide) HP
          | succ d ih =>
            intro i hi
            exact fd_X_ps (vp_in_nI (by omega) (by omega)) (nI_ge (b := 12) (by omega) (by decide)) (by rw [nI_clamp (by omega)]; exact ha i (by omega)) (by rw [nI_1]; exact ih (i + 1) (by omega))
        unfold wpX_program
        refine fd_X_bl 6 (by omega) rfl (fun _ => br_f (by decide) ?_) (fun z => absurd hp z)
        unfold wpX_isProgramAtWork
        exact ⟨13, key _ (br_t rfl ⟨13, fin⟩) 12 0 rfl⟩
      · have fin := fd_Y_pl (post := post) (cc := cc) (sl := sl) (nw := nw) (no := no) (ss := ss) (yy := yy) (ops := ops) (o1 := o1) (o2 := o2) (o3 := o3) (sz := sz) (st := st) (pr := pr) (pc := pc) (rg := rg) (wk := wk) (sp := sp) (cp := cp) (cl := cl) (hd := hd) (ct := ct) (ab := ab) (dy := dy) (ly := ly) hp H 12 0 rfl
        rw [fd_cy_0, fd_cy_0, fd_cy_0, fd_cy_0] at fin
        have key : ∀ d i : Nat, i + d = 12 → wY_program_13 post p cc sl nw no ss yy ops o1 o2 o3 sz st pr pc rg wk sp cp cl hd ct ab dy ly (d + 1) (nI i) := by
          intro d
          induction d with
          | zero =>
            intro i hi
            have e : i = 12 := by omega
            subst e
            exact br_t (by decide) ⟨13, fin⟩
          | succ d ih =>
            intro i hi
            exact fd_Y_ps (vp_in_nI (by omega) (by omega)) (nI_ge (b := 12) (by omega) (by decide)) (by rw [nI_clamp (by omega)]; exact ha i (by omega)) (by rw [nI_1]; exact ih (i + 1) (by omega))
        unfold wpY_program
        exact fd_Y_wi 5 (by omega) rfl (fun _ => br_f (by decide) ⟨13, key 12 0 rfl⟩) (fun z => absurd hp z)
    · refine ⟨-1, (rc, cc, sl, nw, no, ops, o1, o2, o3, sz, st, pr, pc, rg, wk, jn, sd, br, io, cp, cl, hd, ct, wt, wc, rr, ab, dx, ox), (cc, sl, nw, no, ss, yy, ops, o1, o2, o3, sz, st, pr, pc, rg, wk, sp, cp, cl, hd, ct, ab, dy, ly), fun post H => ?_, fun post H => ?_, ⟨rc, cc, sl, nw, no, ops, o1, o2, o3, sz, st, pr, pc, rg, wk, jn, sd, br, io, cp, cl, hd, ct, wt, wc, rr, ab, dx, ox, ss, yy, sp, dy, ly, rfl, rfl, h⟩⟩
      · have key : ∀ (P : Int32 → Prop), P 1 → ∀ d i : Nat, i + d = b → wX_isProgramAtWork_2 P p rc cc sl nw no ops o1 o2 o3 sz st pr pc rg wk jn sd br io cp cl hd ct wt wc rr ab dx ox (d + 1) (nI i) := by
          intro P HP d
          induction d with
          | zero =>
            intro i hi
            have e : i = b := by omega
            subst e
            have hx : vp_in (nI i) 12 := vp_in_nI (by omega) (by omega)
            have ei : (nI i).toNatClampNeg = i := nI_clamp (by omega)
            exact br_f (nI_ge (b := 12) (by omega) (by decide)) ⟨hx, br_t (by rw [ei]; exact hb1.1) (fd_X_aw hx (fun _ => br_f (by decide) HP) (fun z => absurd (by rw [ei]; exact hb1.2) z))⟩
          | succ d ih =>
            intro i hi
            exact fd_X_ps (vp_in_nI (by omega) (by omega)) (nI_ge (b := 12) (by omega) (by decide)) (by rw [nI_clamp (by omega)]; exact hb2 i (by omega)) (by rw [nI_1]; exact ih (i + 1) (by omega))
        unfold wpX_program
        refine fd_X_bl 6 (by omega) rfl (fun _ => br_f (by decide) ?_) (fun z => absurd hp z)
        unfold wpX_isProgramAtWork
        exact ⟨b + 1, key _ (br_f (by decide) H) b 0 (Nat.zero_add b)⟩
      · have key : ∀ d i : Nat, i + d = b → wY_program_13 post p cc sl nw no ss yy ops o1 o2 o3 sz st pr pc rg wk sp cp cl hd ct ab dy ly (d + 1) (nI i) := by
          intro d
          induction d with
          | zero =>
            intro i hi
            have e : i = b := by omega
            subst e
            have hx : vp_in (nI i) 12 := vp_in_nI (by omega) (by omega)
            have ei : (nI i).toNatClampNeg = i := nI_clamp (by omega)
            exact br_f (nI_ge (b := 12) (by omega) (by decide)) (fd_Y_aw hx (fun _ => br_f (by decide) ⟨hx, br_t (by rw [ei]; exact hb1.1) H⟩) (fun z => absurd (by rw [ei]; exact hb1.2) z))
          | succ d ih =>
            intro i hi
            exact fd_Y_ps (vp_in_nI (by omega) (by omega)) (nI_ge (b := 12) (by omega) (by decide)) (by rw [nI_clamp (by omega)]; exact hb2 i (by omega)) (by rw [nI_1]; exact ih (i + 1) (by omega))
        unfold wpY_program
        exact fd_Y_wi 5 (by omega) rfl (fun _ => br_f (by decide) ⟨b + 1, key b 0 (Nat.zero_add b)⟩) (fun z => absurd hp z)
  · refine ⟨-1, (rc, cc, sl, nw, no, ops, o1, o2, o3, sz, st, pr, pc, rg, wk, jn, sd, br, io, cp, cl, hd, ct, wt, wc, rr, ab, dx, ox), (cc, sl, nw, no, ss, yy, ops, o1, o2, o3, sz, st, pr, pc, rg, wk, sp, cp, cl, hd, ct, ab, dy, ly), fun post H => ?_, fun post H => ?_, ⟨rc, cc, sl, nw, no, ops, o1, o2, o3, sz, st, pr, pc, rg, wk, jn, sd, br, io, cp, cl, hd, ct, wt, wc, rr, ab, dx, ox, ss, yy, sp, dy, ly, rfl, rfl, h⟩⟩
    · unfold wpX_program
      exact fd_X_bl 6 (by omega) rfl (fun z => absurd z hp) (fun _ => br_t rfl H)
    · unfold wpY_program
      exact fd_Y_wi 5 (by omega) rfl (fun z => absurd z hp) (fun _ => br_t rfl H)
end
end
section
def i_Rel (k : Nat) (u : SX) (v : SY) : Prop := fd_RR (2000 * k) (1000000 * k) u v
theorem i_up {k : Nat} {u : SX} {v : SY} (h : i_Rel k u v) : i_Rel (k + 5) u v := fd_RR_m h (by omega) (by omega)
theorem i_vc0 (k0 : Int32) : wpX_init (fun u => wpY_init (fun v => i_Rel 1 u v) k0) k0 := by
  obtain ⟨u, v, h1, h2, h3⟩ := fd_init (2000 * 1) (1000000 * 1) k0
  exact h1 _ (h2 _ h3)
theorem i_vc_code {k : Nat} {u : SX} {v : SY} (I : i_Rel k u v) (hk : k + 5 ≤ 2561) (v1 : Int32) (v2 : Int32) (v3 : Int32) (v4 : Int32) : wpX_code (fun r u' => wpY_code (fun r' v' => r' = r ∧ i_Rel (k + 5) u' v') v v1 v2 v3 v4) u v1 v2 v3 v4 := by
  obtain ⟨rc, cc, sl, nw, no, ops, o1, o2, o3, sz, st, pr, pc, rg, wk, jn, sd, br, io, cp, cl, hd, ct, wt, wc, rr, ab, dx, ox, ss, yy, sp, dy, ly, rfl, rfl, K⟩ := I
  obtain ⟨r, u', v', h1, h2, h3⟩ := fd_code (op := v1) (a := v2) (b := v3) (c := v4) K
  exact h1 _ (h2 _ ⟨rfl, fd_RR_m h3 (by omega) (by omega)⟩)
theorem i_vc_program {k : Nat} {u : SX} {v : SY} (I : i_Rel k u v) (hk : k + 5 ≤ 2561) (v1 : Int32) : wpX_program (fun r u' => wpY_program (fun r' v' => r' = r ∧ i_Rel (k + 5) u' v') v v1) u v1 := by
  obtain ⟨rc, cc, sl, nw, no, ops, o1, o2, o3, sz, st, pr, pc, rg, wk, jn, sd, br, io, cp, cl, hd, ct, wt, wc, rr, ab, dx, ox, ss, yy, sp, dy, ly, rfl, rfl, K⟩ := I
  obtain ⟨r, u', v', h1, h2, h3⟩ := fd_program (p := v1) K
  exact h1 _ (h2 _ ⟨rfl, fd_RR_m h3 (by omega) (by omega)⟩)
theorem i_vc_channel {k : Nat} {u : SX} {v : SY} (I : i_Rel k u v) (hk : k + 5 ≤ 2561) (v1 : Int32) (v2 : Int32) : wpX_channel (fun r u' => wpY_channel (fun r' v' => r' = r ∧ i_Rel (k + 5) u' v') v v1 v2) u v1 v2 := by
  obtain ⟨rc, cc, sl, nw, no, ops, o1, o2, o3, sz, st, pr, pc, rg, wk, jn, sd, br, io, cp, cl, hd, ct, wt, wc, rr, ab, dx, ox, ss, yy, sp, dy, ly, rfl, rfl, K⟩ := I
  obtain ⟨r, u', v', h1, h2, h3⟩ := fd_channel (c := v1) (p := v2) K
  exact h1 _ (h2 _ ⟨rfl, fd_RR_m h3 (by omega) (by omega)⟩)
theorem i_vc_slice {k : Nat} {u : SX} {v : SY} (I : i_Rel k u v) (hk : k + 5 ≤ 2561) (v1 : Int32) : wpX_slice (fun r u' => wpY_slice (fun r' v' => r' = r ∧ i_Rel (k + 5) u' v') v v1) u v1 := by
  obtain ⟨rc, cc, sl, nw, no, ops, o1, o2, o3, sz, st, pr, pc, rg, wk, jn, sd, br, io, cp, cl, hd, ct, wt, wc, rr, ab, dx, ox, ss, yy, sp, dy, ly, rfl, rfl, K⟩ := I
  obtain ⟨r, u', v', h1, h2, h3⟩ := fd_slice (n := v1) K
  exact h1 _ (h2 _ ⟨rfl, fd_RR_m h3 (by omega) (by omega)⟩)
theorem i_vc_start {k : Nat} {u : SX} {v : SY} (I : i_Rel k u v) (hk : k + 5 ≤ 2561) (v1 : Int32) (v2 : Int32) : wpX_start (fun r u' => wpY_start (fun r' v' => r' = r ∧ i_Rel (k + 5) u' v') v v1 v2) u v1 v2 := by
  obtain ⟨rc, cc, sl, nw, no, ops, o1, o2, o3, sz, st, pr, pc, rg, wk, jn, sd, br, io, cp, cl, hd, ct, wt, wc, rr, ab, dx, ox, ss, yy, sp, dy, ly, rfl, rfl, K⟩ := I
  obtain ⟨r, u', v', h1, h2, h3⟩ := fd_start (p := v1) (v := v2) (by omega) K
  exact h1 _ (h2 _ ⟨rfl, fd_RR_m h3 (by omega) (by omega)⟩)
theorem i_vc_run {k : Nat} {u : SX} {v : SY} (I : i_Rel k u v) (hk : k + 5 ≤ 2561) (v1 : Int32) : wpX_run (fun r u' => wpY_run (fun r' v' => r' = r ∧ i_Rel (k + 5) u' v') v v1) u v1 := by
  obtain ⟨rc, cc, sl, nw, no, ops, o1, o2, o3, sz, st, pr, pc, rg, wk, jn, sd, br, io, cp, cl, hd, ct, wt, wc, rr, ab, dx, ox, ss, yy, sp, dy, ly, rfl, rfl, K⟩ := I
  obtain ⟨r, u', v', h1, h2, h3⟩ := fd_runs (n := v1) (by omega) (by omega) K
  exact h1 _ (h2 _ ⟨rfl, fd_RR_m h3 (by omega) (by omega)⟩)
theorem i_vc_state {k : Nat} {u : SX} {v : SY} (I : i_Rel k u v) (hk : k + 5 ≤ 2561) (v1 : Int32) : wpX_state (fun r => wpY_state (fun r' => r' = r ∧ i_Rel (k + 5) u v) v v1) u v1 := by
  obtain ⟨rc, cc, sl, nw, no, ops, o1, o2, o3, sz, st, pr, pc, rg, wk, jn, sd, br, io, cp, cl, hd, ct, wt, wc, rr, ab, dx, ox, ss, yy, sp, dy, ly, rfl, rfl, K⟩ := I
  obtain ⟨r, h1, h2⟩ := fd_state (rc := rc) (cc := cc) (sl := sl) (nw := nw) (no := no) (ops := ops) (o1 := o1) (o2 := o2) (o3 := o3) (sz := sz) (st := st) (pr := pr) (pc := pc) (rg := rg) (wk := wk) (jn := jn) (sd := sd) (br := br) (io := io) (cp := cp) (cl := cl) (hd := hd) (ct := ct) (wt := wt) (wc := wc) (rr := rr) (ab := ab) (dx := dx) (ox := ox) (ss := ss) (yy := yy) (sp := sp) (dy := dy) (ly := ly) (f := v1)
  exact h1 _ (h2 _ ⟨rfl, ⟨rc, cc, sl, nw, no, ops, o1, o2, o3, sz, st, pr, pc, rg, wk, jn, sd, br, io, cp, cl, hd, ct, wt, wc, rr, ab, dx, ox, ss, yy, sp, dy, ly, rfl, rfl, fd_K_m K (by omega) (by omega)⟩⟩)
theorem i_vc_of {k : Nat} {u : SX} {v : SY} (I : i_Rel k u v) (hk : k + 5 ≤ 2561) (v1 : Int32) (v2 : Int32) : wpX_of (fun r => wpY_of (fun r' => r' = r ∧ i_Rel (k + 5) u v) v v1 v2) u v1 v2 := by
  obtain ⟨rc, cc, sl, nw, no, ops, o1, o2, o3, sz, st, pr, pc, rg, wk, jn, sd, br, io, cp, cl, hd, ct, wt, wc, rr, ab, dx, ox, ss, yy, sp, dy, ly, rfl, rfl, K⟩ := I
  obtain ⟨r, h1, h2⟩ := fd_ofs (rc := rc) (cc := cc) (sl := sl) (nw := nw) (no := no) (ops := ops) (o1 := o1) (o2 := o2) (o3 := o3) (sz := sz) (st := st) (pr := pr) (pc := pc) (rg := rg) (wk := wk) (jn := jn) (sd := sd) (br := br) (io := io) (cp := cp) (cl := cl) (hd := hd) (ct := ct) (wt := wt) (wc := wc) (rr := rr) (ab := ab) (dx := dx) (ox := ox) (ss := ss) (yy := yy) (sp := sp) (dy := dy) (ly := ly) (f := v1) (w := v2)
  exact h1 _ (h2 _ ⟨rfl, ⟨rc, cc, sl, nw, no, ops, o1, o2, o3, sz, st, pr, pc, rg, wk, jn, sd, br, io, cp, cl, hd, ct, wt, wc, rr, ab, dx, ox, ss, yy, sp, dy, ly, rfl, rfl, fd_K_m K (by omega) (by omega)⟩⟩)
theorem i_vc_row {k : Nat} {u : SX} {v : SY} (I : i_Rel k u v) (hk : k + 5 ≤ 2561) (v1 : Int32) : wpX_row (fun r => wpY_row (fun r' => r' = r ∧ i_Rel (k + 5) u v) v v1) u v1 := by
  obtain ⟨rc, cc, sl, nw, no, ops, o1, o2, o3, sz, st, pr, pc, rg, wk, jn, sd, br, io, cp, cl, hd, ct, wt, wc, rr, ab, dx, ox, ss, yy, sp, dy, ly, rfl, rfl, K⟩ := I
  obtain ⟨r, h1, h2⟩ := fd_row (k := v1) K
  exact h1 _ (h2 _ ⟨rfl, ⟨rc, cc, sl, nw, no, ops, o1, o2, o3, sz, st, pr, pc, rg, wk, jn, sd, br, io, cp, cl, hd, ct, wt, wc, rr, ab, dx, ox, ss, yy, sp, dy, ly, rfl, rfl, fd_K_m K (by omega) (by omega)⟩⟩)
theorem i_vc_carrier {k : Nat} {u : SX} {v : SY} (I : i_Rel k u v) (hk : k + 5 ≤ 2561) (v1 : Int32) : wpX_carrier (fun r => wpY_carrier (fun r' => r' = r ∧ i_Rel (k + 5) u v) v v1) u v1 := by
  obtain ⟨rc, cc, sl, nw, no, ops, o1, o2, o3, sz, st, pr, pc, rg, wk, jn, sd, br, io, cp, cl, hd, ct, wt, wc, rr, ab, dx, ox, ss, yy, sp, dy, ly, rfl, rfl, K⟩ := I
  obtain ⟨r, h1, h2⟩ := fd_carrier (k := v1) K
  exact h1 _ (h2 _ ⟨rfl, ⟨rc, cc, sl, nw, no, ops, o1, o2, o3, sz, st, pr, pc, rg, wk, jn, sd, br, io, cp, cl, hd, ct, wt, wc, rr, ab, dx, ox, ss, yy, sp, dy, ly, rfl, rfl, fd_K_m K (by omega) (by omega)⟩⟩)
theorem i_vc_held {k : Nat} {u : SX} {v : SY} (I : i_Rel k u v) (hk : k + 5 ≤ 2561) (v1 : Int32) (v2 : Int32) : wpX_held (fun r => wpY_held (fun r' => r' = r ∧ i_Rel (k + 5) u v) v v1 v2) u v1 v2 := by
  obtain ⟨rc, cc, sl, nw, no, ops, o1, o2, o3, sz, st, pr, pc, rg, wk, jn, sd, br, io, cp, cl, hd, ct, wt, wc, rr, ab, dx, ox, ss, yy, sp, dy, ly, rfl, rfl, K⟩ := I
  obtain ⟨r, h1, h2⟩ := fd_held (c := v1) (k := v2) K
  exact h1 _ (h2 _ ⟨rfl, ⟨rc, cc, sl, nw, no, ops, o1, o2, o3, sz, st, pr, pc, rg, wk, jn, sd, br, io, cp, cl, hd, ct, wt, wc, rr, ab, dx, ox, ss, yy, sp, dy, ly, rfl, rfl, fd_K_m K (by omega) (by omega)⟩⟩)
theorem i_vc_waits {k : Nat} {u : SX} {v : SY} (I : i_Rel k u v) (hk : k + 5 ≤ 2561) (v1 : Int32) (v2 : Int32) : wpX_waits (fun r => wpY_waits (fun r' => r' = r ∧ i_Rel (k + 5) u v) v v1 v2) u v1 v2 := by
  obtain ⟨rc, cc, sl, nw, no, ops, o1, o2, o3, sz, st, pr, pc, rg, wk, jn, sd, br, io, cp, cl, hd, ct, wt, wc, rr, ab, dx, ox, ss, yy, sp, dy, ly, rfl, rfl, K⟩ := I
  obtain ⟨r, h1, h2⟩ := fd_waits (c := v1) (k := v2) K
  exact h1 _ (h2 _ ⟨rfl, ⟨rc, cc, sl, nw, no, ops, o1, o2, o3, sz, st, pr, pc, rg, wk, jn, sd, br, io, cp, cl, hd, ct, wt, wc, rr, ab, dx, ox, ss, yy, sp, dy, ly, rfl, rfl, fd_K_m K (by omega) (by omega)⟩⟩)
theorem i_vc_out {k : Nat} {u : SX} {v : SY} (I : i_Rel k u v) (hk : k + 5 ≤ 2561) (v1 : Int32) : wpX_out (fun r => wpY_out (fun r' => r' = r ∧ i_Rel (k + 5) u v) v v1) u v1 := by
  obtain ⟨rc, cc, sl, nw, no, ops, o1, o2, o3, sz, st, pr, pc, rg, wk, jn, sd, br, io, cp, cl, hd, ct, wt, wc, rr, ab, dx, ox, ss, yy, sp, dy, ly, rfl, rfl, K⟩ := I
  obtain ⟨r, h1, h2⟩ := fd_out (k := v1) (by omega) K
  exact h1 _ (h2 _ ⟨rfl, ⟨rc, cc, sl, nw, no, ops, o1, o2, o3, sz, st, pr, pc, rg, wk, jn, sd, br, io, cp, cl, hd, ct, wt, wc, rr, ab, dx, ox, ss, yy, sp, dy, ly, rfl, rfl, fd_K_m K (by omega) (by omega)⟩⟩)
theorem i_vc_time {k : Nat} {u : SX} {v : SY} (I : i_Rel k u v) (hk : k + 5 ≤ 2561) : wpX_time (fun r => wpY_time (fun r' => r' = r ∧ i_Rel (k + 5) u v) v) u := by
  obtain ⟨rc, cc, sl, nw, no, ops, o1, o2, o3, sz, st, pr, pc, rg, wk, jn, sd, br, io, cp, cl, hd, ct, wt, wc, rr, ab, dx, ox, ss, yy, sp, dy, ly, rfl, rfl, K⟩ := I
  exact ⟨rfl, ⟨rc, cc, sl, nw, no, ops, o1, o2, o3, sz, st, pr, pc, rg, wk, jn, sd, br, io, cp, cl, hd, ct, wt, wc, rr, ab, dx, ox, ss, yy, sp, dy, ly, rfl, rfl, fd_K_m K (by omega) (by omega)⟩⟩
end
