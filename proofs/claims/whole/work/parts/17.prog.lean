theorem fd_g0 {a b c : Int32} : fd_gd 0 a b c ↔ (vp_in a 3) := ⟨fun h => h.2.1 (Or.inl rfl), fun h => ⟨vp_in_nI (n := 0) (by omega) (by omega), fun _ => h, fun z => absurd z (by decide), fun z => absurd z (by decide), fun z => absurd z (by decide), fun z => absurd z (by decide), fun z => absurd z (by decide), fun z => absurd z (by decide), fun z => absurd z (by decide)⟩⟩
theorem fd_g1 {a b c : Int32} : fd_gd 1 a b c ↔ (vp_in a 3 ∧ vp_in b 3) := ⟨fun h => h.2.2.1 (Or.inl rfl), fun h => ⟨vp_in_nI (n := 1) (by omega) (by omega), fun z => absurd z (by decide), fun _ => h, fun z => absurd z (by decide), fun z => absurd z (by decide), fun z => absurd z (by decide), fun z => absurd z (by decide), fun z => absurd z (by decide), fun z => absurd z (by decide)⟩⟩
theorem fd_g2 {a b c : Int32} : fd_gd 2 a b c ↔ (vp_in a 13) := ⟨fun h => h.2.2.2.1 (rfl), fun h => ⟨vp_in_nI (n := 2) (by omega) (by omega), fun z => absurd z (by decide), fun z => absurd z (by decide), fun _ => h, fun z => absurd z (by decide), fun z => absurd z (by decide), fun z => absurd z (by decide), fun z => absurd z (by decide), fun z => absurd z (by decide)⟩⟩
theorem fd_g3 {a b c : Int32} : fd_gd 3 a b c ↔ (vp_in a 3 ∧ vp_in b 13) := ⟨fun h => h.2.2.2.2.1 (rfl), fun h => ⟨vp_in_nI (n := 3) (by omega) (by omega), fun z => absurd z (by decide), fun z => absurd z (by decide), fun z => absurd z (by decide), fun _ => h, fun z => absurd z (by decide), fun z => absurd z (by decide), fun z => absurd z (by decide), fun z => absurd z (by decide)⟩⟩
theorem fd_g4 {a b c : Int32} : fd_gd 4 a b c := ⟨vp_in_nI (n := 4) (by omega) (by omega), fun z => absurd z (by decide), fun z => absurd z (by decide), fun z => absurd z (by decide), fun z => absurd z (by decide), fun z => absurd z (by decide), fun z => absurd z (by decide), fun z => absurd z (by decide), fun z => absurd z (by decide)⟩
theorem fd_g5 {a b c : Int32} : fd_gd 5 a b c ↔ (vp_in a 3) := ⟨fun h => h.2.1 (Or.inr (Or.inl rfl)), fun h => ⟨vp_in_nI (n := 5) (by omega) (by omega), fun _ => h, fun z => absurd z (by decide), fun z => absurd z (by decide), fun z => absurd z (by decide), fun z => absurd z (by decide), fun z => absurd z (by decide), fun z => absurd z (by decide), fun z => absurd z (by decide)⟩⟩
theorem fd_g6 {a b c : Int32} : fd_gd 6 a b c ↔ (vp_in a 4 ∧ vp_in b 3) := ⟨fun h => h.2.2.2.2.2.1 (Or.inl rfl), fun h => ⟨vp_in_nI (n := 6) (by omega) (by omega), fun z => absurd z (by decide), fun z => absurd z (by decide), fun z => absurd z (by decide), fun z => absurd z (by decide), fun _ => h, fun z => absurd z (by decide), fun z => absurd z (by decide), fun z => absurd z (by decide)⟩⟩
theorem fd_g7 {a b c : Int32} : fd_gd 7 a b c ↔ (vp_in a 4 ∧ vp_in b 3) := ⟨fun h => h.2.2.2.2.2.1 (Or.inr rfl), fun h => ⟨vp_in_nI (n := 7) (by omega) (by omega), fun z => absurd z (by decide), fun z => absurd z (by decide), fun z => absurd z (by decide), fun z => absurd z (by decide), fun _ => h, fun z => absurd z (by decide), fun z => absurd z (by decide), fun z => absurd z (by decide)⟩⟩
theorem fd_g8 {a b c : Int32} : fd_gd 8 a b c ↔ (vp_in a 4 ∧ vp_in b 4 ∧ vp_in c 3) := ⟨fun h => h.2.2.2.2.2.2.1 (rfl), fun h => ⟨vp_in_nI (n := 8) (by omega) (by omega), fun z => absurd z (by decide), fun z => absurd z (by decide), fun z => absurd z (by decide), fun z => absurd z (by decide), fun z => absurd z (by decide), fun _ => h, fun z => absurd z (by decide), fun z => absurd z (by decide)⟩⟩
theorem fd_g9 {a b c : Int32} : fd_gd 9 a b c ↔ (vp_in a 6 ∧ vp_in b 3) := ⟨fun h => h.2.2.2.2.2.2.2.1 (rfl), fun h => ⟨vp_in_nI (n := 9) (by omega) (by omega), fun z => absurd z (by decide), fun z => absurd z (by decide), fun z => absurd z (by decide), fun z => absurd z (by decide), fun z => absurd z (by decide), fun z => absurd z (by decide), fun _ => h, fun z => absurd z (by decide)⟩⟩
theorem fd_g10 {a b c : Int32} : fd_gd 10 a b c ↔ (vp_in a 3 ∧ vp_in b 3) := ⟨fun h => h.2.2.1 (Or.inr rfl), fun h => ⟨vp_in_nI (n := 10) (by omega) (by omega), fun z => absurd z (by decide), fun _ => h, fun z => absurd z (by decide), fun z => absurd z (by decide), fun z => absurd z (by decide), fun z => absurd z (by decide), fun z => absurd z (by decide), fun z => absurd z (by decide)⟩⟩
theorem fd_g11 {a b c : Int32} : fd_gd 11 a b c ↔ (vp_in a 4) := ⟨fun h => h.2.2.2.2.2.2.2.2 (rfl), fun h => ⟨vp_in_nI (n := 11) (by omega) (by omega), fun z => absurd z (by decide), fun z => absurd z (by decide), fun z => absurd z (by decide), fun z => absurd z (by decide), fun z => absurd z (by decide), fun z => absurd z (by decide), fun z => absurd z (by decide), fun _ => h⟩⟩
theorem fd_g12 {a b c : Int32} : fd_gd 12 a b c ↔ (vp_in a 3) := ⟨fun h => h.2.1 (Or.inr (Or.inr rfl)), fun h => ⟨vp_in_nI (n := 12) (by omega) (by omega), fun _ => h, fun z => absurd z (by decide), fun z => absurd z (by decide), fun z => absurd z (by decide), fun z => absurd z (by decide), fun z => absurd z (by decide), fun z => absurd z (by decide), fun z => absurd z (by decide)⟩⟩
theorem fd_g13 {a b c : Int32} : fd_gd 13 a b c := ⟨vp_in_nI (n := 13) (by omega) (by omega), fun z => absurd z (by decide), fun z => absurd z (by decide), fun z => absurd z (by decide), fun z => absurd z (by decide), fun z => absurd z (by decide), fun z => absurd z (by decide), fun z => absurd z (by decide), fun z => absurd z (by decide)⟩
theorem fd_X_tg {x : Int32} {post : Int32 → Prop} (h1 : vp_in x 13 → post 1) (h0 : ¬ vp_in x 13 → post 0) : wpX_isTarget post x :=
  And.intro (fun q => h0 (fun z => fd_nn z q)) (fun q => ⟨fun q' => h0 (fun z => ((fd_wi (n := 12) (by omega)).mp z).2 q'), fun q' => h1 ((fd_wi (n := 12) (by omega)).mpr ⟨q, q'⟩)⟩)
theorem fd_Xg0 {post : Int32 → Prop} {a b c : Int32} (h1 : fd_gd 0 a b c → post 1) (h0 : ¬ fd_gd 0 a b c → post 0) : wpX_operandsFit post 0 a b c := br_f (by decide) (br_f (by decide) (br_t rfl (by unfold wX_operandsFit_68; exact fd_X_bl 3 (by omega) rfl (fun z0 => ⟨rfl, h1 (fd_g0.mpr z0)⟩) (fun z0 => ⟨rfl, h0 (fun q => z0 (fd_g0.mp q))⟩))))
theorem fd_Xg1 {post : Int32 → Prop} {a b c : Int32} (h1 : fd_gd 1 a b c → post 1) (h0 : ¬ fd_gd 1 a b c → post 0) : wpX_operandsFit post 1 a b c := br_f (by decide) (br_f (by decide) (br_f (by decide) (br_t rfl (by unfold wX_operandsFit_74; exact fd_X_bl 3 (by omega) rfl (fun z0 => br_f (by decide) (fd_X_bl 3 (by omega) rfl (fun z1 => br_f (by decide) (h1 (fd_g1.mpr ⟨z0, z1⟩))) (fun z1 => br_t rfl (h0 (fun q => z1 (fd_g1.mp q).2))))) (fun z0 => br_t rfl (h0 (fun q => z0 (fd_g1.mp q).1)))))))
theorem fd_Xg2 {post : Int32 → Prop} {a b c : Int32} (h1 : fd_gd 2 a b c → post 1) (h0 : ¬ fd_gd 2 a b c → post 0) : wpX_operandsFit post 2 a b c := br_f (by decide) (br_f (by decide) (br_f (by decide) (br_f (by decide) (br_t rfl (fd_X_tg (fun z0 => ⟨rfl, h1 (fd_g2.mpr z0)⟩) (fun z0 => ⟨rfl, h0 (fun q => z0 (fd_g2.mp q))⟩))))))
theorem fd_Xg3 {post : Int32 → Prop} {a b c : Int32} (h1 : fd_gd 3 a b c → post 1) (h0 : ¬ fd_gd 3 a b c → post 0) : wpX_operandsFit post 3 a b c := br_f (by decide) (br_f (by decide) (br_f (by decide) (br_f (by decide) (br_f (by decide) (br_t rfl (fd_X_bl 3 (by omega) rfl (fun z0 => br_f (by decide) (fd_X_tg (fun z1 => br_f (by decide) (h1 (fd_g3.mpr ⟨z0, z1⟩))) (fun z1 => br_t rfl (h0 (fun q => z1 (fd_g3.mp q).2))))) (fun z0 => br_t rfl (h0 (fun q => z0 (fd_g3.mp q).1)))))))))
theorem fd_Xg4 {post : Int32 → Prop} {a b c : Int32} (h1 : fd_gd 4 a b c → post 1) (h0 : ¬ fd_gd 4 a b c → post 0) : wpX_operandsFit post 4 a b c := br_f (by decide) (br_f (by decide) (br_f (by decide) (br_f (by decide) (br_f (by decide) (br_f (by decide) (br_t rfl (br_t rfl (h1 fd_g4))))))))
theorem fd_Xg5 {post : Int32 → Prop} {a b c : Int32} (h1 : fd_gd 5 a b c → post 1) (h0 : ¬ fd_gd 5 a b c → post 0) : wpX_operandsFit post 5 a b c := br_f (by decide) (br_f (by decide) (br_f (by decide) (br_f (by decide) (br_f (by decide) (br_f (by decide) (br_f (by decide) (br_t rfl (by unfold wX_operandsFit_68; exact fd_X_bl 3 (by omega) rfl (fun z0 => ⟨rfl, h1 (fd_g5.mpr z0)⟩) (fun z0 => ⟨rfl, h0 (fun q => z0 (fd_g5.mp q))⟩)))))))))
theorem fd_Xg6 {post : Int32 → Prop} {a b c : Int32} (h1 : fd_gd 6 a b c → post 1) (h0 : ¬ fd_gd 6 a b c → post 0) : wpX_operandsFit post 6 a b c := br_f (by decide) (br_f (by decide) (br_f (by decide) (br_f (by decide) (br_f (by decide) (br_f (by decide) (br_f (by decide) (br_f (by decide) (br_t rfl (by unfold wX_operandsFit_122; exact fd_X_bl 4 (by omega) rfl (fun z0 => br_f (by decide) (fd_X_bl 3 (by omega) rfl (fun z1 => br_f (by decide) (h1 (fd_g6.mpr ⟨z0, z1⟩))) (fun z1 => br_t rfl (h0 (fun q => z1 (fd_g6.mp q).2))))) (fun z0 => br_t rfl (h0 (fun q => z0 (fd_g6.mp q).1))))))))))))
theorem fd_Xg7 {post : Int32 → Prop} {a b c : Int32} (h1 : fd_gd 7 a b c → post 1) (h0 : ¬ fd_gd 7 a b c → post 0) : wpX_operandsFit post 7 a b c := br_f (by decide) (br_f (by decide) (br_f (by decide) (br_f (by decide) (br_f (by decide) (br_f (by decide) (br_f (by decide) (br_f (by decide) (br_f (by decide) (br_t rfl (by unfold wX_operandsFit_122; exact fd_X_bl 4 (by omega) rfl (fun z0 => br_f (by decide) (fd_X_bl 3 (by omega) rfl (fun z1 => br_f (by decide) (h1 (fd_g7.mpr ⟨z0, z1⟩))) (fun z1 => br_t rfl (h0 (fun q => z1 (fd_g7.mp q).2))))) (fun z0 => br_t rfl (h0 (fun q => z0 (fd_g7.mp q).1)))))))))))))
theorem fd_Xg8 {post : Int32 → Prop} {a b c : Int32} (h1 : fd_gd 8 a b c → post 1) (h0 : ¬ fd_gd 8 a b c → post 0) : wpX_operandsFit post 8 a b c := br_f (by decide) (br_f (by decide) (br_f (by decide) (br_f (by decide) (br_f (by decide) (br_f (by decide) (br_f (by decide) (br_f (by decide) (br_f (by decide) (br_f (by decide) (br_t rfl (fd_X_bl 4 (by omega) rfl (fun z0 => br_f (by decide) (fd_X_bl 4 (by omega) rfl (fun z1 => br_f (by decide) (fd_X_bl 3 (by omega) rfl (fun z2 => br_f (by decide) (h1 (fd_g8.mpr ⟨z0, z1, z2⟩))) (fun z2 => br_t rfl (h0 (fun q => z2 (fd_g8.mp q).2.2))))) (fun z1 => br_t rfl (h0 (fun q => z1 (fd_g8.mp q).2.1))))) (fun z0 => br_t rfl (h0 (fun q => z0 (fd_g8.mp q).1))))))))))))))
theorem fd_Xg9 {post : Int32 → Prop} {a b c : Int32} (h1 : fd_gd 9 a b c → post 1) (h0 : ¬ fd_gd 9 a b c → post 0) : wpX_operandsFit post 9 a b c := br_f (by decide) (br_f (by decide) (br_f (by decide) (br_f (by decide) (br_f (by decide) (br_f (by decide) (br_f (by decide) (br_f (by decide) (br_f (by decide) (br_f (by decide) (br_f (by decide) (br_t rfl (fd_X_bl 6 (by omega) rfl (fun z0 => br_f (by decide) (fd_X_bl 3 (by omega) rfl (fun z1 => br_f (by decide) (h1 (fd_g9.mpr ⟨z0, z1⟩))) (fun z1 => br_t rfl (h0 (fun q => z1 (fd_g9.mp q).2))))) (fun z0 => br_t rfl (h0 (fun q => z0 (fd_g9.mp q).1)))))))))))))))
theorem fd_Xg10 {post : Int32 → Prop} {a b c : Int32} (h1 : fd_gd 10 a b c → post 1) (h0 : ¬ fd_gd 10 a b c → post 0) : wpX_operandsFit post 10 a b c := br_f (by decide) (br_f (by decide) (br_f (by decide) (br_f (by decide) (br_f (by decide) (br_f (by decide) (br_f (by decide) (br_f (by decide) (br_f (by decide) (br_f (by decide) (br_f (by decide) (br_f (by decide) (br_t rfl (by unfold wX_operandsFit_74; exact fd_X_bl 3 (by omega) rfl (fun z0 => br_f (by decide) (fd_X_bl 3 (by omega) rfl (fun z1 => br_f (by decide) (h1 (fd_g10.mpr ⟨z0, z1⟩))) (fun z1 => br_t rfl (h0 (fun q => z1 (fd_g10.mp q).2))))) (fun z0 => br_t rfl (h0 (fun q => z0 (fd_g10.mp q).1))))))))))))))))
theorem fd_Xg11 {post : Int32 → Prop} {a b c : Int32} (h1 : fd_gd 11 a b c → post 1) (h0 : ¬ fd_gd 11 a b c → post 0) : wpX_operandsFit post 11 a b c := br_f (by decide) (br_f (by decide) (br_f (by decide) (br_f (by decide) (br_f (by decide) (br_f (by decide) (br_f (by decide) (br_f (by decide) (br_f (by decide) (br_f (by decide) (br_f (by decide) (br_f (by decide) (br_f (by decide) (br_t rfl (fd_X_bl 4 (by omega) rfl (fun z0 => ⟨rfl, h1 (fd_g11.mpr z0)⟩) (fun z0 => ⟨rfl, h0 (fun q => z0 (fd_g11.mp q))⟩)))))))))))))))
theorem fd_Xg12 {post : Int32 → Prop} {a b c : Int32} (h1 : fd_gd 12 a b c → post 1) (h0 : ¬ fd_gd 12 a b c → post 0) : wpX_operandsFit post 12 a b c := br_f (by decide) (br_f (by decide) (br_f (by decide) (br_f (by decide) (br_f (by decide) (br_f (by decide) (br_f (by decide) (br_f (by decide) (br_f (by decide) (br_f (by decide) (br_f (by decide) (br_f (by decide) (br_f (by decide) (br_f (by decide) (br_t rfl (by unfold wX_operandsFit_68; exact fd_X_bl 3 (by omega) rfl (fun z0 => ⟨rfl, h1 (fd_g12.mpr z0)⟩) (fun z0 => ⟨rfl, h0 (fun q => z0 (fd_g12.mp q))⟩))))))))))))))))
theorem fd_Xg13 {post : Int32 → Prop} {a b c : Int32} (h1 : fd_gd 13 a b c → post 1) (h0 : ¬ fd_gd 13 a b c → post 0) : wpX_operandsFit post 13 a b c := br_f (by decide) (br_t (by decide) (br_f (by decide) (br_t rfl (h1 fd_g13))))
theorem fd_Yg0 {post : Int32 → Prop} {a b c : Int32} (h1 : fd_gd 0 a b c → post 1) (h0 : ¬ fd_gd 0 a b c → post 0) : wpY_isGood post 0 a b c := br_f (by decide) (br_f (by decide) (br_t rfl (by unfold wY_isGood_72; exact fd_Y_wi 2 (by omega) rfl (fun z0 => ⟨rfl, h1 (fd_g0.mpr z0)⟩) (fun z0 => ⟨rfl, h0 (fun q => z0 (fd_g0.mp q))⟩))))
theorem fd_Yg1 {post : Int32 → Prop} {a b c : Int32} (h1 : fd_gd 1 a b c → post 1) (h0 : ¬ fd_gd 1 a b c → post 0) : wpY_isGood post 1 a b c := br_f (by decide) (br_f (by decide) (br_f (by decide) (br_t rfl (by unfold wY_isGood_79; exact fd_Y_wi 2 (by omega) rfl (fun z0 => br_f (by decide) (fd_Y_wi 2 (by omega) rfl (fun z1 => br_f (by decide) (h1 (fd_g1.mpr ⟨z0, z1⟩))) (fun z1 => br_t rfl (h0 (fun q => z1 (fd_g1.mp q).2))))) (fun z0 => br_t rfl (h0 (fun q => z0 (fd_g1.mp q).1)))))))
theorem fd_Yg2 {post : Int32 → Prop} {a b c : Int32} (h1 : fd_gd 2 a b c → post 1) (h0 : ¬ fd_gd 2 a b c → post 0) : wpY_isGood post 2 a b c := br_f (by decide) (br_f (by decide) (br_f (by decide) (br_f (by decide) (br_t rfl (fd_Y_wi 12 (by omega) rfl (fun z0 => ⟨rfl, h1 (fd_g2.mpr z0)⟩) (fun z0 => ⟨rfl, h0 (fun q => z0 (fd_g2.mp q))⟩))))))
theorem fd_Yg3 {post : Int32 → Prop} {a b c : Int32} (h1 : fd_gd 3 a b c → post 1) (h0 : ¬ fd_gd 3 a b c → post 0) : wpY_isGood post 3 a b c := br_f (by decide) (br_f (by decide) (br_f (by decide) (br_f (by decide) (br_f (by decide) (br_t rfl (fd_Y_wi 2 (by omega) rfl (fun z0 => br_f (by decide) (fd_Y_wi 12 (by omega) rfl (fun z1 => br_f (by decide) (h1 (fd_g3.mpr ⟨z0, z1⟩))) (fun z1 => br_t rfl (h0 (fun q => z1 (fd_g3.mp q).2))))) (fun z0 => br_t rfl (h0 (fun q => z0 (fd_g3.mp q).1)))))))))
theorem fd_Yg4 {post : Int32 → Prop} {a b c : Int32} (h1 : fd_gd 4 a b c → post 1) (h0 : ¬ fd_gd 4 a b c → post 0) : wpY_isGood post 4 a b c := br_f (by decide) (br_f (by decide) (br_f (by decide) (br_f (by decide) (br_f (by decide) (br_f (by decide) (br_t rfl (h1 fd_g4)))))))
theorem fd_Yg5 {post : Int32 → Prop} {a b c : Int32} (h1 : fd_gd 5 a b c → post 1) (h0 : ¬ fd_gd 5 a b c → post 0) : wpY_isGood post 5 a b c := br_f (by decide) (br_f (by decide) (br_f (by decide) (br_f (by decide) (br_f (by decide) (br_f (by decide) (br_f (by decide) (br_t rfl (by unfold wY_isGood_72; exact fd_Y_wi 2 (by omega) rfl (fun z0 => ⟨rfl, h1 (fd_g5.mpr z0)⟩) (fun z0 => ⟨rfl, h0 (fun q => z0 (fd_g5.mp q))⟩)))))))))
theorem fd_Yg6 {post : Int32 → Prop} {a b c : Int32} (h1 : fd_gd 6 a b c → post 1) (h0 : ¬ fd_gd 6 a b c → post 0) : wpY_isGood post 6 a b c := br_f (by decide) (br_f (by decide) (br_f (by decide) (br_f (by decide) (br_f (by decide) (br_f (by decide) (br_f (by decide) (br_f (by decide) (br_t rfl (by unfold wY_isGood_138; exact fd_Y_wi 3 (by omega) rfl (fun z0 => br_f (by decide) (fd_Y_wi 2 (by omega) rfl (fun z1 => br_f (by decide) (h1 (fd_g6.mpr ⟨z0, z1⟩))) (fun z1 => br_t rfl (h0 (fun q => z1 (fd_g6.mp q).2))))) (fun z0 => br_t rfl (h0 (fun q => z0 (fd_g6.mp q).1))))))))))))
theorem fd_Yg7 {post : Int32 → Prop} {a b c : Int32} (h1 : fd_gd 7 a b c → post 1) (h0 : ¬ fd_gd 7 a b c → post 0) : wpY_isGood post 7 a b c := br_f (by decide) (br_f (by decide) (br_f (by decide) (br_f (by decide) (br_f (by decide) (br_f (by decide) (br_f (by decide) (br_f (by decide) (br_f (by decide) (br_t rfl (by unfold wY_isGood_138; exact fd_Y_wi 3 (by omega) rfl (fun z0 => br_f (by decide) (fd_Y_wi 2 (by omega) rfl (fun z1 => br_f (by decide) (h1 (fd_g7.mpr ⟨z0, z1⟩))) (fun z1 => br_t rfl (h0 (fun q => z1 (fd_g7.mp q).2))))) (fun z0 => br_t rfl (h0 (fun q => z0 (fd_g7.mp q).1)))))))))))))
theorem fd_Yg8 {post : Int32 → Prop} {a b c : Int32} (h1 : fd_gd 8 a b c → post 1) (h0 : ¬ fd_gd 8 a b c → post 0) : wpY_isGood post 8 a b c := br_f (by decide) (br_f (by decide) (br_f (by decide) (br_f (by decide) (br_f (by decide) (br_f (by decide) (br_f (by decide) (br_f (by decide) (br_f (by decide) (br_f (by decide) (br_t rfl (fd_Y_wi 3 (by omega) rfl (fun z0 => br_f (by decide) (fd_Y_wi 3 (by omega) rfl (fun z1 => br_f (by decide) (fd_Y_wi 2 (by omega) rfl (fun z2 => br_f (by decide) (h1 (fd_g8.mpr ⟨z0, z1, z2⟩))) (fun z2 => br_t rfl (h0 (fun q => z2 (fd_g8.mp q).2.2))))) (fun z1 => br_t rfl (h0 (fun q => z1 (fd_g8.mp q).2.1))))) (fun z0 => br_t rfl (h0 (fun q => z0 (fd_g8.mp q).1))))))))))))))
theorem fd_Yg9 {post : Int32 → Prop} {a b c : Int32} (h1 : fd_gd 9 a b c → post 1) (h0 : ¬ fd_gd 9 a b c → post 0) : wpY_isGood post 9 a b c := br_f (by decide) (br_f (by decide) (br_f (by decide) (br_f (by decide) (br_f (by decide) (br_f (by decide) (br_f (by decide) (br_f (by decide) (br_f (by decide) (br_f (by decide) (br_f (by decide) (br_t rfl (fd_Y_wi 5 (by omega) rfl (fun z0 => br_f (by decide) (fd_Y_wi 2 (by omega) rfl (fun z1 => br_f (by decide) (h1 (fd_g9.mpr ⟨z0, z1⟩))) (fun z1 => br_t rfl (h0 (fun q => z1 (fd_g9.mp q).2))))) (fun z0 => br_t rfl (h0 (fun q => z0 (fd_g9.mp q).1)))))))))))))))
theorem fd_Yg10 {post : Int32 → Prop} {a b c : Int32} (h1 : fd_gd 10 a b c → post 1) (h0 : ¬ fd_gd 10 a b c → post 0) : wpY_isGood post 10 a b c := br_f (by decide) (br_f (by decide) (br_f (by decide) (br_f (by decide) (br_f (by decide) (br_f (by decide) (br_f (by decide) (br_f (by decide) (br_f (by decide) (br_f (by decide) (br_f (by decide) (br_f (by decide) (br_t rfl (by unfold wY_isGood_79; exact fd_Y_wi 2 (by omega) rfl (fun z0 => br_f (by decide) (fd_Y_wi 2 (by omega) rfl (fun z1 => br_f (by decide) (h1 (fd_g10.mpr ⟨z0, z1⟩))) (fun z1 => br_t rfl (h0 (fun q => z1 (fd_g10.mp q).2))))) (fun z0 => br_t rfl (h0 (fun q => z0 (fd_g10.mp q).1))))))))))))))))
theorem fd_Yg11 {post : Int32 → Prop} {a b c : Int32} (h1 : fd_gd 11 a b c → post 1) (h0 : ¬ fd_gd 11 a b c → post 0) : wpY_isGood post 11 a b c := br_f (by decide) (br_f (by decide) (br_f (by decide) (br_f (by decide) (br_f (by decide) (br_f (by decide) (br_f (by decide) (br_f (by decide) (br_f (by decide) (br_f (by decide) (br_f (by decide) (br_f (by decide) (br_f (by decide) (br_t rfl (fd_Y_wi 3 (by omega) rfl (fun z0 => ⟨rfl, h1 (fd_g11.mpr z0)⟩) (fun z0 => ⟨rfl, h0 (fun q => z0 (fd_g11.mp q))⟩)))))))))))))))
theorem fd_Yg12 {post : Int32 → Prop} {a b c : Int32} (h1 : fd_gd 12 a b c → post 1) (h0 : ¬ fd_gd 12 a b c → post 0) : wpY_isGood post 12 a b c := br_f (by decide) (br_f (by decide) (br_f (by decide) (br_f (by decide) (br_f (by decide) (br_f (by decide) (br_f (by decide) (br_f (by decide) (br_f (by decide) (br_f (by decide) (br_f (by decide) (br_f (by decide) (br_f (by decide) (br_f (by decide) (br_t rfl (by unfold wY_isGood_72; exact fd_Y_wi 2 (by omega) rfl (fun z0 => ⟨rfl, h1 (fd_g12.mpr z0)⟩) (fun z0 => ⟨rfl, h0 (fun q => z0 (fd_g12.mp q))⟩))))))))))))))))
theorem fd_Yg13 {post : Int32 → Prop} {a b c : Int32} (h1 : fd_gd 13 a b c → post 1) (h0 : ¬ fd_gd 13 a b c → post 0) : wpY_isGood post 13 a b c := br_f (by decide) (br_f (by decide) (br_f (by decide) (br_f (by decide) (br_f (by decide) (br_f (by decide) (br_f (by decide) (br_f (by decide) (br_f (by decide) (br_f (by decide) (br_f (by decide) (br_f (by decide) (br_f (by decide) (br_f (by decide) (br_f (by decide) (br_t rfl (h1 fd_g13))))))))))))))))
theorem fd_X_fit {post : Int32 → Prop} {op a b c : Int32} (h1 : fd_gd op a b c → post 1) (h0 : ¬ fd_gd op a b c → post 0) : wpX_operandsFit post op a b c := by
  rcases Classical.em (vp_in op 14) with hv | hv
  · obtain ⟨j, hj, e⟩ := vp_in_of hv (by omega)
    subst e
    rcases (by omega : j = 0 ∨ j = 1 ∨ j = 2 ∨ j = 3 ∨ j = 4 ∨ j = 5 ∨ j = 6 ∨ j = 7 ∨ j = 8 ∨ j = 9 ∨ j = 10 ∨ j = 11 ∨ j = 12 ∨ j = 13) with q | q | q | q | q | q | q | q | q | q | q | q | q | q <;> subst q
    · exact fd_Xg0 h1 h0
    · exact fd_Xg1 h1 h0
    · exact fd_Xg2 h1 h0
    · exact fd_Xg3 h1 h0
    · exact fd_Xg4 h1 h0
    · exact fd_Xg5 h1 h0
    · exact fd_Xg6 h1 h0
    · exact fd_Xg7 h1 h0
    · exact fd_Xg8 h1 h0
    · exact fd_Xg9 h1 h0
    · exact fd_Xg10 h1 h0
    · exact fd_Xg11 h1 h0
    · exact fd_Xg12 h1 h0
    · exact fd_Xg13 h1 h0
  · have p0 := h0 (fun z => hv z.1)
    have n4 : ¬ op = 4 := fun e => hv (by rw [e]; exact vp_in_nI (n := 4) (by omega) (by omega))
    have n13 : ¬ op = 13 := fun e => hv (by rw [e]; exact vp_in_nI (n := 13) (by omega) (by omega))
    have q : wX_operandsFit_203 post op := br_f n4 (br_f n13 p0)
    exact br_c (fun _ => q) (fun a0 => br_c (fun _ => q) (fun a1 => absurd (fd_mono ((fd_wi (n := 12) (by omega)).mpr ⟨a0, a1⟩) (by omega)) hv))
theorem fd_Y_fit {post : Int32 → Prop} {op a b c : Int32} (h1 : fd_gd op a b c → post 1) (h0 : ¬ fd_gd op a b c → post 0) : wpY_isGood post op a b c := by
  rcases Classical.em (vp_in op 14) with hv | hv
  · obtain ⟨j, hj, e⟩ := vp_in_of hv (by omega)
    subst e
    rcases (by omega : j = 0 ∨ j = 1 ∨ j = 2 ∨ j = 3 ∨ j = 4 ∨ j = 5 ∨ j = 6 ∨ j = 7 ∨ j = 8 ∨ j = 9 ∨ j = 10 ∨ j = 11 ∨ j = 12 ∨ j = 13) with q | q | q | q | q | q | q | q | q | q | q | q | q | q <;> subst q
    · exact fd_Yg0 h1 h0
    · exact fd_Yg1 h1 h0
    · exact fd_Yg2 h1 h0
    · exact fd_Yg3 h1 h0
    · exact fd_Yg4 h1 h0
    · exact fd_Yg5 h1 h0
    · exact fd_Yg6 h1 h0
    · exact fd_Yg7 h1 h0
    · exact fd_Yg8 h1 h0
    · exact fd_Yg9 h1 h0
    · exact fd_Yg10 h1 h0
    · exact fd_Yg11 h1 h0
    · exact fd_Yg12 h1 h0
    · exact fd_Yg13 h1 h0
  · have p0 := h0 (fun z => hv z.1)
    exact br_c (fun _ => p0) (fun a0 => br_c (fun _ => p0) (fun a1 => absurd ((fd_wi (n := 13) (by omega)).mpr ⟨a0, a1⟩) hv))
section
variable {rc cc sl nw no : Int32} {ops o1 o2 o3 sz st pr pc rg wk jn sd br io cp cl hd ct wt wc rr ab dx ox : Nat → Int32} {ss : Int64} {yy : Int32} {sp : Nat → Int64} {dy ly : Nat → Int32} {B s : Nat}
theorem fd_K_ops {ops' o1' o2' o3' sz' : Nat → Int32} (h : fd_K B s 3 rc cc sl nw no ops o1 o2 o3 sz st pr pc rg wk jn sd br io cp cl hd ct wt wc rr ab dx ox ss yy sp dy ly) (hG : fd_G ops' o1' o2' o3' sz') (he : ∀ f, f < 12 → st f = 3 → ops' (fd_k pr pc f) = ops (fd_k pr pc f) ∧ o1' (fd_k pr pc f) = o1 (fd_k pr pc f) ∧ o2' (fd_k pr pc f) = o2 (fd_k pr pc f) ∧ o3' (fd_k pr pc f) = o3 (fd_k pr pc f)) : fd_K B s 3 rc cc sl nw no ops' o1' o2' o3' sz' st pr pc rg wk jn sd br io cp cl hd ct wt wc rr ab dx ox ss yy sp dy ly := by
  obtain ⟨_, hF, hR, hV, hS, hC, hO, hN⟩ := h
  refine ⟨hG, fun f hf => ⟨(hF f hf).1, fun s3 => ?_⟩, hR, fd_V_c hV (fun y hy g hg => ?_), hS, hC, hO, hN⟩
  · obtain ⟨e0, e1, e2, e3⟩ := he f hf s3
    rw [e0, e1, e2, e3]
    exact (hF f hf).2 s3
  · refine ⟨fun z => ⟨z.1, ?_⟩, fun z => ⟨z.1, ?_⟩⟩
    · obtain ⟨e0, e1, e2, _⟩ := he g hg z.1
      have q := z.2
      rw [e0, e1, e2] at q
      exact q
    · obtain ⟨e0, e1, e2, _⟩ := he g hg z.1
      rw [e0, e1, e2]
      exact z.2
theorem fd_k72 {f : Nat} (h : fd_K B s 3 rc cc sl nw no ops o1 o2 o3 sz st pr pc rg wk jn sd br io cp cl hd ct wt wc rr ab dx ox ss yy sp dy ly) (hf : f < 12) (s3 : st f = 3) : fd_k pr pc f < 72 ∧ (pr f).toNatClampNeg < 6 ∧ (pc f).toNatClampNeg < 12 := by
  have p := fd_lt ((h.2.1 f hf).1 (Or.inr (Or.inr (Or.inl s3)))).1
  have c := fd_lt ((h.2.1 f hf).2 s3).1
  unfold fd_k
  omega
theorem fd_code {op a b c : Int32} (h : fd_K B s 3 rc cc sl nw no ops o1 o2 o3 sz st pr pc rg wk jn sd br io cp cl hd ct wt wc rr ab dx ox ss yy sp dy ly) : ∃ r u' v', (∀ post : Int32 → SX → Prop, post r u' → wpX_code post (rc, cc, sl, nw, no, ops, o1, o2, o3, sz, st, pr, pc, rg, wk, jn, sd, br, io, cp, cl, hd, ct, wt, wc, rr, ab, dx, ox) op a b c) ∧ (∀ post : Int32 → SY → Prop, post r v' → wpY_code post (cc, sl, nw, no, ss, yy, ops, o1, o2, o3, sz, st, pr, pc, rg, wk, sp, cp, cl, hd, ct, ab, dy, ly) op a b c) ∧ fd_RR B s u' v' := by
  obtain ⟨z13, zg⟩ := h.1 6 (by omega)
  obtain ⟨m, hm, em⟩ := vp_in_of z13 (by omega)
  by_cases m12 : m = 12
  · subst m12
    refine ⟨-1, (rc, cc, sl, nw, no, ops, o1, o2, o3, sz, st, pr, pc, rg, wk, jn, sd, br, io, cp, cl, hd, ct, wt, wc, rr, ab, dx, ox), (cc, sl, nw, no, ss, yy, ops, o1, o2, o3, sz, st, pr, pc, rg, wk, sp, cp, cl, hd, ct, ab, dy, ly), fun post H => br_t (by rw [em]; decide) H, fun post H => ?_, ⟨rc, cc, sl, nw, no, ops, o1, o2, o3, sz, st, pr, pc, rg, wk, jn, sd, br, io, cp, cl, hd, ct, wt, wc, rr, ab, dx, ox, ss, yy, sp, dy, ly, rfl, rfl, h⟩⟩
    unfold wpY_code
    exact fd_Y_fit (fun _ => br_f (by decide) (br_t em H)) (fun _ => br_t rfl H)
  · have n1 : ¬ 12 ≤ sz 6 := by rw [em]; exact nI_ge (b := 12) (by omega) (by decide)
    have n2 : ¬ sz 6 = 12 := by
      rw [em]
      intro q
      exact m12 ((nI_eq (b := 12) (by omega) (by decide)).mp q)
    rcases Classical.em (fd_gd op a b c) with g | g
    · have e72 : 72 + sz 6 = nI (72 + m) := by
        rw [em]; exact nI_add 72 m
      have hi : vp_in (nI (72 + m)) 84 := vp_in_nI (by omega) (by omega)
      have ec : (nI (72 + m)).toNatClampNeg = 72 + m := nI_clamp (by omega)
      have K1 := fd_K_ops (ops' := upd ops (nI (72 + m)).toNatClampNeg op) (o1' := upd o1 (nI (72 + m)).toNatClampNeg a) (o2' := upd o2 (nI (72 + m)).toNatClampNeg b) (o3' := upd o3 (nI (72 + m)).toNatClampNeg c) (sz' := upd sz 6 (sz 6 + 1)) h (by
        intro p hp
        rw [ec]
        by_cases e6 : p = 6
        · subst e6
          rw [pk_us, em, nI_1]
          refine ⟨vp_in_nI (by omega) (by omega), fun i hi => ?_⟩
          rw [nI_clamp (by omega)] at hi
          by_cases e : i = m
          · subst e
            rw [show 12 * 6 + i = 72 + i by omega, pk_us, pk_us, pk_us, pk_us]; exact g
          · rw [pk_un (by omega), pk_un (by omega), pk_un (by omega), pk_un (by omega)]
            exact zg i (by rw [em, nI_clamp (by omega)]; omega)
        · obtain ⟨q1, q2⟩ := h.1 p hp
          have l := fd_lt q1
          rw [pk_un e6]
          refine ⟨q1, fun i hi => ?_⟩
          rw [pk_un (by omega), pk_un (by omega), pk_un (by omega), pk_un (by omega)]
          exact q2 i hi) (by
        intro f hf s3
        have q := (fd_k72 h hf s3).1
        rw [ec, pk_un (by omega), pk_un (by omega), pk_un (by omega), pk_un (by omega)]
        exact ⟨rfl, rfl, rfl, rfl⟩)
      refine ⟨upd sz 6 (sz 6 + 1) 6, _, _, fun post H => br_f n1 (fd_X_fit (fun _ => br_f (by decide) (nm_r e72 ⟨hi, nm_e ⟨hi, nm_e ⟨hi, nm_e ⟨hi, nm_e (nm_e H)⟩⟩⟩⟩)) (fun z => absurd g z)), fun post H => ?_, ⟨rc, cc, sl, nw, no, _, _, _, _, _, st, pr, pc, rg, wk, jn, sd, br, io, cp, cl, hd, ct, wt, wc, rr, ab, dx, ox, ss, yy, sp, dy, ly, rfl, rfl, K1⟩⟩
      unfold wpY_code
      exact fd_Y_fit (fun _ => br_f (by decide) (br_f n2 (nm_e (nm_r e72 ⟨hi, nm_e ⟨hi, nm_e ⟨hi, nm_e ⟨hi, nm_e H⟩⟩⟩⟩)))) (fun z => absurd g z)
    · refine ⟨-1, (rc, cc, sl, nw, no, ops, o1, o2, o3, sz, st, pr, pc, rg, wk, jn, sd, br, io, cp, cl, hd, ct, wt, wc, rr, ab, dx, ox), (cc, sl, nw, no, ss, yy, ops, o1, o2, o3, sz, st, pr, pc, rg, wk, sp, cp, cl, hd, ct, ab, dy, ly), fun post H => br_f n1 (fd_X_fit (fun z => absurd z g) (fun _ => br_t rfl H)), fun post H => ?_, ⟨rc, cc, sl, nw, no, ops, o1, o2, o3, sz, st, pr, pc, rg, wk, jn, sd, br, io, cp, cl, hd, ct, wt, wc, rr, ab, dx, ox, ss, yy, sp, dy, ly, rfl, rfl, h⟩⟩
      unfold wpY_code
      exact fd_Y_fit (fun z => absurd z g) (fun _ => br_t rfl H)
end
theorem fd_pd (pr st : Nat → Int32) (p : Int32) : (∀ g, g < 12 → ¬ (pr g = p ∧ fd_aw (st g))) ∨ ∃ b, b < 12 ∧ (pr b = p ∧ fd_aw (st b)) ∧ ∀ g, g < b → ¬ (pr g = p ∧ fd_aw (st g)) := by
  have key : ∀ n, n ≤ 12 → (∀ g, g < n → ¬ (pr g = p ∧ fd_aw (st g))) ∨ ∃ b, b < 12 ∧ (pr b = p ∧ fd_aw (st b)) ∧ ∀ g, g < b → ¬ (pr g = p ∧ fd_aw (st g)) := by
    intro n
    induction n with
    | zero => intro _; exact Or.inl (fun g hg => absurd hg (Nat.not_lt_zero g))
    | succ n ih =>
      intro hn
      rcases ih (by omega) with h | h
      · rcases Classical.em (pr n = p ∧ fd_aw (st n)) with q | q
        · exact Or.inr ⟨n, by omega, q, h⟩
        · exact Or.inl (lt_s h q)
      · exact Or.inr h
  exact key 12 (Nat.le_refl 12)
/-- the first i cells of the draft, laid at place p -/
def fd_cy (h : Nat → Int32) (p i : Nat) : Nat → Int32 := fun j => if 12 * p ≤ j ∧ j < 12 * p + i then h (72 + (j - 12 * p)) else h j
theorem fd_cy_0 (h : Nat → Int32) (p : Nat) : fd_cy h p 0 = h := by
  funext j
  exact if_neg (by omega)
theorem fd_cy_s (h : Nat → Int32) (p i : Nat) (hp : p < 6) (hi : i < 12) : upd (fd_cy h p i) (12 * p + i) (fd_cy h p i (72 + i)) = fd_cy h p (i + 1) := by
  funext j
  unfold fd_cy upd
  by_cases e : j = 12 * p + i
  · subst e
    rw [if_pos rfl, if_neg (by omega), if_pos (by omega)]
    congr 1
    omega
  · rw [if_neg e]
    dsimp only
    by_cases q : 12 * p ≤ j ∧ j < 12 * p + i
    · rw [if_pos q, if_pos (by omega)]
    · rw [if_neg q, if_neg (by omega)]
theorem fd_cy_in {h : Nat → Int32} {p i : Nat} (hi : i < 12) : fd_cy h p 12 (12 * p + i) = h (72 + i) := by
  unfold fd_cy
  rw [if_pos (by omega)]
  congr 1
  omega
theorem fd_cy_out {h : Nat → Int32} {p j : Nat} (hj : ¬ (12 * p ≤ j ∧ j < 12 * p + 12)) : fd_cy h p 12 j = h j := if_neg hj
section
variable {rc cc sl nw no : Int32} {ops o1 o2 o3 sz st pr pc rg wk jn sd br io cp cl hd ct wt wc rr ab dx ox : Nat → Int32} {ss : Int64} {yy : Int32} {sp : Nat → Int64} {dy ly : Nat → Int32} {B s : Nat}
theorem fd_X_pl {post : Int32 → SX → Prop} {p : Int32} (hp : vp_in p 6) (H : post (upd (upd sz p.toNatClampNeg (sz 6)) 6 0 p.toNatClampNeg) (rc, cc, sl, nw, no, fd_cy ops p.toNatClampNeg 12, fd_cy o1 p.toNatClampNeg 12, fd_cy o2 p.toNatClampNeg 12, fd_cy o3 p.toNatClampNeg 12, upd (upd sz p.toNatClampNeg (sz 6)) 6 0, st, pr, pc, rg, wk, jn, sd, br, io, cp, cl, hd, ct, wt, wc, rr, ab, dx, ox)) : ∀ d i : Nat, i + d = 12 → wX_program_21 post p rc cc sl nw no (d + 1) (nI i) (fd_cy ops p.toNatClampNeg i) (fd_cy o1 p.toNatClampNeg i) (fd_cy o2 p.toNatClampNeg i) (fd_cy o3 p.toNatClampNeg i) sz st pr pc rg wk jn sd br io cp cl hd ct wt wc rr ab dx ox := by
  have p6 := fd_lt hp
  have hp7 := fd_mono hp (show 6 ≤ 7 by omega)
  intro d
  induction d with
  | zero =>
    intro i hi
    have e : i = 12 := by omega
    subst e
    exact br_t (by decide) ⟨hp7, nm_e (nm_e ⟨hp7, H⟩)⟩
  | succ d ih =>
    intro i hi
    have ix := fd_p12' hp (vp_in_nI (n := i) (N := 13) (by omega) (by omega))
    rw [nI_clamp (by omega)] at ix
    have e1 : p * 12 + nI i = nI (12 * p.toNatClampNeg + i) := by rw [← ix.2]; exact fd_eq ix.1
    have e2 : 72 + nI i = nI (72 + i) := nI_add 72 i
    have v1 : vp_in (nI (72 + i)) 84 := vp_in_nI (by omega) (by omega)
    have v2 : vp_in (nI (12 * p.toNatClampNeg + i)) 84 := vp_in_nI (by omega) (by omega)
    refine br_f (nI_ge (b := 12) (by omega) (by decide)) (nm_r e2 (nm_r e1 ?_))
    rw [nI_clamp (by omega), nI_clamp (by omega)]
    exact ⟨v1, v2, nm_r (fd_cy_s ops p.toNatClampNeg i p6 (by omega)) ⟨v1, v2, nm_r (fd_cy_s o1 p.toNatClampNeg i p6 (by omega)) ⟨v1, v2, nm_r (fd_cy_s o2 p.toNatClampNeg i p6 (by omega)) ⟨v1, v2, nm_r (fd_cy_s o3 p.toNatClampNeg i p6 (by omega)) (nm_r (nI_1 i) (ih (i + 1) (by omega)))⟩⟩⟩⟩
theorem fd_Y_pl {post : Int32 → SY → Prop} {p : Int32} (hp : vp_in p 6) (H : post (upd (upd sz p.toNatClampNeg (sz 6)) 6 0 p.toNatClampNeg) (cc, sl, nw, no, ss, yy, fd_cy ops p.toNatClampNeg 12, fd_cy o1 p.toNatClampNeg 12, fd_cy o2 p.toNatClampNeg 12, fd_cy o3 p.toNatClampNeg 12, upd (upd sz p.toNatClampNeg (sz 6)) 6 0, st, pr, pc, rg, wk, sp, cp, cl, hd, ct, ab, dy, ly)) : ∀ d i : Nat, i + d = 12 → wY_program_47 post p cc sl nw no ss yy (d + 1) (nI i) (fd_cy ops p.toNatClampNeg i) (fd_cy o1 p.toNatClampNeg i) (fd_cy o2 p.toNatClampNeg i) (fd_cy o3 p.toNatClampNeg i) sz st pr pc rg wk sp cp cl hd ct ab dy ly := by
  have p6 := fd_lt hp
  have hp7 := fd_mono hp (show 6 ≤ 7 by omega)
  intro d
  induction d with
  | zero =>
    intro i hi
    have e : i = 12 := by omega
    subst e
    exact br_t (by decide) ⟨hp7, nm_e (nm_e ⟨hp7, H⟩)⟩
  | succ d ih =>
    intro i hi
    have ix := fd_p12 hp (vp_in_nI (n := i) (N := 13) (by omega) (by omega))
    rw [nI_clamp (by omega)] at ix
    have e1 : 12 * p + nI i = nI (12 * p.toNatClampNeg + i) := by rw [← ix.2]; exact fd_eq ix.1
    have e2 : 72 + nI i = nI (72 + i) := nI_add 72 i
    have v1 : vp_in (nI (72 + i)) 84 := vp_in_nI (by omega) (by omega)
    have v2 : vp_in (nI (12 * p.toNatClampNeg + i)) 84 := vp_in_nI (by omega) (by omega)
    refine br_f (nI_ge (b := 12) (by omega) (by decide)) ?_
    rw [e1, e2, nI_clamp (by omega), nI_clamp (by omega)]
    exact ⟨v1, v2, nm_r (fd_cy_s ops p.toNatClampNeg i p6 (by omega)) ⟨v1, v2, nm_r (fd_cy_s o1 p.toNatClampNeg i p6 (by omega)) ⟨v1, v2, nm_r (fd_cy_s o2 p.toNatClampNeg i p6 (by omega)) ⟨v1, v2, nm_r (fd_cy_s o3 p.toNatClampNeg i p6 (by omega)) (nm_r (nI_1 i) (ih (i + 1) (by omega)))⟩⟩⟩⟩
theorem fd_X_ps {post : Int32 → Prop} {p x : Int32} {n : Nat} (hx : vp_in x 12) (n12 : ¬ (12 : Int32) ≤ x) (na : ¬ (pr x.toNatClampNeg = p ∧ fd_aw (st x.toNatClampNeg))) (H : wX_isProgramAtWork_2 post p rc cc sl nw no ops o1 o2 o3 sz st pr pc rg wk jn sd br io cp cl hd ct wt wc rr ab dx ox n (x + 1)) : wX_isProgramAtWork_2 post p rc cc sl nw no ops o1 o2 o3 sz st pr pc rg wk jn sd br io cp cl hd ct wt wc rr ab dx ox (n + 1) x :=
  br_f n12 ⟨hx, br_c (fun q => fd_X_aw hx (fun aw => absurd ⟨q, aw⟩ na) (fun _ => br_t rfl (nm_e H))) (fun _ => nm_e H)⟩
theorem fd_Y_ps {post : Int32 → SY → Prop} {p x : Int32} {n : Nat} (hx : vp_in x 12) (n12 : ¬ (12 : Int32) ≤ x) (na : ¬ (pr x.toNatClampNeg = p ∧ fd_aw (st x.toNatClampNeg))) (H : wY_program_13 post p cc sl nw no ss yy ops o1 o2 o3 sz st pr pc rg wk sp cp cl hd ct ab dy ly n (x + 1)) : wY_program_13 post p cc sl nw no ss yy ops o1 o2 o3 sz st pr pc rg wk sp cp cl hd ct ab dy ly (n + 1) x :=
  br_f n12 (fd_Y_aw hx (fun aw => br_f (by decide) ⟨hx, br_c (fun q => absurd ⟨q, aw⟩ na) (fun _ => nm_e H)⟩) (fun _ => br_t rfl (nm_e H)))
theorem fd_program {p : Int32} (h : fd_K B s 3 rc cc sl nw no ops o1 o2 o3 sz st pr pc rg wk jn sd br io cp cl hd ct wt wc rr ab dx ox ss yy sp dy ly) : ∃ r u' v', (∀ post : Int32 → SX → Prop, post r u' → wpX_program post (rc, cc, sl, nw, no, ops, o1, o2, o3, sz, st, pr, pc, rg, wk, jn, sd, br, io, cp, cl, hd, ct, wt, wc, rr, ab, dx, ox) p) ∧ (∀ post : Int32 → SY → Prop, post r v' → wpY_program post (cc, sl, nw, no, ss, yy, ops, o1, o2, o3, sz, st, pr, pc, rg, wk, sp, cp, cl, hd, ct, ab, dy, ly) p) ∧ fd_RR B s u' v' := by
  rcases Classical.em (vp_in p 6) with hp | hp
  · have p6 := fd_lt hp
    rcases fd_pd pr st p with ha | ⟨b, hb, hb1, hb2⟩
    · have K1 := fd_K_ops (ops' := fd_cy ops p.toNatClampNeg 12) (o1' := fd_cy o1 p.toNatClampNeg 12) (o2' := fd_cy o2 p.toNatClampNeg 12) (o3' := fd_cy o3 p.toNatClampNeg 12) (sz' := upd (upd sz p.toNatClampNeg (sz 6)) 6 0) h (by
        intro q hq
        by_cases e6 : q = 6
        · subst e6
          rw [pk_us]
          refine ⟨fd_0in (by omega), fun i hi => absurd hi ?_⟩
          rw [show (0 : Int32).toNatClampNeg = 0 from by decide]
          exact Nat.not_lt_zero i
        · rw [pk_un e6]
          by_cases e : q = p.toNatClampNeg
          · subst e
            obtain ⟨q1, q2⟩ := h.1 6 (by omega)
            have l := fd_lt q1
            rw [pk_us]
            refine ⟨q1, fun i hi => ?_⟩
            rw [fd_cy_in (by omega), fd_cy_in (by omega), fd_cy_in (by omega), fd_cy_in (by omega)]
            exact q2 i hi
          · obtain ⟨q1, q2⟩ := h.1 q hq
            have l := fd_lt q1
            rw [pk_un e]
            refine ⟨q1, fun i hi => ?_⟩
            rw [fd_cy_out (by omega), fd_cy_out (by omega), fd_cy_out (by omega), fd_cy_out (by omega)]
            exact q2 i hi) (by
        intro f hf s3
        obtain ⟨_, k1, k2⟩ := fd_k72 h hf s3
        have ne : (pr f).toNatClampNeg ≠ p.toNatClampNeg := fun e => ha f hf ⟨fd_inj ((h.2.1 f hf).1 (Or.inr (Or.inr (Or.inl s3)))).1 hp e, Or.inr (Or.inr (Or.inl s3))⟩
        have o : ¬ (12 * p.toNatClampNeg ≤ fd_k pr pc f ∧ fd_k pr pc f < 12 * p.toNatClampNeg + 12) := by
          unfold fd_k
          omega
        rw [fd_cy_out o, fd_cy_out o, fd_cy_out o, fd_cy_out o]
        exact ⟨rfl, rfl, rfl, rfl⟩)
      refine ⟨upd (upd sz p.toNatClampNeg (sz 6)) 6 0 p.toNatClampNeg, _, _, fun post H => ?_, fun post H => ?_, ⟨rc, cc, sl, nw, no, _, _, _, _, _, st, pr, pc, rg, wk, jn, sd, br, io, cp, cl, hd, ct, wt, wc, rr, ab, dx, ox, ss, yy, sp, dy, ly, rfl, rfl, K1⟩⟩
      · have fin := fd_X_pl (post := post) (rc := rc) (cc := cc) (sl := sl) (nw := nw) (no := no) (ops := ops) (o1 := o1) (o2 := o2) (o3 := o3) (sz := sz) (st := st) (pr := pr) (pc := pc) (rg := rg) (wk := wk) (jn := jn) (sd := sd) (br := br) (io := io) (cp := cp) (cl := cl) (hd := hd) (ct := ct) (wt := wt) (wc := wc) (rr := rr) (ab := ab) (dx := dx) (ox := ox) hp H 12 0 rfl
        rw [fd_cy_0, fd_cy_0, fd_cy_0, fd_cy_0] at fin
        have key : ∀ (P : Int32 → Prop), P 0 → ∀ d i : Nat, i + d = 12 → wX_isProgramAtWork_2 P p rc cc sl nw no ops o1 o2 o3 sz st pr pc rg wk jn sd br io cp cl hd ct wt wc rr ab dx ox (d + 1) (nI i) := by
          intro P HP d
          induction d with
          | zero =>
            intro i hi
            have e : i = 12 := by omega
            subst e
            exact br_t (by decide) HP
          | succ d ih =>
            intro i hi
            exact fd_X_ps (vp_in_nI (by omega) (by omega)) (nI_ge (b := 12) (by omega) (by decide)) (by rw [nI_clamp (by omega)]; exact ha i (by omega)) (by rw [nI_1]; exact ih (i + 1) (by omega))
        unfold wpX_program
        refine fd_X_bl 6 (by omega) rfl (fun _ => br_f (by decide) ?_) (fun z => absurd hp z)
        unfold wpX_isProgramAtWork
        exact ⟨13, key _ (br_t rfl ⟨13, fin⟩) 12 0 rfl⟩
      · have fin := fd_Y_pl (post := post) (cc := cc) (sl := sl) (nw := nw) (no := no) (ss := ss) (yy := yy) (ops := ops) (o1 := o1) (o2 := o2) (o3 := o3) (sz := sz) (st := st) (pr := pr) (pc := pc) (rg := rg) (wk := wk) (sp := sp) (cp := cp) (cl := cl) (hd := hd) (ct := ct) (ab := ab) (dy := dy) (ly := ly) hp H 12 0 rfl
        rw [fd_cy_0, fd_cy_0, fd_cy_0, fd_cy_0] at fin
        have key : ∀ d i : Nat, i + d = 12 → wY_program_13 post p cc sl nw no ss yy ops o1 o2 o3 sz st pr pc rg wk sp cp cl hd ct ab dy ly (d + 1) (nI i) := by
          intro d
          induction d with
          | zero =>
            intro i hi
            have e : i = 12 := by omega
            subst e
            exact br_t (by decide) ⟨13, fin⟩
          | succ d ih =>
            intro i hi
            exact fd_Y_ps (vp_in_nI (by omega) (by omega)) (nI_ge (b := 12) (by omega) (by decide)) (by rw [nI_clamp (by omega)]; exact ha i (by omega)) (by rw [nI_1]; exact ih (i + 1) (by omega))
        unfold wpY_program
        exact fd_Y_wi 5 (by omega) rfl (fun _ => br_f (by decide) ⟨13, key 12 0 rfl⟩) (fun z => absurd hp z)
    · refine ⟨-1, (rc, cc, sl, nw, no, ops, o1, o2, o3, sz, st, pr, pc, rg, wk, jn, sd, br, io, cp, cl, hd, ct, wt, wc, rr, ab, dx, ox), (cc, sl, nw, no, ss, yy, ops, o1, o2, o3, sz, st, pr, pc, rg, wk, sp, cp, cl, hd, ct, ab, dy, ly), fun post H => ?_, fun post H => ?_, ⟨rc, cc, sl, nw, no, ops, o1, o2, o3, sz, st, pr, pc, rg, wk, jn, sd, br, io, cp, cl, hd, ct, wt, wc, rr, ab, dx, ox, ss, yy, sp, dy, ly, rfl, rfl, h⟩⟩
      · have key : ∀ (P : Int32 → Prop), P 1 → ∀ d i : Nat, i + d = b → wX_isProgramAtWork_2 P p rc cc sl nw no ops o1 o2 o3 sz st pr pc rg wk jn sd br io cp cl hd ct wt wc rr ab dx ox (d + 1) (nI i) := by
          intro P HP d
          induction d with
          | zero =>
            intro i hi
            have e : i = b := by omega
            subst e
            have hx : vp_in (nI i) 12 := vp_in_nI (by omega) (by omega)
            have ei : (nI i).toNatClampNeg = i := nI_clamp (by omega)
            exact br_f (nI_ge (b := 12) (by omega) (by decide)) ⟨hx, br_t (by rw [ei]; exact hb1.1) (fd_X_aw hx (fun _ => br_f (by decide) HP) (fun z => absurd (by rw [ei]; exact hb1.2) z))⟩
          | succ d ih =>
            intro i hi
            exact fd_X_ps (vp_in_nI (by omega) (by omega)) (nI_ge (b := 12) (by omega) (by decide)) (by rw [nI_clamp (by omega)]; exact hb2 i (by omega)) (by rw [nI_1]; exact ih (i + 1) (by omega))
        unfold wpX_program
        refine fd_X_bl 6 (by omega) rfl (fun _ => br_f (by decide) ?_) (fun z => absurd hp z)
        unfold wpX_isProgramAtWork
        exact ⟨b + 1, key _ (br_f (by decide) H) b 0 (Nat.zero_add b)⟩
      · have key : ∀ d i : Nat, i + d = b → wY_program_13 post p cc sl nw no ss yy ops o1 o2 o3 sz st pr pc rg wk sp cp cl hd ct ab dy ly (d + 1) (nI i) := by
          intro d
          induction d with
          | zero =>
            intro i hi
            have e : i = b := by omega
            subst e
            have hx : vp_in (nI i) 12 := vp_in_nI (by omega) (by omega)
            have ei : (nI i).toNatClampNeg = i := nI_clamp (by omega)
            exact br_f (nI_ge (b := 12) (by omega) (by decide)) (fd_Y_aw hx (fun _ => br_f (by decide) ⟨hx, br_t (by rw [ei]; exact hb1.1) H⟩) (fun z => absurd (by rw [ei]; exact hb1.2) z))
          | succ d ih =>
            intro i hi
            exact fd_Y_ps (vp_in_nI (by omega) (by omega)) (nI_ge (b := 12) (by omega) (by decide)) (by rw [nI_clamp (by omega)]; exact hb2 i (by omega)) (by rw [nI_1]; exact ih (i + 1) (by omega))
        unfold wpY_program
        exact fd_Y_wi 5 (by omega) rfl (fun _ => br_f (by decide) ⟨b + 1, key b 0 (Nat.zero_add b)⟩) (fun z => absurd hp z)
  · refine ⟨-1, (rc, cc, sl, nw, no, ops, o1, o2, o3, sz, st, pr, pc, rg, wk, jn, sd, br, io, cp, cl, hd, ct, wt, wc, rr, ab, dx, ox), (cc, sl, nw, no, ss, yy, ops, o1, o2, o3, sz, st, pr, pc, rg, wk, sp, cp, cl, hd, ct, ab, dy, ly), fun post H => ?_, fun post H => ?_, ⟨rc, cc, sl, nw, no, ops, o1, o2, o3, sz, st, pr, pc, rg, wk, jn, sd, br, io, cp, cl, hd, ct, wt, wc, rr, ab, dx, ox, ss, yy, sp, dy, ly, rfl, rfl, h⟩⟩
    · unfold wpX_program
      exact fd_X_bl 6 (by omega) rfl (fun z => absurd z hp) (fun _ => br_t rfl H)
    · unfold wpY_program
      exact fd_Y_wi 5 (by omega) rfl (fun z => absurd z hp) (fun _ => br_t rfl H)
end
