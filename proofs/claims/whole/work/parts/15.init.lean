/-! the start -/
theorem cs_seven (LA : Nat → Int32) (i : Nat) : upd (cs_cp LA 0 (fun _ => 7) i) i 7 = cs_cp LA 0 (fun _ => 7) (i + 1) := by
  have h := cs_cp_s LA 0 (fun _ => 7) i
  rw [Nat.zero_add] at h
  exact h
theorem cs_Xinit {now : Int32} {bf bs : Nat} {CN FB FZ FC op FR TO GA TL DU W WF NX HD KX KF KS LA TA WA QC QX BX IF : Nat → Int32} : ∀ d i, i + d = 4 → ∀ post : SX → Prop, post (now, (nI bf), (nI bs), CN, FB, FZ, FC, op, FR, TO, GA, TL, DU, W, WF, NX, HD, KX, KF, KS, cs_cp LA 0 (fun _ => 7) 4, TA, WA, QC, QX, BX, IF) → wX_init_196 post now (nI bf) (nI bs) (d + 1) (nI i) CN FB FZ FC op FR TO GA TL DU W WF NX HD KX KF KS (cs_cp LA 0 (fun _ => 7) i) TA WA QC QX BX IF := by
  intro d
  induction d with
  | zero =>
    intro i hi post hp
    have e : i = 4 := by omega
    subst e
    exact br_t (Int32.le_refl _) hp
  | succ d ih =>
    intro i hi post hp
    refine br_f (nI_ge (b := 4) (by omega) (by decide)) ?_
    rw [nI_clamp (show i < 2 ^ 31 by omega)]
    exact ⟨vp_in_nI (by omega) (by decide), nm_r (cs_seven LA i) (nm_r (nI_1 i) (ih (i + 1) (by omega) post hp))⟩
theorem cs_Yinit {now : Int32} {bf bs : Nat} {CN BU op FR TO GA TL DU W WT NY KY KO KM KT NU CI LE SP BY LA HA CA WA QC QF QL QT BX BH BB : Nat → Int32} : ∀ d i, i + d = 4 → ∀ post : SY → Prop, post (now, (nI bs), (nI bf), CN, BU, op, FR, TO, GA, TL, DU, W, WT, NY, KY, KO, KM, KT, NU, CI, LE, SP, BY, cs_cp LA 0 (fun _ => 7) 4, HA, CA, WA, QC, QF, QL, QT, BX, BH, BB) → wY_init_250 post now (nI bs) (nI bf) (d + 1) (nI i) CN BU op FR TO GA TL DU W WT NY KY KO KM KT NU CI LE SP BY (cs_cp LA 0 (fun _ => 7) i) HA CA WA QC QF QL QT BX BH BB := by
  intro d
  induction d with
  | zero =>
    intro i hi post hp
    have e : i = 4 := by omega
    subst e
    exact br_t (Int32.le_refl _) hp
  | succ d ih =>
    intro i hi post hp
    refine br_f (nI_ge (b := 4) (by omega) (by decide)) ?_
    rw [nI_clamp (show i < 2 ^ 31 by omega)]
    exact ⟨vp_in_nI (by omega) (by decide), nm_r (cs_seven LA i) (nm_r (nI_1 i) (ih (i + 1) (by omega) post hp))⟩
theorem cs_Xinit0 {now : Int32} {bf bs : Nat} {CN FB FZ FC op FR TO GA TL DU W WF NX HD KX KF KS LA TA WA QC QX BX IF : Nat → Int32} {post : SX → Prop} (hp : post (now, (nI bf), (nI bs), CN, FB, FZ, FC, op, FR, TO, GA, TL, DU, W, WF, NX, HD, KX, KF, KS, cs_cp LA 0 (fun _ => 7) 4, TA, WA, QC, QX, BX, IF)) : wX_init_196 post now (nI bf) (nI bs) 5 0 CN FB FZ FC op FR TO GA TL DU W WF NX HD KX KF KS LA TA WA QC QX BX IF := by
  have h := @cs_Xinit now bf bs CN FB FZ FC op FR TO GA TL DU W WF NX HD KX KF KS LA TA WA QC QX BX IF 4 0 (by omega) post hp
  rw [cs_cp_0] at h
  exact h
theorem cs_Yinit0 {now : Int32} {bf bs : Nat} {CN BU op FR TO GA TL DU W WT NY KY KO KM KT NU CI LE SP BY LA HA CA WA QC QF QL QT BX BH BB : Nat → Int32} {post : SY → Prop} (hp : post (now, (nI bs), (nI bf), CN, BU, op, FR, TO, GA, TL, DU, W, WT, NY, KY, KO, KM, KT, NU, CI, LE, SP, BY, cs_cp LA 0 (fun _ => 7) 4, HA, CA, WA, QC, QF, QL, QT, BX, BH, BB)) : wY_init_250 post now (nI bs) (nI bf) 5 0 CN BU op FR TO GA TL DU W WT NY KY KO KM KT NU CI LE SP BY LA HA CA WA QC QF QL QT BX BH BB := by
  have h := @cs_Yinit now bf bs CN BU op FR TO GA TL DU W WT NY KY KO KM KT NU CI LE SP BY LA HA CA WA QC QF QL QT BX BH BB 4 0 (by omega) post hp
  rw [cs_cp_0] at h
  exact h
theorem i_vc0 : wpX_init (fun u => wpY_init (fun v => i_Rel 0 u v)) := by
  unfold wpX_init wpY_init
  refine ⟨5, cs_Xinit0 (bf := 0) (bs := 0) ⟨5, cs_Yinit0 (bf := 0) (bs := 0) ?_⟩⟩
  refine cs_mk (bf := 0) (bs := 0) (by omega) (by omega) ⟨by omega, fun q => ?_⟩ (fun i hi => absurd hi (by omega)) (fun c _ => Or.inl ⟨rfl, rfl, rfl, fun _ => rfl⟩)
    (fun c _ => ⟨fun _ => ⟨rfl, rfl⟩, fun z => absurd rfl z⟩) (fun s _ => ⟨0, by omega, rfl, fun i hi => absurd hi (by omega)⟩) (fun s _ => ⟨0, by omega, rfl, fun i hi => absurd hi (by omega)⟩)
    (fun s _ => ⟨0, by omega, rfl, rfl, rfl⟩) (fun s hs => ⟨7, by omega, ?_⟩) (fun c _ => ⟨0, by omega, rfl⟩)
  · rcases q with q | ⟨c, _, q⟩
    · exact absurd q (by omega)
    · exact absurd rfl q
  · have h := cs_cp_in (a := fun _ => 0) (g := fun _ => 7) (s := 0) hs
    rw [Nat.zero_add] at h
    exact h
