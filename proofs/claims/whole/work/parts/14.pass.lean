theorem i_vc_pass {k : Nat} {u : SX} {v : SY} (I : i_Rel k u v) (hk : k + 5 ≤ 2560) (v1 : Int32) : wpX_pass (fun r u' => wpY_pass (fun r' v' => r' = r ∧ i_Rel (k + 5) u' v') v v1) u v1 := by
  have I' := i_up I
  have I0 := I
  obtain ⟨now, bf, bs, CN, FB, FZ, FC, op, FR, TO, GA, TL, DU, W, WF, NX, HD, KX, KF, KS, LA, TA, WA, QC, QX, BX, IF, BU, WT, NY, KY, KO, KM, KT, NU, CI, LE, SP, BY, HA, CA, QF, QL, QT, BH, BB, rfl, rfl, h1, h2, h3, h4, h5, h6, h7, h8, h9, h10, h11⟩ := I
  unfold wpX_pass wpY_pass
  by_cases q1 : v1 < 0
  · exact br_t q1 (br_t q1 ⟨rfl, I'⟩)
  refine br_f q1 ?_
  by_cases q2 : v1 ≤ 200
  · obtain ⟨m, hm, rfl⟩ := nI_of2 (n := 200) (by decide) q1 q2
    obtain ⟨r, u', v', R', aX, aY⟩ := cs_pass hm (CN 4) m 0 (by omega) _ _ I0
    have aX' : ∀ post : Int32 → SX → Prop, post r u' → wX_pass_22 post (nI m) (CN 4) (m + 1) 0 now (nI bf) (nI bs) CN FB FZ FC op FR TO GA TL DU W WF NX HD KX KF KS LA TA WA QC QX BX IF := aX
    have aY' : ∀ post : Int32 → SY → Prop, post r v' → wY_pass_22 post (nI m) (CN 4) (m + 1) 0 now (nI bs) (nI bf) CN BU op FR TO GA TL DU W WT NY KY KO KM KT NU CI LE SP BY LA HA CA WA QC QF QL QT BX BH BB := aY
    exact br_t q2 (nm_e ⟨m + 1, aX' _ (br_f q1 (br_t q2 (nm_e ⟨m + 1, aY' _ ⟨rfl, i_up R'⟩⟩)))⟩)
  · exact br_f q2 (br_f q1 (br_f q2 ⟨rfl, I'⟩))
