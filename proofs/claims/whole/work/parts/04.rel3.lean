/-! the relation -/
def i_Rel (k : Nat) (u : SX) (v : SY) : Prop := ∃ (now : Int32) (bf bs : Nat) (CN FB FZ FC op FR TO GA TL DU W WF NX HD KX KF KS LA TA WA QC QX BX IF BU WT NY KY KO KM KT NU CI LE SP BY HA CA QF QL QT BH BB : Nat → Int32), u = (now, (nI bf), (nI bs), CN, FB, FZ, FC, op, FR, TO, GA, TL, DU, W, WF, NX, HD, KX, KF, KS, LA, TA, WA, QC, QX, BX, IF) ∧ v = (now, (nI bs), (nI bf), CN, BU, op, FR, TO, GA, TL, DU, W, WT, NY, KY, KO, KM, KT, NU, CI, LE, SP, BY, LA, HA, CA, WA, QC, QF, QL, QT, BX, BH, BB) ∧
  bf ≤ 255 ∧ bs ≤ 27 ∧ cs_N k bf bs op ∧ (∀ i, i < bs → BU i = FB (27 * bf + i)) ∧
  cs_W (cs_FP bf FC FZ FB NU CI LE BY) op W WF WT HD SP NX NY ∧ cs_K op KX KY KF KO KS KM KT ∧ cs_Q (cs_FP bf FC FZ FB NU CI LE BY) op TO QC QX QF QL QT ∧
  cs_I bf FC FZ FB BX IF BH BB ∧ cs_T TA HA CA ∧ cs_L 4 LA 8 ∧ cs_L 8 TO 4
theorem cs_mk {now : Int32} {bf bs : Nat} {CN FB FZ FC op FR TO GA TL DU W WF NX HD KX KF KS LA TA WA QC QX BX IF BU WT NY KY KO KM KT NU CI LE SP BY HA CA QF QL QT BH BB : Nat → Int32} {k : Nat} (h1 : bf ≤ 255) (h2 : bs ≤ 27) (h3 : cs_N k bf bs op) (h4 : ∀ i, i < bs → BU i = FB (27 * bf + i))
    (h5 : cs_W (cs_FP bf FC FZ FB NU CI LE BY) op W WF WT HD SP NX NY) (h6 : cs_K op KX KY KF KO KS KM KT) (h7 : cs_Q (cs_FP bf FC FZ FB NU CI LE BY) op TO QC QX QF QL QT)
    (h8 : cs_I bf FC FZ FB BX IF BH BB) (h9 : cs_T TA HA CA) (h10 : cs_L 4 LA 8) (h11 : cs_L 8 TO 4) : i_Rel k (now, (nI bf), (nI bs), CN, FB, FZ, FC, op, FR, TO, GA, TL, DU, W, WF, NX, HD, KX, KF, KS, LA, TA, WA, QC, QX, BX, IF) (now, (nI bs), (nI bf), CN, BU, op, FR, TO, GA, TL, DU, W, WT, NY, KY, KO, KM, KT, NU, CI, LE, SP, BY, LA, HA, CA, WA, QC, QF, QL, QT, BX, BH, BB) :=
  ⟨now, bf, bs, CN, FB, FZ, FC, op, FR, TO, GA, TL, DU, W, WF, NX, HD, KX, KF, KS, LA, TA, WA, QC, QX, BX, IF, BU, WT, NY, KY, KO, KM, KT, NU, CI, LE, SP, BY, HA, CA, QF, QL, QT, BH, BB, rfl, rfl, h1, h2, h3, h4, h5, h6, h7, h8, h9, h10, h11⟩
theorem cs_kup {k k' : Nat} {u : SX} {v : SY} (h : i_Rel k u v) (hk : k ≤ k') : i_Rel k' u v := by
  obtain ⟨now, bf, bs, CN, FB, FZ, FC, op, FR, TO, GA, TL, DU, W, WF, NX, HD, KX, KF, KS, LA, TA, WA, QC, QX, BX, IF, BU, WT, NY, KY, KO, KM, KT, NU, CI, LE, SP, BY, HA, CA, QF, QL, QT, BH, BB, rfl, rfl, h1, h2, h3, h⟩ := h
  exact ⟨now, bf, bs, CN, FB, FZ, FC, op, FR, TO, GA, TL, DU, W, WF, NX, HD, KX, KF, KS, LA, TA, WA, QC, QX, BX, IF, BU, WT, NY, KY, KO, KM, KT, NU, CI, LE, SP, BY, HA, CA, QF, QL, QT, BH, BB, rfl, rfl, h1, h2, cs_N_up h3 hk, h⟩
theorem i_up {k : Nat} {u : SX} {v : SY} (h : i_Rel k u v) : i_Rel (k + 5) u v := cs_kup h (by omega)
