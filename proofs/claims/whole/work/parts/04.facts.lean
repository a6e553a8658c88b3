abbrev tysW (cI cZ cC : ClassId) : List (ClassId × FieldType) := [(cI, .int), (cZ, .boolean), (cC, .char)]
def wc (ad : Nat → Nat) (cI cZ cC : ClassId) (M : Mem) : va_W := [(ad 0, .inr (4, [.ref (ad 1), .ref (ad 11), .ref (ad 23), .ref (ad 25)])),
  (ad 1, .inr (0, [.ref (ad 2), .int (M 1 1), .ref (ad 3), .ref (ad 4), .ref (ad 5), .ref (ad 6), .ref (ad 7), .ref (ad 8), .ref (ad 9), .ref (ad 10), .int (M 1 10)])),
  (ad 2, .inl (cI, 5, .inl (M 2))),
  (ad 3, .inl (cI, 120, .inl (M 3))),
  (ad 4, .inl (cI, 120, .inl (M 4))),
  (ad 5, .inl (cI, 120, .inl (M 5))),
  (ad 6, .inl (cI, 120, .inl (M 6))),
  (ad 7, .inl (cI, 120, .inl (M 7))),
  (ad 8, .inl (cI, 120, .inl (M 8))),
  (ad 9, .inl (cI, 120, .inl (M 9))),
  (ad 10, .inl (cI, 120, .inl (M 10))),
  (ad 11, .inr (3, [.ref (ad 1), .ref (ad 12), .ref (ad 13), .int (M 11 3), .ref (ad 14), .ref (ad 15), .ref (ad 16), .ref (ad 17), .ref (ad 18), .int (M 11 9), .ref (ad 19), .ref (ad 20), .ref (ad 21), .ref (ad 22), .int (M 11 14)])),
  (ad 12, .inl (cI, 120, .inl (M 12))),
  (ad 13, .inl (cI, 120, .inl (M 13))),
  (ad 14, .inl (cI, 120, .inl (M 14))),
  (ad 15, .inl (cI, 120, .inl (M 15))),
  (ad 16, .inl (cI, 120, .inl (M 16))),
  (ad 17, .inl (cI, 120, .inl (M 17))),
  (ad 18, .inl (cI, 120, .inl (M 18))),
  (ad 19, .inl (cI, 121, .inl (M 19))),
  (ad 20, .inl (cI, 121, .inl (M 20))),
  (ad 21, .inl (cI, 121, .inl (M 21))),
  (ad 22, .inl (cI, 121, .inl (M 22))),
  (ad 23, .inr (2, [.ref (ad 1), .ref (ad 11), .ref (ad 24), .int (M 23 3), .int (M 23 4)])),
  (ad 24, .inl (cC, 256, .inl (M 24))),
  (ad 25, .inr (1, [.ref (ad 1), .ref (ad 26), .ref (ad 27), .ref (ad 28), .int (M 25 4)])),
  (ad 26, .inl (cZ, 120, .inl (M 26))),
  (ad 27, .inl (cI, 25, .inl (M 27))),
  (ad 28, .inl (cI, 120, .inl (M 28)))]
theorem wcg_0 {ad : Nat → Nat} {cI cZ cC : ClassId} {M : Mem} : (wc ad cI cZ cC M)[0]? = some (ad 0, .inr (4, [.ref (ad 1), .ref (ad 11), .ref (ad 23), .ref (ad 25)])) := rfl
theorem wcg_1 {ad : Nat → Nat} {cI cZ cC : ClassId} {M : Mem} : (wc ad cI cZ cC M)[1]? = some (ad 1, .inr (0, [.ref (ad 2), .int (M 1 1), .ref (ad 3), .ref (ad 4), .ref (ad 5), .ref (ad 6), .ref (ad 7), .ref (ad 8), .ref (ad 9), .ref (ad 10), .int (M 1 10)])) := rfl
theorem wcf_1_1 {ad : Nat → Nat} {cI cZ cC : ClassId} {M : Mem} {x : Int32} : (wc ad cI cZ cC M).set 1 (ad 1, .inr (0, ([.ref (ad 2), .int (M 1 1), .ref (ad 3), .ref (ad 4), .ref (ad 5), .ref (ad 6), .ref (ad 7), .ref (ad 8), .ref (ad 9), .ref (ad 10), .int (M 1 10)] : List Value).set 1 (.int x))) = wc ad cI cZ cC (ms M 1 1 x) := rfl
theorem wcf_1_10 {ad : Nat → Nat} {cI cZ cC : ClassId} {M : Mem} {x : Int32} : (wc ad cI cZ cC M).set 1 (ad 1, .inr (0, ([.ref (ad 2), .int (M 1 1), .ref (ad 3), .ref (ad 4), .ref (ad 5), .ref (ad 6), .ref (ad 7), .ref (ad 8), .ref (ad 9), .ref (ad 10), .int (M 1 10)] : List Value).set 10 (.int x))) = wc ad cI cZ cC (ms M 1 10 x) := rfl
theorem wcg_2 {ad : Nat → Nat} {cI cZ cC : ClassId} {M : Mem} : (wc ad cI cZ cC M)[2]? = some (ad 2, .inl (cI, 5, .inl (M 2))) := rfl
theorem wca_2 {ad : Nat → Nat} {cI cZ cC : ClassId} {M : Mem} {i : Nat} {x : Int32} : (wc ad cI cZ cC M).set 2 (ad 2, .inl (cI, 5, .inl (upd (M 2) i x))) = wc ad cI cZ cC (ms M 2 i x) := rfl
theorem wcg_3 {ad : Nat → Nat} {cI cZ cC : ClassId} {M : Mem} : (wc ad cI cZ cC M)[3]? = some (ad 3, .inl (cI, 120, .inl (M 3))) := rfl
theorem wca_3 {ad : Nat → Nat} {cI cZ cC : ClassId} {M : Mem} {i : Nat} {x : Int32} : (wc ad cI cZ cC M).set 3 (ad 3, .inl (cI, 120, .inl (upd (M 3) i x))) = wc ad cI cZ cC (ms M 3 i x) := rfl
theorem wcg_4 {ad : Nat → Nat} {cI cZ cC : ClassId} {M : Mem} : (wc ad cI cZ cC M)[4]? = some (ad 4, .inl (cI, 120, .inl (M 4))) := rfl
theorem wca_4 {ad : Nat → Nat} {cI cZ cC : ClassId} {M : Mem} {i : Nat} {x : Int32} : (wc ad cI cZ cC M).set 4 (ad 4, .inl (cI, 120, .inl (upd (M 4) i x))) = wc ad cI cZ cC (ms M 4 i x) := rfl
theorem wcg_5 {ad : Nat → Nat} {cI cZ cC : ClassId} {M : Mem} : (wc ad cI cZ cC M)[5]? = some (ad 5, .inl (cI, 120, .inl (M 5))) := rfl
theorem wca_5 {ad : Nat → Nat} {cI cZ cC : ClassId} {M : Mem} {i : Nat} {x : Int32} : (wc ad cI cZ cC M).set 5 (ad 5, .inl (cI, 120, .inl (upd (M 5) i x))) = wc ad cI cZ cC (ms M 5 i x) := rfl
theorem wcg_6 {ad : Nat → Nat} {cI cZ cC : ClassId} {M : Mem} : (wc ad cI cZ cC M)[6]? = some (ad 6, .inl (cI, 120, .inl (M 6))) := rfl
theorem wca_6 {ad : Nat → Nat} {cI cZ cC : ClassId} {M : Mem} {i : Nat} {x : Int32} : (wc ad cI cZ cC M).set 6 (ad 6, .inl (cI, 120, .inl (upd (M 6) i x))) = wc ad cI cZ cC (ms M 6 i x) := rfl
theorem wcg_7 {ad : Nat → Nat} {cI cZ cC : ClassId} {M : Mem} : (wc ad cI cZ cC M)[7]? = some (ad 7, .inl (cI, 120, .inl (M 7))) := rfl
theorem wca_7 {ad : Nat → Nat} {cI cZ cC : ClassId} {M : Mem} {i : Nat} {x : Int32} : (wc ad cI cZ cC M).set 7 (ad 7, .inl (cI, 120, .inl (upd (M 7) i x))) = wc ad cI cZ cC (ms M 7 i x) := rfl
theorem wcg_8 {ad : Nat → Nat} {cI cZ cC : ClassId} {M : Mem} : (wc ad cI cZ cC M)[8]? = some (ad 8, .inl (cI, 120, .inl (M 8))) := rfl
theorem wca_8 {ad : Nat → Nat} {cI cZ cC : ClassId} {M : Mem} {i : Nat} {x : Int32} : (wc ad cI cZ cC M).set 8 (ad 8, .inl (cI, 120, .inl (upd (M 8) i x))) = wc ad cI cZ cC (ms M 8 i x) := rfl
theorem wcg_9 {ad : Nat → Nat} {cI cZ cC : ClassId} {M : Mem} : (wc ad cI cZ cC M)[9]? = some (ad 9, .inl (cI, 120, .inl (M 9))) := rfl
theorem wca_9 {ad : Nat → Nat} {cI cZ cC : ClassId} {M : Mem} {i : Nat} {x : Int32} : (wc ad cI cZ cC M).set 9 (ad 9, .inl (cI, 120, .inl (upd (M 9) i x))) = wc ad cI cZ cC (ms M 9 i x) := rfl
theorem wcg_10 {ad : Nat → Nat} {cI cZ cC : ClassId} {M : Mem} : (wc ad cI cZ cC M)[10]? = some (ad 10, .inl (cI, 120, .inl (M 10))) := rfl
theorem wca_10 {ad : Nat → Nat} {cI cZ cC : ClassId} {M : Mem} {i : Nat} {x : Int32} : (wc ad cI cZ cC M).set 10 (ad 10, .inl (cI, 120, .inl (upd (M 10) i x))) = wc ad cI cZ cC (ms M 10 i x) := rfl
theorem wcg_11 {ad : Nat → Nat} {cI cZ cC : ClassId} {M : Mem} : (wc ad cI cZ cC M)[11]? = some (ad 11, .inr (3, [.ref (ad 1), .ref (ad 12), .ref (ad 13), .int (M 11 3), .ref (ad 14), .ref (ad 15), .ref (ad 16), .ref (ad 17), .ref (ad 18), .int (M 11 9), .ref (ad 19), .ref (ad 20), .ref (ad 21), .ref (ad 22), .int (M 11 14)])) := rfl
theorem wcf_11_3 {ad : Nat → Nat} {cI cZ cC : ClassId} {M : Mem} {x : Int32} : (wc ad cI cZ cC M).set 11 (ad 11, .inr (3, ([.ref (ad 1), .ref (ad 12), .ref (ad 13), .int (M 11 3), .ref (ad 14), .ref (ad 15), .ref (ad 16), .ref (ad 17), .ref (ad 18), .int (M 11 9), .ref (ad 19), .ref (ad 20), .ref (ad 21), .ref (ad 22), .int (M 11 14)] : List Value).set 3 (.int x))) = wc ad cI cZ cC (ms M 11 3 x) := rfl
theorem wcf_11_9 {ad : Nat → Nat} {cI cZ cC : ClassId} {M : Mem} {x : Int32} : (wc ad cI cZ cC M).set 11 (ad 11, .inr (3, ([.ref (ad 1), .ref (ad 12), .ref (ad 13), .int (M 11 3), .ref (ad 14), .ref (ad 15), .ref (ad 16), .ref (ad 17), .ref (ad 18), .int (M 11 9), .ref (ad 19), .ref (ad 20), .ref (ad 21), .ref (ad 22), .int (M 11 14)] : List Value).set 9 (.int x))) = wc ad cI cZ cC (ms M 11 9 x) := rfl
theorem wcf_11_14 {ad : Nat → Nat} {cI cZ cC : ClassId} {M : Mem} {x : Int32} : (wc ad cI cZ cC M).set 11 (ad 11, .inr (3, ([.ref (ad 1), .ref (ad 12), .ref (ad 13), .int (M 11 3), .ref (ad 14), .ref (ad 15), .ref (ad 16), .ref (ad 17), .ref (ad 18), .int (M 11 9), .ref (ad 19), .ref (ad 20), .ref (ad 21), .ref (ad 22), .int (M 11 14)] : List Value).set 14 (.int x))) = wc ad cI cZ cC (ms M 11 14 x) := rfl
theorem wcg_12 {ad : Nat → Nat} {cI cZ cC : ClassId} {M : Mem} : (wc ad cI cZ cC M)[12]? = some (ad 12, .inl (cI, 120, .inl (M 12))) := rfl
theorem wca_12 {ad : Nat → Nat} {cI cZ cC : ClassId} {M : Mem} {i : Nat} {x : Int32} : (wc ad cI cZ cC M).set 12 (ad 12, .inl (cI, 120, .inl (upd (M 12) i x))) = wc ad cI cZ cC (ms M 12 i x) := rfl
theorem wcg_13 {ad : Nat → Nat} {cI cZ cC : ClassId} {M : Mem} : (wc ad cI cZ cC M)[13]? = some (ad 13, .inl (cI, 120, .inl (M 13))) := rfl
theorem wca_13 {ad : Nat → Nat} {cI cZ cC : ClassId} {M : Mem} {i : Nat} {x : Int32} : (wc ad cI cZ cC M).set 13 (ad 13, .inl (cI, 120, .inl (upd (M 13) i x))) = wc ad cI cZ cC (ms M 13 i x) := rfl
theorem wcg_14 {ad : Nat → Nat} {cI cZ cC : ClassId} {M : Mem} : (wc ad cI cZ cC M)[14]? = some (ad 14, .inl (cI, 120, .inl (M 14))) := rfl
theorem wca_14 {ad : Nat → Nat} {cI cZ cC : ClassId} {M : Mem} {i : Nat} {x : Int32} : (wc ad cI cZ cC M).set 14 (ad 14, .inl (cI, 120, .inl (upd (M 14) i x))) = wc ad cI cZ cC (ms M 14 i x) := rfl
theorem wcg_15 {ad : Nat → Nat} {cI cZ cC : ClassId} {M : Mem} : (wc ad cI cZ cC M)[15]? = some (ad 15, .inl (cI, 120, .inl (M 15))) := rfl
theorem wca_15 {ad : Nat → Nat} {cI cZ cC : ClassId} {M : Mem} {i : Nat} {x : Int32} : (wc ad cI cZ cC M).set 15 (ad 15, .inl (cI, 120, .inl (upd (M 15) i x))) = wc ad cI cZ cC (ms M 15 i x) := rfl
theorem wcg_16 {ad : Nat → Nat} {cI cZ cC : ClassId} {M : Mem} : (wc ad cI cZ cC M)[16]? = some (ad 16, .inl (cI, 120, .inl (M 16))) := rfl
theorem wca_16 {ad : Nat → Nat} {cI cZ cC : ClassId} {M : Mem} {i : Nat} {x : Int32} : (wc ad cI cZ cC M).set 16 (ad 16, .inl (cI, 120, .inl (upd (M 16) i x))) = wc ad cI cZ cC (ms M 16 i x) := rfl
theorem wcg_17 {ad : Nat → Nat} {cI cZ cC : ClassId} {M : Mem} : (wc ad cI cZ cC M)[17]? = some (ad 17, .inl (cI, 120, .inl (M 17))) := rfl
theorem wca_17 {ad : Nat → Nat} {cI cZ cC : ClassId} {M : Mem} {i : Nat} {x : Int32} : (wc ad cI cZ cC M).set 17 (ad 17, .inl (cI, 120, .inl (upd (M 17) i x))) = wc ad cI cZ cC (ms M 17 i x) := rfl
theorem wcg_18 {ad : Nat → Nat} {cI cZ cC : ClassId} {M : Mem} : (wc ad cI cZ cC M)[18]? = some (ad 18, .inl (cI, 120, .inl (M 18))) := rfl
theorem wca_18 {ad : Nat → Nat} {cI cZ cC : ClassId} {M : Mem} {i : Nat} {x : Int32} : (wc ad cI cZ cC M).set 18 (ad 18, .inl (cI, 120, .inl (upd (M 18) i x))) = wc ad cI cZ cC (ms M 18 i x) := rfl
theorem wcg_19 {ad : Nat → Nat} {cI cZ cC : ClassId} {M : Mem} : (wc ad cI cZ cC M)[19]? = some (ad 19, .inl (cI, 121, .inl (M 19))) := rfl
theorem wca_19 {ad : Nat → Nat} {cI cZ cC : ClassId} {M : Mem} {i : Nat} {x : Int32} : (wc ad cI cZ cC M).set 19 (ad 19, .inl (cI, 121, .inl (upd (M 19) i x))) = wc ad cI cZ cC (ms M 19 i x) := rfl
theorem wcg_20 {ad : Nat → Nat} {cI cZ cC : ClassId} {M : Mem} : (wc ad cI cZ cC M)[20]? = some (ad 20, .inl (cI, 121, .inl (M 20))) := rfl
theorem wca_20 {ad : Nat → Nat} {cI cZ cC : ClassId} {M : Mem} {i : Nat} {x : Int32} : (wc ad cI cZ cC M).set 20 (ad 20, .inl (cI, 121, .inl (upd (M 20) i x))) = wc ad cI cZ cC (ms M 20 i x) := rfl
theorem wcg_21 {ad : Nat → Nat} {cI cZ cC : ClassId} {M : Mem} : (wc ad cI cZ cC M)[21]? = some (ad 21, .inl (cI, 121, .inl (M 21))) := rfl
theorem wca_21 {ad : Nat → Nat} {cI cZ cC : ClassId} {M : Mem} {i : Nat} {x : Int32} : (wc ad cI cZ cC M).set 21 (ad 21, .inl (cI, 121, .inl (upd (M 21) i x))) = wc ad cI cZ cC (ms M 21 i x) := rfl
theorem wcg_22 {ad : Nat → Nat} {cI cZ cC : ClassId} {M : Mem} : (wc ad cI cZ cC M)[22]? = some (ad 22, .inl (cI, 121, .inl (M 22))) := rfl
theorem wca_22 {ad : Nat → Nat} {cI cZ cC : ClassId} {M : Mem} {i : Nat} {x : Int32} : (wc ad cI cZ cC M).set 22 (ad 22, .inl (cI, 121, .inl (upd (M 22) i x))) = wc ad cI cZ cC (ms M 22 i x) := rfl
theorem wcg_23 {ad : Nat → Nat} {cI cZ cC : ClassId} {M : Mem} : (wc ad cI cZ cC M)[23]? = some (ad 23, .inr (2, [.ref (ad 1), .ref (ad 11), .ref (ad 24), .int (M 23 3), .int (M 23 4)])) := rfl
theorem wcf_23_3 {ad : Nat → Nat} {cI cZ cC : ClassId} {M : Mem} {x : Int32} : (wc ad cI cZ cC M).set 23 (ad 23, .inr (2, ([.ref (ad 1), .ref (ad 11), .ref (ad 24), .int (M 23 3), .int (M 23 4)] : List Value).set 3 (.int x))) = wc ad cI cZ cC (ms M 23 3 x) := rfl
theorem wcf_23_4 {ad : Nat → Nat} {cI cZ cC : ClassId} {M : Mem} {x : Int32} : (wc ad cI cZ cC M).set 23 (ad 23, .inr (2, ([.ref (ad 1), .ref (ad 11), .ref (ad 24), .int (M 23 3), .int (M 23 4)] : List Value).set 4 (.int x))) = wc ad cI cZ cC (ms M 23 4 x) := rfl
theorem wcg_24 {ad : Nat → Nat} {cI cZ cC : ClassId} {M : Mem} : (wc ad cI cZ cC M)[24]? = some (ad 24, .inl (cC, 256, .inl (M 24))) := rfl
theorem wca_24 {ad : Nat → Nat} {cI cZ cC : ClassId} {M : Mem} {i : Nat} {x : Int32} : (wc ad cI cZ cC M).set 24 (ad 24, .inl (cC, 256, .inl (upd (M 24) i x))) = wc ad cI cZ cC (ms M 24 i x) := rfl
theorem wcg_25 {ad : Nat → Nat} {cI cZ cC : ClassId} {M : Mem} : (wc ad cI cZ cC M)[25]? = some (ad 25, .inr (1, [.ref (ad 1), .ref (ad 26), .ref (ad 27), .ref (ad 28), .int (M 25 4)])) := rfl
theorem wcf_25_4 {ad : Nat → Nat} {cI cZ cC : ClassId} {M : Mem} {x : Int32} : (wc ad cI cZ cC M).set 25 (ad 25, .inr (1, ([.ref (ad 1), .ref (ad 26), .ref (ad 27), .ref (ad 28), .int (M 25 4)] : List Value).set 4 (.int x))) = wc ad cI cZ cC (ms M 25 4 x) := rfl
theorem wcg_26 {ad : Nat → Nat} {cI cZ cC : ClassId} {M : Mem} : (wc ad cI cZ cC M)[26]? = some (ad 26, .inl (cZ, 120, .inl (M 26))) := rfl
theorem wca_26 {ad : Nat → Nat} {cI cZ cC : ClassId} {M : Mem} {i : Nat} {x : Int32} : (wc ad cI cZ cC M).set 26 (ad 26, .inl (cZ, 120, .inl (upd (M 26) i x))) = wc ad cI cZ cC (ms M 26 i x) := rfl
theorem wcg_27 {ad : Nat → Nat} {cI cZ cC : ClassId} {M : Mem} : (wc ad cI cZ cC M)[27]? = some (ad 27, .inl (cI, 25, .inl (M 27))) := rfl
theorem wca_27 {ad : Nat → Nat} {cI cZ cC : ClassId} {M : Mem} {i : Nat} {x : Int32} : (wc ad cI cZ cC M).set 27 (ad 27, .inl (cI, 25, .inl (upd (M 27) i x))) = wc ad cI cZ cC (ms M 27 i x) := rfl
theorem wcg_28 {ad : Nat → Nat} {cI cZ cC : ClassId} {M : Mem} : (wc ad cI cZ cC M)[28]? = some (ad 28, .inl (cI, 120, .inl (M 28))) := rfl
theorem wca_28 {ad : Nat → Nat} {cI cZ cC : ClassId} {M : Mem} {i : Nat} {x : Int32} : (wc ad cI cZ cC M).set 28 (ad 28, .inl (cI, 120, .inl (upd (M 28) i x))) = wc ad cI cZ cC (ms M 28 i x) := rfl
theorem tw_93 : Cond.fieldLink "NoneWords$Facts" 15 "NoneWords$Facts" "names" "I" ∈ TB := inTB 93 (by decide +kernel) (by decide +kernel)
theorem tw_102 : Cond.fieldLink "NoneWords$Facts" 43 "NoneWords$Facts" "nodes" "I" ∈ TB := inTB 102 (by decide +kernel) (by decide +kernel)
theorem tw_285 : Cond.methodLink "NoneWords$Facts" 52 ⟨"NoneWords$Facts", "hasNode", "(I)Z"⟩ ∈ TB := inTB 285 (by decide +kernel) (by decide +kernel)
theorem tw_94 : Cond.fieldLink "NoneWords$Facts" 19 "NoneWords$Facts" "kinds" "[I" ∈ TB := inTB 94 (by decide +kernel) (by decide +kernel)
theorem tw_96 : Cond.fieldLink "NoneWords$Facts" 25 "NoneWords$Facts" "toldNames" "[I" ∈ TB := inTB 96 (by decide +kernel) (by decide +kernel)
theorem tw_97 : Cond.fieldLink "NoneWords$Facts" 28 "NoneWords$Facts" "toldSets" "[I" ∈ TB := inTB 97 (by decide +kernel) (by decide +kernel)
theorem tw_98 : Cond.fieldLink "NoneWords$Facts" 31 "NoneWords$Facts" "toldOthers" "[I" ∈ TB := inTB 98 (by decide +kernel) (by decide +kernel)
theorem tw_99 : Cond.fieldLink "NoneWords$Facts" 34 "NoneWords$Facts" "toldOtherSets" "[I" ∈ TB := inTB 99 (by decide +kernel) (by decide +kernel)
theorem tw_100 : Cond.fieldLink "NoneWords$Facts" 37 "NoneWords$Facts" "leftParts" "[I" ∈ TB := inTB 100 (by decide +kernel) (by decide +kernel)
section FACTS
variable {p : Program} {l : Launch} {e : Env} {s : State} {m : MethodId} {args : Array Value} {below : List Frame} {meth : Method} {c : Code} {D : va_G} {A : Nat → Prop} {Z : gw_Z} {ad : Nat → Nat} {cI cZ cC : ClassId}
abbrev b_F_countNames : ByteArray := prog_2_method_2_code
def y_F_countNames : MethodName := ⟨"NoneWords$Facts", "countNames", "()I"⟩
abbrev ws_F_countNames : List Cond := Cond.code y_F_countNames b_F_countNames 1 (some (FieldType.int)) :: TB
set_option maxRecDepth 100000 in
theorem tc_F_countNames : Cond.code y_F_countNames b_F_countNames 1 (some (FieldType.int)) ∈ TB := inTB 523 rfl rfl
theorem mv_F_countNames : Cond.instanceMethod y_F_countNames ∈ TB ∧ Cond.selects "NoneWords$Facts" y_F_countNames y_F_countNames ∈ TB ∧ Cond.initialized "NoneWords$Facts" ∈ TB ∧ Cond.code y_F_countNames b_F_countNames 1 (some (FieldType.int)) ∈ TB := ⟨inTB 521 (by decide +kernel) (by decide +kernel), inTB 522 (by decide +kernel) (by decide +kernel), inTB 65 (by decide +kernel) (by decide +kernel), tc_F_countNames⟩
theorem pd_F_countNames : y_F_countNames.cls = "NoneWords$Facts" ∧ y_F_countNames.cls ≠ "java/lang/invoke/MethodHandle" ∧ y_F_countNames.cls ≠ "java/lang/invoke/VarHandle" ∧ (parseMethodDescriptor y_F_countNames.desc).map (fun d => d.parameters.length) = some 0 := by decide +kernel
theorem d_F_countNames_0 : decode b_F_countNames 0 = .ok (.aload_n 0, 1) := by decide +kernel
theorem d_F_countNames_1 : decode b_F_countNames 1 = .ok (.getfield 15, 3) := by decide +kernel
theorem d_F_countNames_4 : decode b_F_countNames 4 = .ok (.ireturn, 1) := by decide +kernel
abbrev rm_F_countNames : Room := { frames := 0, cells := 0, slots := 0, locals := 0 }
def f_F_countNames (M : Mem) : Option (Int32 × Mem) :=
  some (M 1 1, M)
set_option maxRecDepth 100000 in
theorem g_F_countNames {r : Int32} {M' : Mem} (C : GC p s m args meth c b_F_countNames 1 (some (FieldType.int)) "NoneWords$Facts" TB D vwCl (tysW cI cZ cC) A Z) {M : Mem} (hf : f_F_countNames M = some (r, M')) : GW p l e rm_F_countNames s m args below meth c (MQ below (QW D vwCl (tysW cI cZ cC) A (some (.int r)) (wc ad cI cZ cC M')) args s 0 0 A) D vwCl A 1 0 0 (wc ad cI cZ cC M) 0 [(0, .ref (ad 1))] [] := by
  unfold f_F_countNames at hf
  refine gw_aload_n C 0 d_F_countNames_0 rfl rfl ?_
  refine gw_get C in_F 1 wcg_1 clg_0 1 (by decide) tw_93 rfl rfl d_F_countNames_1 ?_
  exact gw_ireti C d_F_countNames_4 (wc ad cI cZ cC) hf
theorem c_F_countNames (hZ : gw_ZOK Z) {M : Mem} {r : Int32} {M' : Mem} (hf : f_F_countNames M = some (r, M')) : CW l y_F_countNames ws_F_countNames rm_F_countNames D vwCl (tysW cI cZ cC) Z [.ref (ad 1)] (wc ad cI cZ cC M) (some (.int r)) (wc ad cI cZ cC M') 0 0 :=
  CW.ofG hZ (by decide) rfl (Nat.le_of_ble_eq_true rfl) (fun _ _ _ _ _ _ _ _ C _ => g_F_countNames C hf)
abbrev b_F_countNodes : ByteArray := prog_2_method_3_code
def y_F_countNodes : MethodName := ⟨"NoneWords$Facts", "countNodes", "()I"⟩
abbrev ws_F_countNodes : List Cond := Cond.code y_F_countNodes b_F_countNodes 1 (some (FieldType.int)) :: TB
set_option maxRecDepth 100000 in
theorem tc_F_countNodes : Cond.code y_F_countNodes b_F_countNodes 1 (some (FieldType.int)) ∈ TB := inTB 625 rfl rfl
theorem mv_F_countNodes : Cond.instanceMethod y_F_countNodes ∈ TB ∧ Cond.selects "NoneWords$Facts" y_F_countNodes y_F_countNodes ∈ TB ∧ Cond.initialized "NoneWords$Facts" ∈ TB ∧ Cond.code y_F_countNodes b_F_countNodes 1 (some (FieldType.int)) ∈ TB := ⟨inTB 623 (by decide +kernel) (by decide +kernel), inTB 624 (by decide +kernel) (by decide +kernel), inTB 65 (by decide +kernel) (by decide +kernel), tc_F_countNodes⟩
theorem pd_F_countNodes : y_F_countNodes.cls = "NoneWords$Facts" ∧ y_F_countNodes.cls ≠ "java/lang/invoke/MethodHandle" ∧ y_F_countNodes.cls ≠ "java/lang/invoke/VarHandle" ∧ (parseMethodDescriptor y_F_countNodes.desc).map (fun d => d.parameters.length) = some 0 := by decide +kernel
theorem d_F_countNodes_0 : decode b_F_countNodes 0 = .ok (.aload_n 0, 1) := by decide +kernel
theorem d_F_countNodes_1 : decode b_F_countNodes 1 = .ok (.getfield 43, 3) := by decide +kernel
theorem d_F_countNodes_4 : decode b_F_countNodes 4 = .ok (.ireturn, 1) := by decide +kernel
abbrev rm_F_countNodes : Room := { frames := 0, cells := 0, slots := 0, locals := 0 }
def f_F_countNodes (M : Mem) : Option (Int32 × Mem) :=
  some (M 1 10, M)
set_option maxRecDepth 100000 in
theorem g_F_countNodes {r : Int32} {M' : Mem} (C : GC p s m args meth c b_F_countNodes 1 (some (FieldType.int)) "NoneWords$Facts" TB D vwCl (tysW cI cZ cC) A Z) {M : Mem} (hf : f_F_countNodes M = some (r, M')) : GW p l e rm_F_countNodes s m args below meth c (MQ below (QW D vwCl (tysW cI cZ cC) A (some (.int r)) (wc ad cI cZ cC M')) args s 0 0 A) D vwCl A 1 0 0 (wc ad cI cZ cC M) 0 [(0, .ref (ad 1))] [] := by
  unfold f_F_countNodes at hf
  refine gw_aload_n C 0 d_F_countNodes_0 rfl rfl ?_
  refine gw_get C in_F 1 wcg_1 clg_0 10 (by decide) tw_102 rfl rfl d_F_countNodes_1 ?_
  exact gw_ireti C d_F_countNodes_4 (wc ad cI cZ cC) hf
theorem c_F_countNodes (hZ : gw_ZOK Z) {M : Mem} {r : Int32} {M' : Mem} (hf : f_F_countNodes M = some (r, M')) : CW l y_F_countNodes ws_F_countNodes rm_F_countNodes D vwCl (tysW cI cZ cC) Z [.ref (ad 1)] (wc ad cI cZ cC M) (some (.int r)) (wc ad cI cZ cC M') 0 0 :=
  CW.ofG hZ (by decide) rfl (Nat.le_of_ble_eq_true rfl) (fun _ _ _ _ _ _ _ _ C _ => g_F_countNodes C hf)
abbrev b_F_hasName : ByteArray := prog_2_method_4_code
def y_F_hasName : MethodName := ⟨"NoneWords$Facts", "hasName", "(I)Z"⟩
abbrev ws_F_hasName : List Cond := Cond.code y_F_hasName b_F_hasName 2 (some (FieldType.boolean)) :: TB
set_option maxRecDepth 100000 in
theorem tc_F_hasName : Cond.code y_F_hasName b_F_hasName 2 (some (FieldType.boolean)) ∈ TB := inTB 257 rfl rfl
theorem mv_F_hasName : Cond.instanceMethod y_F_hasName ∈ TB ∧ Cond.selects "NoneWords$Facts" y_F_hasName y_F_hasName ∈ TB ∧ Cond.initialized "NoneWords$Facts" ∈ TB ∧ Cond.code y_F_hasName b_F_hasName 2 (some (FieldType.boolean)) ∈ TB := ⟨inTB 255 (by decide +kernel) (by decide +kernel), inTB 256 (by decide +kernel) (by decide +kernel), inTB 65 (by decide +kernel) (by decide +kernel), tc_F_hasName⟩
theorem pd_F_hasName : y_F_hasName.cls = "NoneWords$Facts" ∧ y_F_hasName.cls ≠ "java/lang/invoke/MethodHandle" ∧ y_F_hasName.cls ≠ "java/lang/invoke/VarHandle" ∧ (parseMethodDescriptor y_F_hasName.desc).map (fun d => d.parameters.length) = some 1 := by decide +kernel
theorem d_F_hasName_0 : decode b_F_hasName 0 = .ok (.iload_n 1, 1) := by decide +kernel
theorem d_F_hasName_1 : decode b_F_hasName 1 = .ok (.ifCond .lt 15, 3) := by decide +kernel
theorem d_F_hasName_4 : decode b_F_hasName 4 = .ok (.iload_n 1, 1) := by decide +kernel
theorem d_F_hasName_5 : decode b_F_hasName 5 = .ok (.aload_n 0, 1) := by decide +kernel
theorem d_F_hasName_6 : decode b_F_hasName 6 = .ok (.getfield 15, 3) := by decide +kernel
theorem d_F_hasName_9 : decode b_F_hasName 9 = .ok (.if_icmp .ge 7, 3) := by decide +kernel
theorem d_F_hasName_12 : decode b_F_hasName 12 = .ok (.iconst 1, 1) := by decide +kernel
theorem d_F_hasName_13 : decode b_F_hasName 13 = .ok (.goto 4, 3) := by decide +kernel
theorem d_F_hasName_16 : decode b_F_hasName 16 = .ok (.iconst 0, 1) := by decide +kernel
theorem d_F_hasName_17 : decode b_F_hasName 17 = .ok (.ireturn, 1) := by decide +kernel
abbrev rm_F_hasName : Room := { frames := 0, cells := 0, slots := 0, locals := 0 }
def f_F_hasName (x1 : Int32) (M : Mem) : Option (Int32 × Mem) :=
  if x1 < 0 then some (0, M) else if (M 1 1) ≤ x1 then some (0, M) else some (1, M)
set_option maxRecDepth 100000 in
theorem g_F_hasName {r : Int32} {M' : Mem} (C : GC p s m args meth c b_F_hasName 2 (some (FieldType.boolean)) "NoneWords$Facts" TB D vwCl (tysW cI cZ cC) A Z) {x1 : Int32} {M : Mem} (hf : f_F_hasName x1 M = some (r, M')) : GW p l e rm_F_hasName s m args below meth c (MQ below (QW D vwCl (tysW cI cZ cC) A (some (.int r)) (wc ad cI cZ cC M')) args s 0 0 A) D vwCl A 2 0 0 (wc ad cI cZ cC M) 0 [(0, .ref (ad 1)), (1, .int x1)] [] := by
  unfold f_F_hasName at hf
  refine gw_iload_n C 1 d_F_hasName_0 rfl rfl ?_
  refine gw_if_lt (tgt := 16) C d_F_hasName_1 (by decide) (fun c => ?_) (fun c => ?_)
  · have hf := (if_pos c).symm.trans hf
    refine gw_iconst (v := 0) C d_F_hasName_16 (by decide) ?_
    exact gw_zreti C d_F_hasName_17 (wc ad cI cZ cC) (by decide) hf
  · have hf := (if_neg c).symm.trans hf
    refine gw_iload_n C 1 d_F_hasName_4 rfl rfl ?_
    refine gw_aload_n C 0 d_F_hasName_5 rfl rfl ?_
    refine gw_get C in_F 1 wcg_1 clg_0 1 (by decide) tw_93 rfl rfl d_F_hasName_6 ?_
    refine gw_icmp_ge (tgt := 16) C d_F_hasName_9 (by decide) (fun c => ?_) (fun c => ?_)
    · have hf := (if_pos c).symm.trans hf
      refine gw_iconst (v := 0) C d_F_hasName_16 (by decide) ?_
      exact gw_zreti C d_F_hasName_17 (wc ad cI cZ cC) (by decide) hf
    · have hf := (if_neg c).symm.trans hf
      refine gw_iconst (v := 1) C d_F_hasName_12 (by decide) ?_
      refine gw_goto (tgt := 17) C d_F_hasName_13 (by decide) ?_
      exact gw_zreti C d_F_hasName_17 (wc ad cI cZ cC) (by decide) hf
theorem c_F_hasName (hZ : gw_ZOK Z) {x1 : Int32} {M : Mem} {r : Int32} {M' : Mem} (hf : f_F_hasName x1 M = some (r, M')) : CW l y_F_hasName ws_F_hasName rm_F_hasName D vwCl (tysW cI cZ cC) Z [.ref (ad 1), .int x1] (wc ad cI cZ cC M) (some (.int r)) (wc ad cI cZ cC M') 0 0 :=
  CW.ofG hZ (by decide) rfl (Nat.le_of_ble_eq_true rfl) (fun _ _ _ _ _ _ _ _ C _ => g_F_hasName C hf)
abbrev b_F_hasNode : ByteArray := prog_2_method_5_code
def y_F_hasNode : MethodName := ⟨"NoneWords$Facts", "hasNode", "(I)Z"⟩
abbrev ws_F_hasNode : List Cond := Cond.code y_F_hasNode b_F_hasNode 2 (some (FieldType.boolean)) :: TB
set_option maxRecDepth 100000 in
theorem tc_F_hasNode : Cond.code y_F_hasNode b_F_hasNode 2 (some (FieldType.boolean)) ∈ TB := inTB 288 rfl rfl
theorem mv_F_hasNode : Cond.instanceMethod y_F_hasNode ∈ TB ∧ Cond.selects "NoneWords$Facts" y_F_hasNode y_F_hasNode ∈ TB ∧ Cond.initialized "NoneWords$Facts" ∈ TB ∧ Cond.code y_F_hasNode b_F_hasNode 2 (some (FieldType.boolean)) ∈ TB := ⟨inTB 286 (by decide +kernel) (by decide +kernel), inTB 287 (by decide +kernel) (by decide +kernel), inTB 65 (by decide +kernel) (by decide +kernel), tc_F_hasNode⟩
theorem pd_F_hasNode : y_F_hasNode.cls = "NoneWords$Facts" ∧ y_F_hasNode.cls ≠ "java/lang/invoke/MethodHandle" ∧ y_F_hasNode.cls ≠ "java/lang/invoke/VarHandle" ∧ (parseMethodDescriptor y_F_hasNode.desc).map (fun d => d.parameters.length) = some 1 := by decide +kernel
theorem d_F_hasNode_0 : decode b_F_hasNode 0 = .ok (.iload_n 1, 1) := by decide +kernel
theorem d_F_hasNode_1 : decode b_F_hasNode 1 = .ok (.ifCond .lt 15, 3) := by decide +kernel
theorem d_F_hasNode_4 : decode b_F_hasNode 4 = .ok (.iload_n 1, 1) := by decide +kernel
theorem d_F_hasNode_5 : decode b_F_hasNode 5 = .ok (.aload_n 0, 1) := by decide +kernel
theorem d_F_hasNode_6 : decode b_F_hasNode 6 = .ok (.getfield 43, 3) := by decide +kernel
theorem d_F_hasNode_9 : decode b_F_hasNode 9 = .ok (.if_icmp .ge 7, 3) := by decide +kernel
theorem d_F_hasNode_12 : decode b_F_hasNode 12 = .ok (.iconst 1, 1) := by decide +kernel
theorem d_F_hasNode_13 : decode b_F_hasNode 13 = .ok (.goto 4, 3) := by decide +kernel
theorem d_F_hasNode_16 : decode b_F_hasNode 16 = .ok (.iconst 0, 1) := by decide +kernel
theorem d_F_hasNode_17 : decode b_F_hasNode 17 = .ok (.ireturn, 1) := by decide +kernel
abbrev rm_F_hasNode : Room := { frames := 0, cells := 0, slots := 0, locals := 0 }
def f_F_hasNode (x1 : Int32) (M : Mem) : Option (Int32 × Mem) :=
  if x1 < 0 then some (0, M) else if (M 1 10) ≤ x1 then some (0, M) else some (1, M)
set_option maxRecDepth 100000 in
theorem g_F_hasNode {r : Int32} {M' : Mem} (C : GC p s m args meth c b_F_hasNode 2 (some (FieldType.boolean)) "NoneWords$Facts" TB D vwCl (tysW cI cZ cC) A Z) {x1 : Int32} {M : Mem} (hf : f_F_hasNode x1 M = some (r, M')) : GW p l e rm_F_hasNode s m args below meth c (MQ below (QW D vwCl (tysW cI cZ cC) A (some (.int r)) (wc ad cI cZ cC M')) args s 0 0 A) D vwCl A 2 0 0 (wc ad cI cZ cC M) 0 [(0, .ref (ad 1)), (1, .int x1)] [] := by
  unfold f_F_hasNode at hf
  refine gw_iload_n C 1 d_F_hasNode_0 rfl rfl ?_
  refine gw_if_lt (tgt := 16) C d_F_hasNode_1 (by decide) (fun c => ?_) (fun c => ?_)
  · have hf := (if_pos c).symm.trans hf
    refine gw_iconst (v := 0) C d_F_hasNode_16 (by decide) ?_
    exact gw_zreti C d_F_hasNode_17 (wc ad cI cZ cC) (by decide) hf
  · have hf := (if_neg c).symm.trans hf
    refine gw_iload_n C 1 d_F_hasNode_4 rfl rfl ?_
    refine gw_aload_n C 0 d_F_hasNode_5 rfl rfl ?_
    refine gw_get C in_F 1 wcg_1 clg_0 10 (by decide) tw_102 rfl rfl d_F_hasNode_6 ?_
    refine gw_icmp_ge (tgt := 16) C d_F_hasNode_9 (by decide) (fun c => ?_) (fun c => ?_)
    · have hf := (if_pos c).symm.trans hf
      refine gw_iconst (v := 0) C d_F_hasNode_16 (by decide) ?_
      exact gw_zreti C d_F_hasNode_17 (wc ad cI cZ cC) (by decide) hf
    · have hf := (if_neg c).symm.trans hf
      refine gw_iconst (v := 1) C d_F_hasNode_12 (by decide) ?_
      refine gw_goto (tgt := 17) C d_F_hasNode_13 (by decide) ?_
      exact gw_zreti C d_F_hasNode_17 (wc ad cI cZ cC) (by decide) hf
theorem c_F_hasNode (hZ : gw_ZOK Z) {x1 : Int32} {M : Mem} {r : Int32} {M' : Mem} (hf : f_F_hasNode x1 M = some (r, M')) : CW l y_F_hasNode ws_F_hasNode rm_F_hasNode D vwCl (tysW cI cZ cC) Z [.ref (ad 1), .int x1] (wc ad cI cZ cC M) (some (.int r)) (wc ad cI cZ cC M') 0 0 :=
  CW.ofG hZ (by decide) rfl (Nat.le_of_ble_eq_true rfl) (fun _ _ _ _ _ _ _ _ C _ => g_F_hasNode C hf)
abbrev b_F_kindOf : ByteArray := prog_2_method_6_code
def y_F_kindOf : MethodName := ⟨"NoneWords$Facts", "kindOf", "(I)I"⟩
abbrev ws_F_kindOf : List Cond := Cond.code y_F_kindOf b_F_kindOf 2 (some (FieldType.int)) :: TB
set_option maxRecDepth 100000 in
theorem tc_F_kindOf : Cond.code y_F_kindOf b_F_kindOf 2 (some (FieldType.int)) ∈ TB := inTB 557 rfl rfl
theorem mv_F_kindOf : Cond.instanceMethod y_F_kindOf ∈ TB ∧ Cond.selects "NoneWords$Facts" y_F_kindOf y_F_kindOf ∈ TB ∧ Cond.initialized "NoneWords$Facts" ∈ TB ∧ Cond.code y_F_kindOf b_F_kindOf 2 (some (FieldType.int)) ∈ TB := ⟨inTB 555 (by decide +kernel) (by decide +kernel), inTB 556 (by decide +kernel) (by decide +kernel), inTB 65 (by decide +kernel) (by decide +kernel), tc_F_kindOf⟩
theorem pd_F_kindOf : y_F_kindOf.cls = "NoneWords$Facts" ∧ y_F_kindOf.cls ≠ "java/lang/invoke/MethodHandle" ∧ y_F_kindOf.cls ≠ "java/lang/invoke/VarHandle" ∧ (parseMethodDescriptor y_F_kindOf.desc).map (fun d => d.parameters.length) = some 1 := by decide +kernel
theorem d_F_kindOf_0 : decode b_F_kindOf 0 = .ok (.aload_n 0, 1) := by decide +kernel
theorem d_F_kindOf_1 : decode b_F_kindOf 1 = .ok (.iload_n 1, 1) := by decide +kernel
theorem d_F_kindOf_2 : decode b_F_kindOf 2 = .ok (.invokevirtual 52, 3) := by decide +kernel
theorem d_F_kindOf_5 : decode b_F_kindOf 5 = .ok (.ifCond .eq 12, 3) := by decide +kernel
theorem d_F_kindOf_8 : decode b_F_kindOf 8 = .ok (.aload_n 0, 1) := by decide +kernel
theorem d_F_kindOf_9 : decode b_F_kindOf 9 = .ok (.getfield 19, 3) := by decide +kernel
theorem d_F_kindOf_12 : decode b_F_kindOf 12 = .ok (.iload_n 1, 1) := by decide +kernel
theorem d_F_kindOf_13 : decode b_F_kindOf 13 = .ok (.iaload, 1) := by decide +kernel
theorem d_F_kindOf_14 : decode b_F_kindOf 14 = .ok (.goto 4, 3) := by decide +kernel
theorem d_F_kindOf_17 : decode b_F_kindOf 17 = .ok (.iconst (-1), 1) := by decide +kernel
theorem d_F_kindOf_18 : decode b_F_kindOf 18 = .ok (.ireturn, 1) := by decide +kernel
abbrev rm_F_kindOf : Room := { frames := 1, cells := 0, slots := 0, locals := 21 }
def f_F_kindOf (x1 : Int32) (M : Mem) : Option (Int32 × Mem) :=
  ob (f_F_hasNode x1 M) fun r2 M2 => if r2 = 0 then some ((-1), M2) else gd (inb x1 120) (some (M2 3 x1.toNatClampNeg, M2))
set_option maxRecDepth 100000 in
theorem g_F_kindOf {r : Int32} {M' : Mem} (C : GC p s m args meth c b_F_kindOf 2 (some (FieldType.int)) "NoneWords$Facts" TB D vwCl (tysW cI cZ cC) A Z) {x1 : Int32} {M : Mem} (hf : f_F_kindOf x1 M = some (r, M')) : GW p l e rm_F_kindOf s m args below meth c (MQ below (QW D vwCl (tysW cI cZ cC) A (some (.int r)) (wc ad cI cZ cC M')) args s 0 0 A) D vwCl A 2 0 0 (wc ad cI cZ cC M) 0 [(0, .ref (ad 1)), (1, .int x1)] [] := by
  unfold f_F_kindOf at hf
  refine gw_aload_n C 0 d_F_kindOf_0 rfl rfl ?_
  refine gw_iload_n C 1 d_F_kindOf_1 rfl rfl ?_
  obtain ⟨r2, M2, hc2, hf⟩ := ob_some hf
  refine gw_callVr (rest := []) C 1 wcg_1 clg_0 (c_F_hasNode C.2.2.2.2.2.2.2.2.2.2 hc2) (cwV 1 C.2.2.2.2.1 (gTB_V tw_285 mv_F_hasNode) rfl rfl rfl pd_F_hasNode ⟨Nat.le_of_ble_eq_true rfl, Nat.le_of_ble_eq_true rfl⟩) rfl rfl (by decide) d_F_kindOf_2 ⟨Nat.le_of_ble_eq_true rfl, Nat.le_of_ble_eq_true rfl⟩ ?_
  refine gw_if_eq (tgt := 17) C d_F_kindOf_5 (by decide) (fun c => ?_) (fun c => ?_)
  · have hf := (if_pos c).symm.trans hf
    refine gw_iconst (v := (-1)) C d_F_kindOf_17 (by decide) ?_
    exact gw_ireti C d_F_kindOf_18 (wc ad cI cZ cC) hf
  · have hf := (if_neg c).symm.trans hf
    refine gw_aload_n C 0 d_F_kindOf_8 rfl rfl ?_
    refine gw_get C in_F 1 wcg_1 clg_0 2 (by decide) tw_94 rfl rfl d_F_kindOf_9 ?_
    refine gw_iload_n C 1 d_F_kindOf_12 rfl rfl ?_
    obtain ⟨hb13, hf⟩ := gd_some hf
    refine gw_iald C 3 0 wcg_3 rfl hb13 d_F_kindOf_13 ?_
    refine gw_goto (tgt := 18) C d_F_kindOf_14 (by decide) ?_
    exact gw_ireti C d_F_kindOf_18 (wc ad cI cZ cC) hf
theorem c_F_kindOf (hZ : gw_ZOK Z) {x1 : Int32} {M : Mem} {r : Int32} {M' : Mem} (hf : f_F_kindOf x1 M = some (r, M')) : CW l y_F_kindOf ws_F_kindOf rm_F_kindOf D vwCl (tysW cI cZ cC) Z [.ref (ad 1), .int x1] (wc ad cI cZ cC M) (some (.int r)) (wc ad cI cZ cC M') 0 0 :=
  CW.ofG hZ (by decide) rfl (Nat.le_of_ble_eq_true rfl) (fun _ _ _ _ _ _ _ _ C _ => g_F_kindOf C hf)
abbrev b_F_isJoin : ByteArray := prog_2_method_7_code
def y_F_isJoin : MethodName := ⟨"NoneWords$Facts", "isJoin", "(I)Z"⟩
abbrev ws_F_isJoin : List Cond := Cond.code y_F_isJoin b_F_isJoin 2 (some (FieldType.boolean)) :: TB
set_option maxRecDepth 100000 in
theorem tc_F_isJoin : Cond.code y_F_isJoin b_F_isJoin 2 (some (FieldType.boolean)) ∈ TB := inTB 360 rfl rfl
theorem mv_F_isJoin : Cond.instanceMethod y_F_isJoin ∈ TB ∧ Cond.selects "NoneWords$Facts" y_F_isJoin y_F_isJoin ∈ TB ∧ Cond.initialized "NoneWords$Facts" ∈ TB ∧ Cond.code y_F_isJoin b_F_isJoin 2 (some (FieldType.boolean)) ∈ TB := ⟨inTB 358 (by decide +kernel) (by decide +kernel), inTB 359 (by decide +kernel) (by decide +kernel), inTB 65 (by decide +kernel) (by decide +kernel), tc_F_isJoin⟩
theorem pd_F_isJoin : y_F_isJoin.cls = "NoneWords$Facts" ∧ y_F_isJoin.cls ≠ "java/lang/invoke/MethodHandle" ∧ y_F_isJoin.cls ≠ "java/lang/invoke/VarHandle" ∧ (parseMethodDescriptor y_F_isJoin.desc).map (fun d => d.parameters.length) = some 1 := by decide +kernel
theorem d_F_isJoin_0 : decode b_F_isJoin 0 = .ok (.aload_n 0, 1) := by decide +kernel
theorem d_F_isJoin_1 : decode b_F_isJoin 1 = .ok (.iload_n 1, 1) := by decide +kernel
theorem d_F_isJoin_2 : decode b_F_isJoin 2 = .ok (.invokevirtual 52, 3) := by decide +kernel
theorem d_F_isJoin_5 : decode b_F_isJoin 5 = .ok (.ifCond .eq 17, 3) := by decide +kernel
theorem d_F_isJoin_8 : decode b_F_isJoin 8 = .ok (.aload_n 0, 1) := by decide +kernel
theorem d_F_isJoin_9 : decode b_F_isJoin 9 = .ok (.getfield 19, 3) := by decide +kernel
theorem d_F_isJoin_12 : decode b_F_isJoin 12 = .ok (.iload_n 1, 1) := by decide +kernel
theorem d_F_isJoin_13 : decode b_F_isJoin 13 = .ok (.iaload, 1) := by decide +kernel
theorem d_F_isJoin_14 : decode b_F_isJoin 14 = .ok (.iconst 4, 1) := by decide +kernel
theorem d_F_isJoin_15 : decode b_F_isJoin 15 = .ok (.if_icmp .ne 7, 3) := by decide +kernel
theorem d_F_isJoin_18 : decode b_F_isJoin 18 = .ok (.iconst 1, 1) := by decide +kernel
theorem d_F_isJoin_19 : decode b_F_isJoin 19 = .ok (.goto 4, 3) := by decide +kernel
theorem d_F_isJoin_22 : decode b_F_isJoin 22 = .ok (.iconst 0, 1) := by decide +kernel
theorem d_F_isJoin_23 : decode b_F_isJoin 23 = .ok (.ireturn, 1) := by decide +kernel
abbrev rm_F_isJoin : Room := { frames := 1, cells := 0, slots := 0, locals := 21 }
def f_F_isJoin (x1 : Int32) (M : Mem) : Option (Int32 × Mem) :=
  ob (f_F_hasNode x1 M) fun r2 M2 => if r2 = 0 then some (0, M2) else gd (inb x1 120) (if (M2 3 x1.toNatClampNeg) = 4 then some (1, M2) else some (0, M2))
set_option maxRecDepth 100000 in
theorem g_F_isJoin {r : Int32} {M' : Mem} (C : GC p s m args meth c b_F_isJoin 2 (some (FieldType.boolean)) "NoneWords$Facts" TB D vwCl (tysW cI cZ cC) A Z) {x1 : Int32} {M : Mem} (hf : f_F_isJoin x1 M = some (r, M')) : GW p l e rm_F_isJoin s m args below meth c (MQ below (QW D vwCl (tysW cI cZ cC) A (some (.int r)) (wc ad cI cZ cC M')) args s 0 0 A) D vwCl A 2 0 0 (wc ad cI cZ cC M) 0 [(0, .ref (ad 1)), (1, .int x1)] [] := by
  unfold f_F_isJoin at hf
  refine gw_aload_n C 0 d_F_isJoin_0 rfl rfl ?_
  refine gw_iload_n C 1 d_F_isJoin_1 rfl rfl ?_
  obtain ⟨r2, M2, hc2, hf⟩ := ob_some hf
  refine gw_callVr (rest := []) C 1 wcg_1 clg_0 (c_F_hasNode C.2.2.2.2.2.2.2.2.2.2 hc2) (cwV 1 C.2.2.2.2.1 (gTB_V tw_285 mv_F_hasNode) rfl rfl rfl pd_F_hasNode ⟨Nat.le_of_ble_eq_true rfl, Nat.le_of_ble_eq_true rfl⟩) rfl rfl (by decide) d_F_isJoin_2 ⟨Nat.le_of_ble_eq_true rfl, Nat.le_of_ble_eq_true rfl⟩ ?_
  refine gw_if_eq (tgt := 22) C d_F_isJoin_5 (by decide) (fun c => ?_) (fun c => ?_)
  · have hf := (if_pos c).symm.trans hf
    refine gw_iconst (v := 0) C d_F_isJoin_22 (by decide) ?_
    exact gw_zreti C d_F_isJoin_23 (wc ad cI cZ cC) (by decide) hf
  · have hf := (if_neg c).symm.trans hf
    refine gw_aload_n C 0 d_F_isJoin_8 rfl rfl ?_
    refine gw_get C in_F 1 wcg_1 clg_0 2 (by decide) tw_94 rfl rfl d_F_isJoin_9 ?_
    refine gw_iload_n C 1 d_F_isJoin_12 rfl rfl ?_
    obtain ⟨hb13, hf⟩ := gd_some hf
    refine gw_iald C 3 0 wcg_3 rfl hb13 d_F_isJoin_13 ?_
    refine gw_iconst (v := 4) C d_F_isJoin_14 (by decide) ?_
    refine gw_icmp_ne (tgt := 22) C d_F_isJoin_15 (by decide) (fun c => ?_) (fun c => ?_)
    · have hf := (if_neg c).symm.trans hf
      refine gw_iconst (v := 0) C d_F_isJoin_22 (by decide) ?_
      exact gw_zreti C d_F_isJoin_23 (wc ad cI cZ cC) (by decide) hf
    · have hf := (if_pos c).symm.trans hf
      refine gw_iconst (v := 1) C d_F_isJoin_18 (by decide) ?_
      refine gw_goto (tgt := 23) C d_F_isJoin_19 (by decide) ?_
      exact gw_zreti C d_F_isJoin_23 (wc ad cI cZ cC) (by decide) hf
theorem c_F_isJoin (hZ : gw_ZOK Z) {x1 : Int32} {M : Mem} {r : Int32} {M' : Mem} (hf : f_F_isJoin x1 M = some (r, M')) : CW l y_F_isJoin ws_F_isJoin rm_F_isJoin D vwCl (tysW cI cZ cC) Z [.ref (ad 1), .int x1] (wc ad cI cZ cC M) (some (.int r)) (wc ad cI cZ cC M') 0 0 :=
  CW.ofG hZ (by decide) rfl (Nat.le_of_ble_eq_true rfl) (fun _ _ _ _ _ _ _ _ C _ => g_F_isJoin C hf)
abbrev b_F_isLeaf : ByteArray := prog_2_method_8_code
def y_F_isLeaf : MethodName := ⟨"NoneWords$Facts", "isLeaf", "(I)Z"⟩
abbrev ws_F_isLeaf : List Cond := Cond.code y_F_isLeaf b_F_isLeaf 2 (some (FieldType.boolean)) :: TB
set_option maxRecDepth 100000 in
theorem tc_F_isLeaf : Cond.code y_F_isLeaf b_F_isLeaf 2 (some (FieldType.boolean)) ∈ TB := inTB 397 rfl rfl
theorem mv_F_isLeaf : Cond.instanceMethod y_F_isLeaf ∈ TB ∧ Cond.selects "NoneWords$Facts" y_F_isLeaf y_F_isLeaf ∈ TB ∧ Cond.initialized "NoneWords$Facts" ∈ TB ∧ Cond.code y_F_isLeaf b_F_isLeaf 2 (some (FieldType.boolean)) ∈ TB := ⟨inTB 395 (by decide +kernel) (by decide +kernel), inTB 396 (by decide +kernel) (by decide +kernel), inTB 65 (by decide +kernel) (by decide +kernel), tc_F_isLeaf⟩
theorem pd_F_isLeaf : y_F_isLeaf.cls = "NoneWords$Facts" ∧ y_F_isLeaf.cls ≠ "java/lang/invoke/MethodHandle" ∧ y_F_isLeaf.cls ≠ "java/lang/invoke/VarHandle" ∧ (parseMethodDescriptor y_F_isLeaf.desc).map (fun d => d.parameters.length) = some 1 := by decide +kernel
theorem d_F_isLeaf_0 : decode b_F_isLeaf 0 = .ok (.aload_n 0, 1) := by decide +kernel
theorem d_F_isLeaf_1 : decode b_F_isLeaf 1 = .ok (.iload_n 1, 1) := by decide +kernel
theorem d_F_isLeaf_2 : decode b_F_isLeaf 2 = .ok (.invokevirtual 52, 3) := by decide +kernel
theorem d_F_isLeaf_5 : decode b_F_isLeaf 5 = .ok (.ifCond .eq 17, 3) := by decide +kernel
theorem d_F_isLeaf_8 : decode b_F_isLeaf 8 = .ok (.aload_n 0, 1) := by decide +kernel
theorem d_F_isLeaf_9 : decode b_F_isLeaf 9 = .ok (.getfield 19, 3) := by decide +kernel
theorem d_F_isLeaf_12 : decode b_F_isLeaf 12 = .ok (.iload_n 1, 1) := by decide +kernel
theorem d_F_isLeaf_13 : decode b_F_isLeaf 13 = .ok (.iaload, 1) := by decide +kernel
theorem d_F_isLeaf_14 : decode b_F_isLeaf 14 = .ok (.iconst 4, 1) := by decide +kernel
theorem d_F_isLeaf_15 : decode b_F_isLeaf 15 = .ok (.if_icmp .eq 7, 3) := by decide +kernel
theorem d_F_isLeaf_18 : decode b_F_isLeaf 18 = .ok (.iconst 1, 1) := by decide +kernel
theorem d_F_isLeaf_19 : decode b_F_isLeaf 19 = .ok (.goto 4, 3) := by decide +kernel
theorem d_F_isLeaf_22 : decode b_F_isLeaf 22 = .ok (.iconst 0, 1) := by decide +kernel
theorem d_F_isLeaf_23 : decode b_F_isLeaf 23 = .ok (.ireturn, 1) := by decide +kernel
abbrev rm_F_isLeaf : Room := { frames := 1, cells := 0, slots := 0, locals := 21 }
def f_F_isLeaf (x1 : Int32) (M : Mem) : Option (Int32 × Mem) :=
  ob (f_F_hasNode x1 M) fun r2 M2 => if r2 = 0 then some (0, M2) else gd (inb x1 120) (if (M2 3 x1.toNatClampNeg) = 4 then some (0, M2) else some (1, M2))
set_option maxRecDepth 100000 in
theorem g_F_isLeaf {r : Int32} {M' : Mem} (C : GC p s m args meth c b_F_isLeaf 2 (some (FieldType.boolean)) "NoneWords$Facts" TB D vwCl (tysW cI cZ cC) A Z) {x1 : Int32} {M : Mem} (hf : f_F_isLeaf x1 M = some (r, M')) : GW p l e rm_F_isLeaf s m args below meth c (MQ below (QW D vwCl (tysW cI cZ cC) A (some (.int r)) (wc ad cI cZ cC M')) args s 0 0 A) D vwCl A 2 0 0 (wc ad cI cZ cC M) 0 [(0, .ref (ad 1)), (1, .int x1)] [] := by
  unfold f_F_isLeaf at hf
  refine gw_aload_n C 0 d_F_isLeaf_0 rfl rfl ?_
  refine gw_iload_n C 1 d_F_isLeaf_1 rfl rfl ?_
  obtain ⟨r2, M2, hc2, hf⟩ := ob_some hf
  refine gw_callVr (rest := []) C 1 wcg_1 clg_0 (c_F_hasNode C.2.2.2.2.2.2.2.2.2.2 hc2) (cwV 1 C.2.2.2.2.1 (gTB_V tw_285 mv_F_hasNode) rfl rfl rfl pd_F_hasNode ⟨Nat.le_of_ble_eq_true rfl, Nat.le_of_ble_eq_true rfl⟩) rfl rfl (by decide) d_F_isLeaf_2 ⟨Nat.le_of_ble_eq_true rfl, Nat.le_of_ble_eq_true rfl⟩ ?_
  refine gw_if_eq (tgt := 22) C d_F_isLeaf_5 (by decide) (fun c => ?_) (fun c => ?_)
  · have hf := (if_pos c).symm.trans hf
    refine gw_iconst (v := 0) C d_F_isLeaf_22 (by decide) ?_
    exact gw_zreti C d_F_isLeaf_23 (wc ad cI cZ cC) (by decide) hf
  · have hf := (if_neg c).symm.trans hf
    refine gw_aload_n C 0 d_F_isLeaf_8 rfl rfl ?_
    refine gw_get C in_F 1 wcg_1 clg_0 2 (by decide) tw_94 rfl rfl d_F_isLeaf_9 ?_
    refine gw_iload_n C 1 d_F_isLeaf_12 rfl rfl ?_
    obtain ⟨hb13, hf⟩ := gd_some hf
    refine gw_iald C 3 0 wcg_3 rfl hb13 d_F_isLeaf_13 ?_
    refine gw_iconst (v := 4) C d_F_isLeaf_14 (by decide) ?_
    refine gw_icmp_eq (tgt := 22) C d_F_isLeaf_15 (by decide) (fun c => ?_) (fun c => ?_)
    · have hf := (if_pos c).symm.trans hf
      refine gw_iconst (v := 0) C d_F_isLeaf_22 (by decide) ?_
      exact gw_zreti C d_F_isLeaf_23 (wc ad cI cZ cC) (by decide) hf
    · have hf := (if_neg c).symm.trans hf
      refine gw_iconst (v := 1) C d_F_isLeaf_18 (by decide) ?_
      refine gw_goto (tgt := 23) C d_F_isLeaf_19 (by decide) ?_
      exact gw_zreti C d_F_isLeaf_23 (wc ad cI cZ cC) (by decide) hf
theorem c_F_isLeaf (hZ : gw_ZOK Z) {x1 : Int32} {M : Mem} {r : Int32} {M' : Mem} (hf : f_F_isLeaf x1 M = some (r, M')) : CW l y_F_isLeaf ws_F_isLeaf rm_F_isLeaf D vwCl (tysW cI cZ cC) Z [.ref (ad 1), .int x1] (wc ad cI cZ cC M) (some (.int r)) (wc ad cI cZ cC M') 0 0 :=
  CW.ofG hZ (by decide) rfl (Nat.le_of_ble_eq_true rfl) (fun _ _ _ _ _ _ _ _ C _ => g_F_isLeaf C hf)
abbrev b_F_toldName : ByteArray := prog_2_method_9_code
def y_F_toldName : MethodName := ⟨"NoneWords$Facts", "toldName", "(I)I"⟩
abbrev ws_F_toldName : List Cond := Cond.code y_F_toldName b_F_toldName 2 (some (FieldType.int)) :: TB
set_option maxRecDepth 100000 in
theorem tc_F_toldName : Cond.code y_F_toldName b_F_toldName 2 (some (FieldType.int)) ∈ TB := inTB 549 rfl rfl
theorem mv_F_toldName : Cond.instanceMethod y_F_toldName ∈ TB ∧ Cond.selects "NoneWords$Facts" y_F_toldName y_F_toldName ∈ TB ∧ Cond.initialized "NoneWords$Facts" ∈ TB ∧ Cond.code y_F_toldName b_F_toldName 2 (some (FieldType.int)) ∈ TB := ⟨inTB 547 (by decide +kernel) (by decide +kernel), inTB 548 (by decide +kernel) (by decide +kernel), inTB 65 (by decide +kernel) (by decide +kernel), tc_F_toldName⟩
theorem pd_F_toldName : y_F_toldName.cls = "NoneWords$Facts" ∧ y_F_toldName.cls ≠ "java/lang/invoke/MethodHandle" ∧ y_F_toldName.cls ≠ "java/lang/invoke/VarHandle" ∧ (parseMethodDescriptor y_F_toldName.desc).map (fun d => d.parameters.length) = some 1 := by decide +kernel
theorem d_F_toldName_0 : decode b_F_toldName 0 = .ok (.aload_n 0, 1) := by decide +kernel
theorem d_F_toldName_1 : decode b_F_toldName 1 = .ok (.iload_n 1, 1) := by decide +kernel
theorem d_F_toldName_2 : decode b_F_toldName 2 = .ok (.invokevirtual 52, 3) := by decide +kernel
theorem d_F_toldName_5 : decode b_F_toldName 5 = .ok (.ifCond .eq 12, 3) := by decide +kernel
theorem d_F_toldName_8 : decode b_F_toldName 8 = .ok (.aload_n 0, 1) := by decide +kernel
theorem d_F_toldName_9 : decode b_F_toldName 9 = .ok (.getfield 25, 3) := by decide +kernel
theorem d_F_toldName_12 : decode b_F_toldName 12 = .ok (.iload_n 1, 1) := by decide +kernel
theorem d_F_toldName_13 : decode b_F_toldName 13 = .ok (.iaload, 1) := by decide +kernel
theorem d_F_toldName_14 : decode b_F_toldName 14 = .ok (.goto 4, 3) := by decide +kernel
theorem d_F_toldName_17 : decode b_F_toldName 17 = .ok (.iconst (-1), 1) := by decide +kernel
theorem d_F_toldName_18 : decode b_F_toldName 18 = .ok (.ireturn, 1) := by decide +kernel
abbrev rm_F_toldName : Room := { frames := 1, cells := 0, slots := 0, locals := 21 }
def f_F_toldName (x1 : Int32) (M : Mem) : Option (Int32 × Mem) :=
  ob (f_F_hasNode x1 M) fun r2 M2 => if r2 = 0 then some ((-1), M2) else gd (inb x1 120) (some (M2 5 x1.toNatClampNeg, M2))
set_option maxRecDepth 100000 in
theorem g_F_toldName {r : Int32} {M' : Mem} (C : GC p s m args meth c b_F_toldName 2 (some (FieldType.int)) "NoneWords$Facts" TB D vwCl (tysW cI cZ cC) A Z) {x1 : Int32} {M : Mem} (hf : f_F_toldName x1 M = some (r, M')) : GW p l e rm_F_toldName s m args below meth c (MQ below (QW D vwCl (tysW cI cZ cC) A (some (.int r)) (wc ad cI cZ cC M')) args s 0 0 A) D vwCl A 2 0 0 (wc ad cI cZ cC M) 0 [(0, .ref (ad 1)), (1, .int x1)] [] := by
  unfold f_F_toldName at hf
  refine gw_aload_n C 0 d_F_toldName_0 rfl rfl ?_
  refine gw_iload_n C 1 d_F_toldName_1 rfl rfl ?_
  obtain ⟨r2, M2, hc2, hf⟩ := ob_some hf
  refine gw_callVr (rest := []) C 1 wcg_1 clg_0 (c_F_hasNode C.2.2.2.2.2.2.2.2.2.2 hc2) (cwV 1 C.2.2.2.2.1 (gTB_V tw_285 mv_F_hasNode) rfl rfl rfl pd_F_hasNode ⟨Nat.le_of_ble_eq_true rfl, Nat.le_of_ble_eq_true rfl⟩) rfl rfl (by decide) d_F_toldName_2 ⟨Nat.le_of_ble_eq_true rfl, Nat.le_of_ble_eq_true rfl⟩ ?_
  refine gw_if_eq (tgt := 17) C d_F_toldName_5 (by decide) (fun c => ?_) (fun c => ?_)
  · have hf := (if_pos c).symm.trans hf
    refine gw_iconst (v := (-1)) C d_F_toldName_17 (by decide) ?_
    exact gw_ireti C d_F_toldName_18 (wc ad cI cZ cC) hf
  · have hf := (if_neg c).symm.trans hf
    refine gw_aload_n C 0 d_F_toldName_8 rfl rfl ?_
    refine gw_get C in_F 1 wcg_1 clg_0 4 (by decide) tw_96 rfl rfl d_F_toldName_9 ?_
    refine gw_iload_n C 1 d_F_toldName_12 rfl rfl ?_
    obtain ⟨hb13, hf⟩ := gd_some hf
    refine gw_iald C 5 0 wcg_5 rfl hb13 d_F_toldName_13 ?_
    refine gw_goto (tgt := 18) C d_F_toldName_14 (by decide) ?_
    exact gw_ireti C d_F_toldName_18 (wc ad cI cZ cC) hf
theorem c_F_toldName (hZ : gw_ZOK Z) {x1 : Int32} {M : Mem} {r : Int32} {M' : Mem} (hf : f_F_toldName x1 M = some (r, M')) : CW l y_F_toldName ws_F_toldName rm_F_toldName D vwCl (tysW cI cZ cC) Z [.ref (ad 1), .int x1] (wc ad cI cZ cC M) (some (.int r)) (wc ad cI cZ cC M') 0 0 :=
  CW.ofG hZ (by decide) rfl (Nat.le_of_ble_eq_true rfl) (fun _ _ _ _ _ _ _ _ C _ => g_F_toldName C hf)
abbrev b_F_toldSet : ByteArray := prog_2_method_10_code
def y_F_toldSet : MethodName := ⟨"NoneWords$Facts", "toldSet", "(I)I"⟩
abbrev ws_F_toldSet : List Cond := Cond.code y_F_toldSet b_F_toldSet 2 (some (FieldType.int)) :: TB
set_option maxRecDepth 100000 in
theorem tc_F_toldSet : Cond.code y_F_toldSet b_F_toldSet 2 (some (FieldType.int)) ∈ TB := inTB 553 rfl rfl
theorem mv_F_toldSet : Cond.instanceMethod y_F_toldSet ∈ TB ∧ Cond.selects "NoneWords$Facts" y_F_toldSet y_F_toldSet ∈ TB ∧ Cond.initialized "NoneWords$Facts" ∈ TB ∧ Cond.code y_F_toldSet b_F_toldSet 2 (some (FieldType.int)) ∈ TB := ⟨inTB 551 (by decide +kernel) (by decide +kernel), inTB 552 (by decide +kernel) (by decide +kernel), inTB 65 (by decide +kernel) (by decide +kernel), tc_F_toldSet⟩
theorem pd_F_toldSet : y_F_toldSet.cls = "NoneWords$Facts" ∧ y_F_toldSet.cls ≠ "java/lang/invoke/MethodHandle" ∧ y_F_toldSet.cls ≠ "java/lang/invoke/VarHandle" ∧ (parseMethodDescriptor y_F_toldSet.desc).map (fun d => d.parameters.length) = some 1 := by decide +kernel
theorem d_F_toldSet_0 : decode b_F_toldSet 0 = .ok (.aload_n 0, 1) := by decide +kernel
theorem d_F_toldSet_1 : decode b_F_toldSet 1 = .ok (.iload_n 1, 1) := by decide +kernel
theorem d_F_toldSet_2 : decode b_F_toldSet 2 = .ok (.invokevirtual 52, 3) := by decide +kernel
theorem d_F_toldSet_5 : decode b_F_toldSet 5 = .ok (.ifCond .eq 12, 3) := by decide +kernel
theorem d_F_toldSet_8 : decode b_F_toldSet 8 = .ok (.aload_n 0, 1) := by decide +kernel
theorem d_F_toldSet_9 : decode b_F_toldSet 9 = .ok (.getfield 28, 3) := by decide +kernel
theorem d_F_toldSet_12 : decode b_F_toldSet 12 = .ok (.iload_n 1, 1) := by decide +kernel
theorem d_F_toldSet_13 : decode b_F_toldSet 13 = .ok (.iaload, 1) := by decide +kernel
theorem d_F_toldSet_14 : decode b_F_toldSet 14 = .ok (.goto 4, 3) := by decide +kernel
theorem d_F_toldSet_17 : decode b_F_toldSet 17 = .ok (.iconst 0, 1) := by decide +kernel
theorem d_F_toldSet_18 : decode b_F_toldSet 18 = .ok (.ireturn, 1) := by decide +kernel
abbrev rm_F_toldSet : Room := { frames := 1, cells := 0, slots := 0, locals := 21 }
def f_F_toldSet (x1 : Int32) (M : Mem) : Option (Int32 × Mem) :=
  ob (f_F_hasNode x1 M) fun r2 M2 => if r2 = 0 then some (0, M2) else gd (inb x1 120) (some (M2 6 x1.toNatClampNeg, M2))
set_option maxRecDepth 100000 in
theorem g_F_toldSet {r : Int32} {M' : Mem} (C : GC p s m args meth c b_F_toldSet 2 (some (FieldType.int)) "NoneWords$Facts" TB D vwCl (tysW cI cZ cC) A Z) {x1 : Int32} {M : Mem} (hf : f_F_toldSet x1 M = some (r, M')) : GW p l e rm_F_toldSet s m args below meth c (MQ below (QW D vwCl (tysW cI cZ cC) A (some (.int r)) (wc ad cI cZ cC M')) args s 0 0 A) D vwCl A 2 0 0 (wc ad cI cZ cC M) 0 [(0, .ref (ad 1)), (1, .int x1)] [] := by
  unfold f_F_toldSet at hf
  refine gw_aload_n C 0 d_F_toldSet_0 rfl rfl ?_
  refine gw_iload_n C 1 d_F_toldSet_1 rfl rfl ?_
  obtain ⟨r2, M2, hc2, hf⟩ := ob_some hf
  refine gw_callVr (rest := []) C 1 wcg_1 clg_0 (c_F_hasNode C.2.2.2.2.2.2.2.2.2.2 hc2) (cwV 1 C.2.2.2.2.1 (gTB_V tw_285 mv_F_hasNode) rfl rfl rfl pd_F_hasNode ⟨Nat.le_of_ble_eq_true rfl, Nat.le_of_ble_eq_true rfl⟩) rfl rfl (by decide) d_F_toldSet_2 ⟨Nat.le_of_ble_eq_true rfl, Nat.le_of_ble_eq_true rfl⟩ ?_
  refine gw_if_eq (tgt := 17) C d_F_toldSet_5 (by decide) (fun c => ?_) (fun c => ?_)
  · have hf := (if_pos c).symm.trans hf
    refine gw_iconst (v := 0) C d_F_toldSet_17 (by decide) ?_
    exact gw_ireti C d_F_toldSet_18 (wc ad cI cZ cC) hf
  · have hf := (if_neg c).symm.trans hf
    refine gw_aload_n C 0 d_F_toldSet_8 rfl rfl ?_
    refine gw_get C in_F 1 wcg_1 clg_0 5 (by decide) tw_97 rfl rfl d_F_toldSet_9 ?_
    refine gw_iload_n C 1 d_F_toldSet_12 rfl rfl ?_
    obtain ⟨hb13, hf⟩ := gd_some hf
    refine gw_iald C 6 0 wcg_6 rfl hb13 d_F_toldSet_13 ?_
    refine gw_goto (tgt := 18) C d_F_toldSet_14 (by decide) ?_
    exact gw_ireti C d_F_toldSet_18 (wc ad cI cZ cC) hf
theorem c_F_toldSet (hZ : gw_ZOK Z) {x1 : Int32} {M : Mem} {r : Int32} {M' : Mem} (hf : f_F_toldSet x1 M = some (r, M')) : CW l y_F_toldSet ws_F_toldSet rm_F_toldSet D vwCl (tysW cI cZ cC) Z [.ref (ad 1), .int x1] (wc ad cI cZ cC M) (some (.int r)) (wc ad cI cZ cC M') 0 0 :=
  CW.ofG hZ (by decide) rfl (Nat.le_of_ble_eq_true rfl) (fun _ _ _ _ _ _ _ _ C _ => g_F_toldSet C hf)
abbrev b_F_toldOther : ByteArray := prog_2_method_11_code
def y_F_toldOther : MethodName := ⟨"NoneWords$Facts", "toldOther", "(I)I"⟩
abbrev ws_F_toldOther : List Cond := Cond.code y_F_toldOther b_F_toldOther 2 (some (FieldType.int)) :: TB
set_option maxRecDepth 100000 in
theorem tc_F_toldOther : Cond.code y_F_toldOther b_F_toldOther 2 (some (FieldType.int)) ∈ TB := inTB 563 rfl rfl
theorem mv_F_toldOther : Cond.instanceMethod y_F_toldOther ∈ TB ∧ Cond.selects "NoneWords$Facts" y_F_toldOther y_F_toldOther ∈ TB ∧ Cond.initialized "NoneWords$Facts" ∈ TB ∧ Cond.code y_F_toldOther b_F_toldOther 2 (some (FieldType.int)) ∈ TB := ⟨inTB 561 (by decide +kernel) (by decide +kernel), inTB 562 (by decide +kernel) (by decide +kernel), inTB 65 (by decide +kernel) (by decide +kernel), tc_F_toldOther⟩
theorem pd_F_toldOther : y_F_toldOther.cls = "NoneWords$Facts" ∧ y_F_toldOther.cls ≠ "java/lang/invoke/MethodHandle" ∧ y_F_toldOther.cls ≠ "java/lang/invoke/VarHandle" ∧ (parseMethodDescriptor y_F_toldOther.desc).map (fun d => d.parameters.length) = some 1 := by decide +kernel
theorem d_F_toldOther_0 : decode b_F_toldOther 0 = .ok (.aload_n 0, 1) := by decide +kernel
theorem d_F_toldOther_1 : decode b_F_toldOther 1 = .ok (.iload_n 1, 1) := by decide +kernel
theorem d_F_toldOther_2 : decode b_F_toldOther 2 = .ok (.invokevirtual 52, 3) := by decide +kernel
theorem d_F_toldOther_5 : decode b_F_toldOther 5 = .ok (.ifCond .eq 12, 3) := by decide +kernel
theorem d_F_toldOther_8 : decode b_F_toldOther 8 = .ok (.aload_n 0, 1) := by decide +kernel
theorem d_F_toldOther_9 : decode b_F_toldOther 9 = .ok (.getfield 31, 3) := by decide +kernel
theorem d_F_toldOther_12 : decode b_F_toldOther 12 = .ok (.iload_n 1, 1) := by decide +kernel
theorem d_F_toldOther_13 : decode b_F_toldOther 13 = .ok (.iaload, 1) := by decide +kernel
theorem d_F_toldOther_14 : decode b_F_toldOther 14 = .ok (.goto 4, 3) := by decide +kernel
theorem d_F_toldOther_17 : decode b_F_toldOther 17 = .ok (.iconst (-1), 1) := by decide +kernel
theorem d_F_toldOther_18 : decode b_F_toldOther 18 = .ok (.ireturn, 1) := by decide +kernel
abbrev rm_F_toldOther : Room := { frames := 1, cells := 0, slots := 0, locals := 21 }
def f_F_toldOther (x1 : Int32) (M : Mem) : Option (Int32 × Mem) :=
  ob (f_F_hasNode x1 M) fun r2 M2 => if r2 = 0 then some ((-1), M2) else gd (inb x1 120) (some (M2 7 x1.toNatClampNeg, M2))
set_option maxRecDepth 100000 in
theorem g_F_toldOther {r : Int32} {M' : Mem} (C : GC p s m args meth c b_F_toldOther 2 (some (FieldType.int)) "NoneWords$Facts" TB D vwCl (tysW cI cZ cC) A Z) {x1 : Int32} {M : Mem} (hf : f_F_toldOther x1 M = some (r, M')) : GW p l e rm_F_toldOther s m args below meth c (MQ below (QW D vwCl (tysW cI cZ cC) A (some (.int r)) (wc ad cI cZ cC M')) args s 0 0 A) D vwCl A 2 0 0 (wc ad cI cZ cC M) 0 [(0, .ref (ad 1)), (1, .int x1)] [] := by
  unfold f_F_toldOther at hf
  refine gw_aload_n C 0 d_F_toldOther_0 rfl rfl ?_
  refine gw_iload_n C 1 d_F_toldOther_1 rfl rfl ?_
  obtain ⟨r2, M2, hc2, hf⟩ := ob_some hf
  refine gw_callVr (rest := []) C 1 wcg_1 clg_0 (c_F_hasNode C.2.2.2.2.2.2.2.2.2.2 hc2) (cwV 1 C.2.2.2.2.1 (gTB_V tw_285 mv_F_hasNode) rfl rfl rfl pd_F_hasNode ⟨Nat.le_of_ble_eq_true rfl, Nat.le_of_ble_eq_true rfl⟩) rfl rfl (by decide) d_F_toldOther_2 ⟨Nat.le_of_ble_eq_true rfl, Nat.le_of_ble_eq_true rfl⟩ ?_
  refine gw_if_eq (tgt := 17) C d_F_toldOther_5 (by decide) (fun c => ?_) (fun c => ?_)
  · have hf := (if_pos c).symm.trans hf
    refine gw_iconst (v := (-1)) C d_F_toldOther_17 (by decide) ?_
    exact gw_ireti C d_F_toldOther_18 (wc ad cI cZ cC) hf
  · have hf := (if_neg c).symm.trans hf
    refine gw_aload_n C 0 d_F_toldOther_8 rfl rfl ?_
    refine gw_get C in_F 1 wcg_1 clg_0 6 (by decide) tw_98 rfl rfl d_F_toldOther_9 ?_
    refine gw_iload_n C 1 d_F_toldOther_12 rfl rfl ?_
    obtain ⟨hb13, hf⟩ := gd_some hf
    refine gw_iald C 7 0 wcg_7 rfl hb13 d_F_toldOther_13 ?_
    refine gw_goto (tgt := 18) C d_F_toldOther_14 (by decide) ?_
    exact gw_ireti C d_F_toldOther_18 (wc ad cI cZ cC) hf
theorem c_F_toldOther (hZ : gw_ZOK Z) {x1 : Int32} {M : Mem} {r : Int32} {M' : Mem} (hf : f_F_toldOther x1 M = some (r, M')) : CW l y_F_toldOther ws_F_toldOther rm_F_toldOther D vwCl (tysW cI cZ cC) Z [.ref (ad 1), .int x1] (wc ad cI cZ cC M) (some (.int r)) (wc ad cI cZ cC M') 0 0 :=
  CW.ofG hZ (by decide) rfl (Nat.le_of_ble_eq_true rfl) (fun _ _ _ _ _ _ _ _ C _ => g_F_toldOther C hf)
abbrev b_F_toldOtherSet : ByteArray := prog_2_method_12_code
def y_F_toldOtherSet : MethodName := ⟨"NoneWords$Facts", "toldOtherSet", "(I)I"⟩
abbrev ws_F_toldOtherSet : List Cond := Cond.code y_F_toldOtherSet b_F_toldOtherSet 2 (some (FieldType.int)) :: TB
set_option maxRecDepth 100000 in
theorem tc_F_toldOtherSet : Cond.code y_F_toldOtherSet b_F_toldOtherSet 2 (some (FieldType.int)) ∈ TB := inTB 567 rfl rfl
theorem mv_F_toldOtherSet : Cond.instanceMethod y_F_toldOtherSet ∈ TB ∧ Cond.selects "NoneWords$Facts" y_F_toldOtherSet y_F_toldOtherSet ∈ TB ∧ Cond.initialized "NoneWords$Facts" ∈ TB ∧ Cond.code y_F_toldOtherSet b_F_toldOtherSet 2 (some (FieldType.int)) ∈ TB := ⟨inTB 565 (by decide +kernel) (by decide +kernel), inTB 566 (by decide +kernel) (by decide +kernel), inTB 65 (by decide +kernel) (by decide +kernel), tc_F_toldOtherSet⟩
theorem pd_F_toldOtherSet : y_F_toldOtherSet.cls = "NoneWords$Facts" ∧ y_F_toldOtherSet.cls ≠ "java/lang/invoke/MethodHandle" ∧ y_F_toldOtherSet.cls ≠ "java/lang/invoke/VarHandle" ∧ (parseMethodDescriptor y_F_toldOtherSet.desc).map (fun d => d.parameters.length) = some 1 := by decide +kernel
theorem d_F_toldOtherSet_0 : decode b_F_toldOtherSet 0 = .ok (.aload_n 0, 1) := by decide +kernel
theorem d_F_toldOtherSet_1 : decode b_F_toldOtherSet 1 = .ok (.iload_n 1, 1) := by decide +kernel
theorem d_F_toldOtherSet_2 : decode b_F_toldOtherSet 2 = .ok (.invokevirtual 52, 3) := by decide +kernel
theorem d_F_toldOtherSet_5 : decode b_F_toldOtherSet 5 = .ok (.ifCond .eq 12, 3) := by decide +kernel
theorem d_F_toldOtherSet_8 : decode b_F_toldOtherSet 8 = .ok (.aload_n 0, 1) := by decide +kernel
theorem d_F_toldOtherSet_9 : decode b_F_toldOtherSet 9 = .ok (.getfield 34, 3) := by decide +kernel
theorem d_F_toldOtherSet_12 : decode b_F_toldOtherSet 12 = .ok (.iload_n 1, 1) := by decide +kernel
theorem d_F_toldOtherSet_13 : decode b_F_toldOtherSet 13 = .ok (.iaload, 1) := by decide +kernel
theorem d_F_toldOtherSet_14 : decode b_F_toldOtherSet 14 = .ok (.goto 4, 3) := by decide +kernel
theorem d_F_toldOtherSet_17 : decode b_F_toldOtherSet 17 = .ok (.iconst 0, 1) := by decide +kernel
theorem d_F_toldOtherSet_18 : decode b_F_toldOtherSet 18 = .ok (.ireturn, 1) := by decide +kernel
abbrev rm_F_toldOtherSet : Room := { frames := 1, cells := 0, slots := 0, locals := 21 }
def f_F_toldOtherSet (x1 : Int32) (M : Mem) : Option (Int32 × Mem) :=
  ob (f_F_hasNode x1 M) fun r2 M2 => if r2 = 0 then some (0, M2) else gd (inb x1 120) (some (M2 8 x1.toNatClampNeg, M2))
set_option maxRecDepth 100000 in
theorem g_F_toldOtherSet {r : Int32} {M' : Mem} (C : GC p s m args meth c b_F_toldOtherSet 2 (some (FieldType.int)) "NoneWords$Facts" TB D vwCl (tysW cI cZ cC) A Z) {x1 : Int32} {M : Mem} (hf : f_F_toldOtherSet x1 M = some (r, M')) : GW p l e rm_F_toldOtherSet s m args below meth c (MQ below (QW D vwCl (tysW cI cZ cC) A (some (.int r)) (wc ad cI cZ cC M')) args s 0 0 A) D vwCl A 2 0 0 (wc ad cI cZ cC M) 0 [(0, .ref (ad 1)), (1, .int x1)] [] := by
  unfold f_F_toldOtherSet at hf
  refine gw_aload_n C 0 d_F_toldOtherSet_0 rfl rfl ?_
  refine gw_iload_n C 1 d_F_toldOtherSet_1 rfl rfl ?_
  obtain ⟨r2, M2, hc2, hf⟩ := ob_some hf
  refine gw_callVr (rest := []) C 1 wcg_1 clg_0 (c_F_hasNode C.2.2.2.2.2.2.2.2.2.2 hc2) (cwV 1 C.2.2.2.2.1 (gTB_V tw_285 mv_F_hasNode) rfl rfl rfl pd_F_hasNode ⟨Nat.le_of_ble_eq_true rfl, Nat.le_of_ble_eq_true rfl⟩) rfl rfl (by decide) d_F_toldOtherSet_2 ⟨Nat.le_of_ble_eq_true rfl, Nat.le_of_ble_eq_true rfl⟩ ?_
  refine gw_if_eq (tgt := 17) C d_F_toldOtherSet_5 (by decide) (fun c => ?_) (fun c => ?_)
  · have hf := (if_pos c).symm.trans hf
    refine gw_iconst (v := 0) C d_F_toldOtherSet_17 (by decide) ?_
    exact gw_ireti C d_F_toldOtherSet_18 (wc ad cI cZ cC) hf
  · have hf := (if_neg c).symm.trans hf
    refine gw_aload_n C 0 d_F_toldOtherSet_8 rfl rfl ?_
    refine gw_get C in_F 1 wcg_1 clg_0 7 (by decide) tw_99 rfl rfl d_F_toldOtherSet_9 ?_
    refine gw_iload_n C 1 d_F_toldOtherSet_12 rfl rfl ?_
    obtain ⟨hb13, hf⟩ := gd_some hf
    refine gw_iald C 8 0 wcg_8 rfl hb13 d_F_toldOtherSet_13 ?_
    refine gw_goto (tgt := 18) C d_F_toldOtherSet_14 (by decide) ?_
    exact gw_ireti C d_F_toldOtherSet_18 (wc ad cI cZ cC) hf
theorem c_F_toldOtherSet (hZ : gw_ZOK Z) {x1 : Int32} {M : Mem} {r : Int32} {M' : Mem} (hf : f_F_toldOtherSet x1 M = some (r, M')) : CW l y_F_toldOtherSet ws_F_toldOtherSet rm_F_toldOtherSet D vwCl (tysW cI cZ cC) Z [.ref (ad 1), .int x1] (wc ad cI cZ cC M) (some (.int r)) (wc ad cI cZ cC M') 0 0 :=
  CW.ofG hZ (by decide) rfl (Nat.le_of_ble_eq_true rfl) (fun _ _ _ _ _ _ _ _ C _ => g_F_toldOtherSet C hf)
abbrev b_F_leftPart : ByteArray := prog_2_method_13_code
def y_F_leftPart : MethodName := ⟨"NoneWords$Facts", "leftPart", "(I)I"⟩
abbrev ws_F_leftPart : List Cond := Cond.code y_F_leftPart b_F_leftPart 2 (some (FieldType.int)) :: TB
set_option maxRecDepth 100000 in
theorem tc_F_leftPart : Cond.code y_F_leftPart b_F_leftPart 2 (some (FieldType.int)) ∈ TB := inTB 339 rfl rfl
theorem mv_F_leftPart : Cond.instanceMethod y_F_leftPart ∈ TB ∧ Cond.selects "NoneWords$Facts" y_F_leftPart y_F_leftPart ∈ TB ∧ Cond.initialized "NoneWords$Facts" ∈ TB ∧ Cond.code y_F_leftPart b_F_leftPart 2 (some (FieldType.int)) ∈ TB := ⟨inTB 337 (by decide +kernel) (by decide +kernel), inTB 338 (by decide +kernel) (by decide +kernel), inTB 65 (by decide +kernel) (by decide +kernel), tc_F_leftPart⟩
theorem pd_F_leftPart : y_F_leftPart.cls = "NoneWords$Facts" ∧ y_F_leftPart.cls ≠ "java/lang/invoke/MethodHandle" ∧ y_F_leftPart.cls ≠ "java/lang/invoke/VarHandle" ∧ (parseMethodDescriptor y_F_leftPart.desc).map (fun d => d.parameters.length) = some 1 := by decide +kernel
theorem d_F_leftPart_0 : decode b_F_leftPart 0 = .ok (.aload_n 0, 1) := by decide +kernel
theorem d_F_leftPart_1 : decode b_F_leftPart 1 = .ok (.iload_n 1, 1) := by decide +kernel
theorem d_F_leftPart_2 : decode b_F_leftPart 2 = .ok (.invokevirtual 52, 3) := by decide +kernel
theorem d_F_leftPart_5 : decode b_F_leftPart 5 = .ok (.ifCond .eq 12, 3) := by decide +kernel
theorem d_F_leftPart_8 : decode b_F_leftPart 8 = .ok (.aload_n 0, 1) := by decide +kernel
theorem d_F_leftPart_9 : decode b_F_leftPart 9 = .ok (.getfield 37, 3) := by decide +kernel
theorem d_F_leftPart_12 : decode b_F_leftPart 12 = .ok (.iload_n 1, 1) := by decide +kernel
theorem d_F_leftPart_13 : decode b_F_leftPart 13 = .ok (.iaload, 1) := by decide +kernel
theorem d_F_leftPart_14 : decode b_F_leftPart 14 = .ok (.goto 4, 3) := by decide +kernel
theorem d_F_leftPart_17 : decode b_F_leftPart 17 = .ok (.iconst (-1), 1) := by decide +kernel
theorem d_F_leftPart_18 : decode b_F_leftPart 18 = .ok (.ireturn, 1) := by decide +kernel
abbrev rm_F_leftPart : Room := { frames := 1, cells := 0, slots := 0, locals := 21 }
def f_F_leftPart (x1 : Int32) (M : Mem) : Option (Int32 × Mem) :=
  ob (f_F_hasNode x1 M) fun r2 M2 => if r2 = 0 then some ((-1), M2) else gd (inb x1 120) (some (M2 9 x1.toNatClampNeg, M2))
set_option maxRecDepth 100000 in
theorem g_F_leftPart {r : Int32} {M' : Mem} (C : GC p s m args meth c b_F_leftPart 2 (some (FieldType.int)) "NoneWords$Facts" TB D vwCl (tysW cI cZ cC) A Z) {x1 : Int32} {M : Mem} (hf : f_F_leftPart x1 M = some (r, M')) : GW p l e rm_F_leftPart s m args below meth c (MQ below (QW D vwCl (tysW cI cZ cC) A (some (.int r)) (wc ad cI cZ cC M')) args s 0 0 A) D vwCl A 2 0 0 (wc ad cI cZ cC M) 0 [(0, .ref (ad 1)), (1, .int x1)] [] := by
  unfold f_F_leftPart at hf
  refine gw_aload_n C 0 d_F_leftPart_0 rfl rfl ?_
  refine gw_iload_n C 1 d_F_leftPart_1 rfl rfl ?_
  obtain ⟨r2, M2, hc2, hf⟩ := ob_some hf
  refine gw_callVr (rest := []) C 1 wcg_1 clg_0 (c_F_hasNode C.2.2.2.2.2.2.2.2.2.2 hc2) (cwV 1 C.2.2.2.2.1 (gTB_V tw_285 mv_F_hasNode) rfl rfl rfl pd_F_hasNode ⟨Nat.le_of_ble_eq_true rfl, Nat.le_of_ble_eq_true rfl⟩) rfl rfl (by decide) d_F_leftPart_2 ⟨Nat.le_of_ble_eq_true rfl, Nat.le_of_ble_eq_true rfl⟩ ?_
  refine gw_if_eq (tgt := 17) C d_F_leftPart_5 (by decide) (fun c => ?_) (fun c => ?_)
  · have hf := (if_pos c).symm.trans hf
    refine gw_iconst (v := (-1)) C d_F_leftPart_17 (by decide) ?_
    exact gw_ireti C d_F_leftPart_18 (wc ad cI cZ cC) hf
  · have hf := (if_neg c).symm.trans hf
    refine gw_aload_n C 0 d_F_leftPart_8 rfl rfl ?_
    refine gw_get C in_F 1 wcg_1 clg_0 8 (by decide) tw_100 rfl rfl d_F_leftPart_9 ?_
    refine gw_iload_n C 1 d_F_leftPart_12 rfl rfl ?_
    obtain ⟨hb13, hf⟩ := gd_some hf
    refine gw_iald C 9 0 wcg_9 rfl hb13 d_F_leftPart_13 ?_
    refine gw_goto (tgt := 18) C d_F_leftPart_14 (by decide) ?_
    exact gw_ireti C d_F_leftPart_18 (wc ad cI cZ cC) hf
theorem c_F_leftPart (hZ : gw_ZOK Z) {x1 : Int32} {M : Mem} {r : Int32} {M' : Mem} (hf : f_F_leftPart x1 M = some (r, M')) : CW l y_F_leftPart ws_F_leftPart rm_F_leftPart D vwCl (tysW cI cZ cC) Z [.ref (ad 1), .int x1] (wc ad cI cZ cC M) (some (.int r)) (wc ad cI cZ cC M') 0 0 :=
  CW.ofG hZ (by decide) rfl (Nat.le_of_ble_eq_true rfl) (fun _ _ _ _ _ _ _ _ C _ => g_F_leftPart C hf)
end FACTS
