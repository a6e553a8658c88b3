abbrev tysW (cI cZ cC : ClassId) : List (ClassId × FieldType) := [(cI, .int), (cZ, .boolean), (cC, .char)]
def wc (ad : Nat → Nat) (cI cZ cC : ClassId) (M : Mem) : va_W := [(ad 0, .inr (4, [.ref (ad 1), .ref (ad 11), .ref (ad 23), .ref (ad 25)])),
  (ad 1, .inr (0, [.ref (ad 2), .int (M 1 1), .ref (ad 3), .ref (ad 4), .ref (ad 5), .ref (ad 6), .ref (ad 7), .ref (ad 8), .ref (ad 9), .ref (ad 10), .int (M 1 10)])),
  (ad 2, .inl (cI, 5, .inl (M 2))),
  (ad 3, .inl (cI, 120, .inl (M 3))),
  (ad 4, .inl (cI, 120, .inl (M 4))),
  (ad 5, .inl (cI, 120, .inl (M 5))),
  (ad 6, .inl (cI, 120, .inl (M 6))),
  (ad 7, .inl (cI, 120, .inl (M 7))),
  (ad 8, .inl (cI, 120, .inl (M 8))),
  (ad 9, .inl (cI, 120, .inl (M 9))),
  (ad 10, .inl (cI, 120, .inl (M 10))),
  (ad 11, .inr (3, [.ref (ad 1), .ref (ad 12), .ref (ad 13), .int (M 11 3), .ref (ad 14), .ref (ad 15), .ref (ad 16), .ref (ad 17), .ref (ad 18), .int (M 11 9), .ref (ad 19), .ref (ad 20), .ref (ad 21), .ref (ad 22), .int (M 11 14)])),
  (ad 12, .inl (cI, 120, .inl (M 12))),
  (ad 13, .inl (cI, 120, .inl (M 13))),
  (ad 14, .inl (cI, 120, .inl (M 14))),
  (ad 15, .inl (cI, 120, .inl (M 15))),
  (ad 16, .inl (cI, 120, .inl (M 16))),
  (ad 17, .inl (cI, 120, .inl (M 17))),
  (ad 18, .inl (cI, 120, .inl (M 18))),
  (ad 19, .inl (cI, 121, .inl (M 19))),
  (ad 20, .inl (cI, 121, .inl (M 20))),
  (ad 21, .inl (cI, 121, .inl (M 21))),
  (ad 22, .inl (cI, 121, .inl (M 22))),
  (ad 23, .inr (2, [.ref (ad 1), .ref (ad 11), .ref (ad 24), .int (M 23 3), .int (M 23 4)])),
  (ad 24, .inl (cC, 256, .inl (M 24))),
  (ad 25, .inr (1, [.ref (ad 1), .ref (ad 26), .ref (ad 27), .ref (ad 28), .int (M 25 4)])),
  (ad 26, .inl (cZ, 120, .inl (M 26))),
  (ad 27, .inl (cI, 25, .inl (M 27))),
  (ad 28, .inl (cI, 120, .inl (M 28)))]
theorem wcg_0 {ad : Nat → Nat} {cI cZ cC : ClassId} {M : Mem} : (wc ad cI cZ cC M)[0]? = some (ad 0, .inr (4, [.ref (ad 1), .ref (ad 11), .ref (ad 23), .ref (ad 25)])) := rfl
theorem wcg_1 {ad : Nat → Nat} {cI cZ cC : ClassId} {M : Mem} : (wc ad cI cZ cC M)[1]? = some (ad 1, .inr (0, [.ref (ad 2), .int (M 1 1), .ref (ad 3), .ref (ad 4), .ref (ad 5), .ref (ad 6), .ref (ad 7), .ref (ad 8), .ref (ad 9), .ref (ad 10), .int (M 1 10)])) := rfl
theorem wcf_1_1 {ad : Nat → Nat} {cI cZ cC : ClassId} {M : Mem} {x : Int32} : (wc ad cI cZ cC M).set 1 (ad 1, .inr (0, ([.ref (ad 2), .int (M 1 1), .ref (ad 3), .ref (ad 4), .ref (ad 5), .ref (ad 6), .ref (ad 7), .ref (ad 8), .ref (ad 9), .ref (ad 10), .int (M 1 10)] : List Value).set 1 (.int x))) = wc ad cI cZ cC (ms M 1 1 x) := rfl
theorem wcf_1_10 {ad : Nat → Nat} {cI cZ cC : ClassId} {M : Mem} {x : Int32} : (wc ad cI cZ cC M).set 1 (ad 1, .inr (0, ([.ref (ad 2), .int (M 1 1), .ref (ad 3), .ref (ad 4), .ref (ad 5), .ref (ad 6), .ref (ad 7), .ref (ad 8), .ref (ad 9), .ref (ad 10), .int (M 1 10)] : List Value).set 10 (.int x))) = wc ad cI cZ cC (ms M 1 10 x) := rfl
theorem wcg_2 {ad : Nat → Nat} {cI cZ cC : ClassId} {M : Mem} : (wc ad cI cZ cC M)[2]? = some (ad 2, .inl (cI, 5, .inl (M 2))) := rfl
theorem wca_2 {ad : Nat → Nat} {cI cZ cC : ClassId} {M : Mem} {i : Nat} {x : Int32} : (wc ad cI cZ cC M).set 2 (ad 2, .inl (cI, 5, .inl (upd (M 2) i x))) = wc ad cI cZ cC (ms M 2 i x) := rfl
theorem wcz_2 {ad : Nat → Nat} {cI cZ cC : ClassId} {M : Mem} {x : Int32} : (wc ad cI cZ cC M).set 2 (ad 2, .inl (cI, 5, .inl (fun j => if j < 5 then x else M 2 j))) = wc ad cI cZ cC (mf M 2 5 x) := rfl
theorem wcg_3 {ad : Nat → Nat} {cI cZ cC : ClassId} {M : Mem} : (wc ad cI cZ cC M)[3]? = some (ad 3, .inl (cI, 120, .inl (M 3))) := rfl
theorem wca_3 {ad : Nat → Nat} {cI cZ cC : ClassId} {M : Mem} {i : Nat} {x : Int32} : (wc ad cI cZ cC M).set 3 (ad 3, .inl (cI, 120, .inl (upd (M 3) i x))) = wc ad cI cZ cC (ms M 3 i x) := rfl
theorem wcz_3 {ad : Nat → Nat} {cI cZ cC : ClassId} {M : Mem} {x : Int32} : (wc ad cI cZ cC M).set 3 (ad 3, .inl (cI, 120, .inl (fun j => if j < 120 then x else M 3 j))) = wc ad cI cZ cC (mf M 3 120 x) := rfl
theorem wcg_4 {ad : Nat → Nat} {cI cZ cC : ClassId} {M : Mem} : (wc ad cI cZ cC M)[4]? = some (ad 4, .inl (cI, 120, .inl (M 4))) := rfl
theorem wca_4 {ad : Nat → Nat} {cI cZ cC : ClassId} {M : Mem} {i : Nat} {x : Int32} : (wc ad cI cZ cC M).set 4 (ad 4, .inl (cI, 120, .inl (upd (M 4) i x))) = wc ad cI cZ cC (ms M 4 i x) := rfl
theorem wcz_4 {ad : Nat → Nat} {cI cZ cC : ClassId} {M : Mem} {x : Int32} : (wc ad cI cZ cC M).set 4 (ad 4, .inl (cI, 120, .inl (fun j => if j < 120 then x else M 4 j))) = wc ad cI cZ cC (mf M 4 120 x) := rfl
theorem wcg_5 {ad : Nat → Nat} {cI cZ cC : ClassId} {M : Mem} : (wc ad cI cZ cC M)[5]? = some (ad 5, .inl (cI, 120, .inl (M 5))) := rfl
theorem wca_5 {ad : Nat → Nat} {cI cZ cC : ClassId} {M : Mem} {i : Nat} {x : Int32} : (wc ad cI cZ cC M).set 5 (ad 5, .inl (cI, 120, .inl (upd (M 5) i x))) = wc ad cI cZ cC (ms M 5 i x) := rfl
theorem wcz_5 {ad : Nat → Nat} {cI cZ cC : ClassId} {M : Mem} {x : Int32} : (wc ad cI cZ cC M).set 5 (ad 5, .inl (cI, 120, .inl (fun j => if j < 120 then x else M 5 j))) = wc ad cI cZ cC (mf M 5 120 x) := rfl
theorem wcg_6 {ad : Nat → Nat} {cI cZ cC : ClassId} {M : Mem} : (wc ad cI cZ cC M)[6]? = some (ad 6, .inl (cI, 120, .inl (M 6))) := rfl
theorem wca_6 {ad : Nat → Nat} {cI cZ cC : ClassId} {M : Mem} {i : Nat} {x : Int32} : (wc ad cI cZ cC M).set 6 (ad 6, .inl (cI, 120, .inl (upd (M 6) i x))) = wc ad cI cZ cC (ms M 6 i x) := rfl
theorem wcz_6 {ad : Nat → Nat} {cI cZ cC : ClassId} {M : Mem} {x : Int32} : (wc ad cI cZ cC M).set 6 (ad 6, .inl (cI, 120, .inl (fun j => if j < 120 then x else M 6 j))) = wc ad cI cZ cC (mf M 6 120 x) := rfl
theorem wcg_7 {ad : Nat → Nat} {cI cZ cC : ClassId} {M : Mem} : (wc ad cI cZ cC M)[7]? = some (ad 7, .inl (cI, 120, .inl (M 7))) := rfl
theorem wca_7 {ad : Nat → Nat} {cI cZ cC : ClassId} {M : Mem} {i : Nat} {x : Int32} : (wc ad cI cZ cC M).set 7 (ad 7, .inl (cI, 120, .inl (upd (M 7) i x))) = wc ad cI cZ cC (ms M 7 i x) := rfl
theorem wcz_7 {ad : Nat → Nat} {cI cZ cC : ClassId} {M : Mem} {x : Int32} : (wc ad cI cZ cC M).set 7 (ad 7, .inl (cI, 120, .inl (fun j => if j < 120 then x else M 7 j))) = wc ad cI cZ cC (mf M 7 120 x) := rfl
theorem wcg_8 {ad : Nat → Nat} {cI cZ cC : ClassId} {M : Mem} : (wc ad cI cZ cC M)[8]? = some (ad 8, .inl (cI, 120, .inl (M 8))) := rfl
theorem wca_8 {ad : Nat → Nat} {cI cZ cC : ClassId} {M : Mem} {i : Nat} {x : Int32} : (wc ad cI cZ cC M).set 8 (ad 8, .inl (cI, 120, .inl (upd (M 8) i x))) = wc ad cI cZ cC (ms M 8 i x) := rfl
theorem wcz_8 {ad : Nat → Nat} {cI cZ cC : ClassId} {M : Mem} {x : Int32} : (wc ad cI cZ cC M).set 8 (ad 8, .inl (cI, 120, .inl (fun j => if j < 120 then x else M 8 j))) = wc ad cI cZ cC (mf M 8 120 x) := rfl
theorem wcg_9 {ad : Nat → Nat} {cI cZ cC : ClassId} {M : Mem} : (wc ad cI cZ cC M)[9]? = some (ad 9, .inl (cI, 120, .inl (M 9))) := rfl
theorem wca_9 {ad : Nat → Nat} {cI cZ cC : ClassId} {M : Mem} {i : Nat} {x : Int32} : (wc ad cI cZ cC M).set 9 (ad 9, .inl (cI, 120, .inl (upd (M 9) i x))) = wc ad cI cZ cC (ms M 9 i x) := rfl
theorem wcz_9 {ad : Nat → Nat} {cI cZ cC : ClassId} {M : Mem} {x : Int32} : (wc ad cI cZ cC M).set 9 (ad 9, .inl (cI, 120, .inl (fun j => if j < 120 then x else M 9 j))) = wc ad cI cZ cC (mf M 9 120 x) := rfl
theorem wcg_10 {ad : Nat → Nat} {cI cZ cC : ClassId} {M : Mem} : (wc ad cI cZ cC M)[10]? = some (ad 10, .inl (cI, 120, .inl (M 10))) := rfl
theorem wca_10 {ad : Nat → Nat} {cI cZ cC : ClassId} {M : Mem} {i : Nat} {x : Int32} : (wc ad cI cZ cC M).set 10 (ad 10, .inl (cI, 120, .inl (upd (M 10) i x))) = wc ad cI cZ cC (ms M 10 i x) := rfl
theorem wcz_10 {ad : Nat → Nat} {cI cZ cC : ClassId} {M : Mem} {x : Int32} : (wc ad cI cZ cC M).set 10 (ad 10, .inl (cI, 120, .inl (fun j => if j < 120 then x else M 10 j))) = wc ad cI cZ cC (mf M 10 120 x) := rfl
theorem wcg_11 {ad : Nat → Nat} {cI cZ cC : ClassId} {M : Mem} : (wc ad cI cZ cC M)[11]? = some (ad 11, .inr (3, [.ref (ad 1), .ref (ad 12), .ref (ad 13), .int (M 11 3), .ref (ad 14), .ref (ad 15), .ref (ad 16), .ref (ad 17), .ref (ad 18), .int (M 11 9), .ref (ad 19), .ref (ad 20), .ref (ad 21), .ref (ad 22), .int (M 11 14)])) := rfl
theorem wcf_11_3 {ad : Nat → Nat} {cI cZ cC : ClassId} {M : Mem} {x : Int32} : (wc ad cI cZ cC M).set 11 (ad 11, .inr (3, ([.ref (ad 1), .ref (ad 12), .ref (ad 13), .int (M 11 3), .ref (ad 14), .ref (ad 15), .ref (ad 16), .ref (ad 17), .ref (ad 18), .int (M 11 9), .ref (ad 19), .ref (ad 20), .ref (ad 21), .ref (ad 22), .int (M 11 14)] : List Value).set 3 (.int x))) = wc ad cI cZ cC (ms M 11 3 x) := rfl
theorem wcf_11_9 {ad : Nat → Nat} {cI cZ cC : ClassId} {M : Mem} {x : Int32} : (wc ad cI cZ cC M).set 11 (ad 11, .inr (3, ([.ref (ad 1), .ref (ad 12), .ref (ad 13), .int (M 11 3), .ref (ad 14), .ref (ad 15), .ref (ad 16), .ref (ad 17), .ref (ad 18), .int (M 11 9), .ref (ad 19), .ref (ad 20), .ref (ad 21), .ref (ad 22), .int (M 11 14)] : List Value).set 9 (.int x))) = wc ad cI cZ cC (ms M 11 9 x) := rfl
theorem wcf_11_14 {ad : Nat → Nat} {cI cZ cC : ClassId} {M : Mem} {x : Int32} : (wc ad cI cZ cC M).set 11 (ad 11, .inr (3, ([.ref (ad 1), .ref (ad 12), .ref (ad 13), .int (M 11 3), .ref (ad 14), .ref (ad 15), .ref (ad 16), .ref (ad 17), .ref (ad 18), .int (M 11 9), .ref (ad 19), .ref (ad 20), .ref (ad 21), .ref (ad 22), .int (M 11 14)] : List Value).set 14 (.int x))) = wc ad cI cZ cC (ms M 11 14 x) := rfl
theorem wcg_12 {ad : Nat → Nat} {cI cZ cC : ClassId} {M : Mem} : (wc ad cI cZ cC M)[12]? = some (ad 12, .inl (cI, 120, .inl (M 12))) := rfl
theorem wca_12 {ad : Nat → Nat} {cI cZ cC : ClassId} {M : Mem} {i : Nat} {x : Int32} : (wc ad cI cZ cC M).set 12 (ad 12, .inl (cI, 120, .inl (upd (M 12) i x))) = wc ad cI cZ cC (ms M 12 i x) := rfl
theorem wcz_12 {ad : Nat → Nat} {cI cZ cC : ClassId} {M : Mem} {x : Int32} : (wc ad cI cZ cC M).set 12 (ad 12, .inl (cI, 120, .inl (fun j => if j < 120 then x else M 12 j))) = wc ad cI cZ cC (mf M 12 120 x) := rfl
theorem wcg_13 {ad : Nat → Nat} {cI cZ cC : ClassId} {M : Mem} : (wc ad cI cZ cC M)[13]? = some (ad 13, .inl (cI, 120, .inl (M 13))) := rfl
theorem wca_13 {ad : Nat → Nat} {cI cZ cC : ClassId} {M : Mem} {i : Nat} {x : Int32} : (wc ad cI cZ cC M).set 13 (ad 13, .inl (cI, 120, .inl (upd (M 13) i x))) = wc ad cI cZ cC (ms M 13 i x) := rfl
theorem wcz_13 {ad : Nat → Nat} {cI cZ cC : ClassId} {M : Mem} {x : Int32} : (wc ad cI cZ cC M).set 13 (ad 13, .inl (cI, 120, .inl (fun j => if j < 120 then x else M 13 j))) = wc ad cI cZ cC (mf M 13 120 x) := rfl
theorem wcg_14 {ad : Nat → Nat} {cI cZ cC : ClassId} {M : Mem} : (wc ad cI cZ cC M)[14]? = some (ad 14, .inl (cI, 120, .inl (M 14))) := rfl
theorem wca_14 {ad : Nat → Nat} {cI cZ cC : ClassId} {M : Mem} {i : Nat} {x : Int32} : (wc ad cI cZ cC M).set 14 (ad 14, .inl (cI, 120, .inl (upd (M 14) i x))) = wc ad cI cZ cC (ms M 14 i x) := rfl
theorem wcz_14 {ad : Nat → Nat} {cI cZ cC : ClassId} {M : Mem} {x : Int32} : (wc ad cI cZ cC M).set 14 (ad 14, .inl (cI, 120, .inl (fun j => if j < 120 then x else M 14 j))) = wc ad cI cZ cC (mf M 14 120 x) := rfl
theorem wcg_15 {ad : Nat → Nat} {cI cZ cC : ClassId} {M : Mem} : (wc ad cI cZ cC M)[15]? = some (ad 15, .inl (cI, 120, .inl (M 15))) := rfl
theorem wca_15 {ad : Nat → Nat} {cI cZ cC : ClassId} {M : Mem} {i : Nat} {x : Int32} : (wc ad cI cZ cC M).set 15 (ad 15, .inl (cI, 120, .inl (upd (M 15) i x))) = wc ad cI cZ cC (ms M 15 i x) := rfl
theorem wcz_15 {ad : Nat → Nat} {cI cZ cC : ClassId} {M : Mem} {x : Int32} : (wc ad cI cZ cC M).set 15 (ad 15, .inl (cI, 120, .inl (fun j => if j < 120 then x else M 15 j))) = wc ad cI cZ cC (mf M 15 120 x) := rfl
theorem wcg_16 {ad : Nat → Nat} {cI cZ cC : ClassId} {M : Mem} : (wc ad cI cZ cC M)[16]? = some (ad 16, .inl (cI, 120, .inl (M 16))) := rfl
theorem wca_16 {ad : Nat → Nat} {cI cZ cC : ClassId} {M : Mem} {i : Nat} {x : Int32} : (wc ad cI cZ cC M).set 16 (ad 16, .inl (cI, 120, .inl (upd (M 16) i x))) = wc ad cI cZ cC (ms M 16 i x) := rfl
theorem wcz_16 {ad : Nat → Nat} {cI cZ cC : ClassId} {M : Mem} {x : Int32} : (wc ad cI cZ cC M).set 16 (ad 16, .inl (cI, 120, .inl (fun j => if j < 120 then x else M 16 j))) = wc ad cI cZ cC (mf M 16 120 x) := rfl
theorem wcg_17 {ad : Nat → Nat} {cI cZ cC : ClassId} {M : Mem} : (wc ad cI cZ cC M)[17]? = some (ad 17, .inl (cI, 120, .inl (M 17))) := rfl
theorem wca_17 {ad : Nat → Nat} {cI cZ cC : ClassId} {M : Mem} {i : Nat} {x : Int32} : (wc ad cI cZ cC M).set 17 (ad 17, .inl (cI, 120, .inl (upd (M 17) i x))) = wc ad cI cZ cC (ms M 17 i x) := rfl
theorem wcz_17 {ad : Nat → Nat} {cI cZ cC : ClassId} {M : Mem} {x : Int32} : (wc ad cI cZ cC M).set 17 (ad 17, .inl (cI, 120, .inl (fun j => if j < 120 then x else M 17 j))) = wc ad cI cZ cC (mf M 17 120 x) := rfl
theorem wcg_18 {ad : Nat → Nat} {cI cZ cC : ClassId} {M : Mem} : (wc ad cI cZ cC M)[18]? = some (ad 18, .inl (cI, 120, .inl (M 18))) := rfl
theorem wca_18 {ad : Nat → Nat} {cI cZ cC : ClassId} {M : Mem} {i : Nat} {x : Int32} : (wc ad cI cZ cC M).set 18 (ad 18, .inl (cI, 120, .inl (upd (M 18) i x))) = wc ad cI cZ cC (ms M 18 i x) := rfl
theorem wcz_18 {ad : Nat → Nat} {cI cZ cC : ClassId} {M : Mem} {x : Int32} : (wc ad cI cZ cC M).set 18 (ad 18, .inl (cI, 120, .inl (fun j => if j < 120 then x else M 18 j))) = wc ad cI cZ cC (mf M 18 120 x) := rfl
theorem wcg_19 {ad : Nat → Nat} {cI cZ cC : ClassId} {M : Mem} : (wc ad cI cZ cC M)[19]? = some (ad 19, .inl (cI, 121, .inl (M 19))) := rfl
theorem wca_19 {ad : Nat → Nat} {cI cZ cC : ClassId} {M : Mem} {i : Nat} {x : Int32} : (wc ad cI cZ cC M).set 19 (ad 19, .inl (cI, 121, .inl (upd (M 19) i x))) = wc ad cI cZ cC (ms M 19 i x) := rfl
theorem wcz_19 {ad : Nat → Nat} {cI cZ cC : ClassId} {M : Mem} {x : Int32} : (wc ad cI cZ cC M).set 19 (ad 19, .inl (cI, 121, .inl (fun j => if j < 121 then x else M 19 j))) = wc ad cI cZ cC (mf M 19 121 x) := rfl
theorem wcg_20 {ad : Nat → Nat} {cI cZ cC : ClassId} {M : Mem} : (wc ad cI cZ cC M)[20]? = some (ad 20, .inl (cI, 121, .inl (M 20))) := rfl
theorem wca_20 {ad : Nat → Nat} {cI cZ cC : ClassId} {M : Mem} {i : Nat} {x : Int32} : (wc ad cI cZ cC M).set 20 (ad 20, .inl (cI, 121, .inl (upd (M 20) i x))) = wc ad cI cZ cC (ms M 20 i x) := rfl
theorem wcz_20 {ad : Nat → Nat} {cI cZ cC : ClassId} {M : Mem} {x : Int32} : (wc ad cI cZ cC M).set 20 (ad 20, .inl (cI, 121, .inl (fun j => if j < 121 then x else M 20 j))) = wc ad cI cZ cC (mf M 20 121 x) := rfl
theorem wcg_21 {ad : Nat → Nat} {cI cZ cC : ClassId} {M : Mem} : (wc ad cI cZ cC M)[21]? = some (ad 21, .inl (cI, 121, .inl (M 21))) := rfl
theorem wca_21 {ad : Nat → Nat} {cI cZ cC : ClassId} {M : Mem} {i : Nat} {x : Int32} : (wc ad cI cZ cC M).set 21 (ad 21, .inl (cI, 121, .inl (upd (M 21) i x))) = wc ad cI cZ cC (ms M 21 i x) := rfl
theorem wcz_21 {ad : Nat → Nat} {cI cZ cC : ClassId} {M : Mem} {x : Int32} : (wc ad cI cZ cC M).set 21 (ad 21, .inl (cI, 121, .inl (fun j => if j < 121 then x else M 21 j))) = wc ad cI cZ cC (mf M 21 121 x) := rfl
theorem wcg_22 {ad : Nat → Nat} {cI cZ cC : ClassId} {M : Mem} : (wc ad cI cZ cC M)[22]? = some (ad 22, .inl (cI, 121, .inl (M 22))) := rfl
theorem wca_22 {ad : Nat → Nat} {cI cZ cC : ClassId} {M : Mem} {i : Nat} {x : Int32} : (wc ad cI cZ cC M).set 22 (ad 22, .inl (cI, 121, .inl (upd (M 22) i x))) = wc ad cI cZ cC (ms M 22 i x) := rfl
theorem wcz_22 {ad : Nat → Nat} {cI cZ cC : ClassId} {M : Mem} {x : Int32} : (wc ad cI cZ cC M).set 22 (ad 22, .inl (cI, 121, .inl (fun j => if j < 121 then x else M 22 j))) = wc ad cI cZ cC (mf M 22 121 x) := rfl
theorem wcg_23 {ad : Nat → Nat} {cI cZ cC : ClassId} {M : Mem} : (wc ad cI cZ cC M)[23]? = some (ad 23, .inr (2, [.ref (ad 1), .ref (ad 11), .ref (ad 24), .int (M 23 3), .int (M 23 4)])) := rfl
theorem wcf_23_3 {ad : Nat → Nat} {cI cZ cC : ClassId} {M : Mem} {x : Int32} : (wc ad cI cZ cC M).set 23 (ad 23, .inr (2, ([.ref (ad 1), .ref (ad 11), .ref (ad 24), .int (M 23 3), .int (M 23 4)] : List Value).set 3 (.int x))) = wc ad cI cZ cC (ms M 23 3 x) := rfl
theorem wcf_23_4 {ad : Nat → Nat} {cI cZ cC : ClassId} {M : Mem} {x : Int32} : (wc ad cI cZ cC M).set 23 (ad 23, .inr (2, ([.ref (ad 1), .ref (ad 11), .ref (ad 24), .int (M 23 3), .int (M 23 4)] : List Value).set 4 (.int x))) = wc ad cI cZ cC (ms M 23 4 x) := rfl
theorem wcg_24 {ad : Nat → Nat} {cI cZ cC : ClassId} {M : Mem} : (wc ad cI cZ cC M)[24]? = some (ad 24, .inl (cC, 256, .inl (M 24))) := rfl
theorem wca_24 {ad : Nat → Nat} {cI cZ cC : ClassId} {M : Mem} {i : Nat} {x : Int32} : (wc ad cI cZ cC M).set 24 (ad 24, .inl (cC, 256, .inl (upd (M 24) i x))) = wc ad cI cZ cC (ms M 24 i x) := rfl
theorem wcg_25 {ad : Nat → Nat} {cI cZ cC : ClassId} {M : Mem} : (wc ad cI cZ cC M)[25]? = some (ad 25, .inr (1, [.ref (ad 1), .ref (ad 26), .ref (ad 27), .ref (ad 28), .int (M 25 4)])) := rfl
theorem wcf_25_4 {ad : Nat → Nat} {cI cZ cC : ClassId} {M : Mem} {x : Int32} : (wc ad cI cZ cC M).set 25 (ad 25, .inr (1, ([.ref (ad 1), .ref (ad 26), .ref (ad 27), .ref (ad 28), .int (M 25 4)] : List Value).set 4 (.int x))) = wc ad cI cZ cC (ms M 25 4 x) := rfl
theorem wcg_26 {ad : Nat → Nat} {cI cZ cC : ClassId} {M : Mem} : (wc ad cI cZ cC M)[26]? = some (ad 26, .inl (cZ, 120, .inl (M 26))) := rfl
theorem wca_26 {ad : Nat → Nat} {cI cZ cC : ClassId} {M : Mem} {i : Nat} {x : Int32} : (wc ad cI cZ cC M).set 26 (ad 26, .inl (cZ, 120, .inl (upd (M 26) i x))) = wc ad cI cZ cC (ms M 26 i x) := rfl
theorem wcg_27 {ad : Nat → Nat} {cI cZ cC : ClassId} {M : Mem} : (wc ad cI cZ cC M)[27]? = some (ad 27, .inl (cI, 25, .inl (M 27))) := rfl
theorem wca_27 {ad : Nat → Nat} {cI cZ cC : ClassId} {M : Mem} {i : Nat} {x : Int32} : (wc ad cI cZ cC M).set 27 (ad 27, .inl (cI, 25, .inl (upd (M 27) i x))) = wc ad cI cZ cC (ms M 27 i x) := rfl
theorem wcz_27 {ad : Nat → Nat} {cI cZ cC : ClassId} {M : Mem} {x : Int32} : (wc ad cI cZ cC M).set 27 (ad 27, .inl (cI, 25, .inl (fun j => if j < 25 then x else M 27 j))) = wc ad cI cZ cC (mf M 27 25 x) := rfl
theorem wcg_28 {ad : Nat → Nat} {cI cZ cC : ClassId} {M : Mem} : (wc ad cI cZ cC M)[28]? = some (ad 28, .inl (cI, 120, .inl (M 28))) := rfl
theorem wca_28 {ad : Nat → Nat} {cI cZ cC : ClassId} {M : Mem} {i : Nat} {x : Int32} : (wc ad cI cZ cC M).set 28 (ad 28, .inl (cI, 120, .inl (upd (M 28) i x))) = wc ad cI cZ cC (ms M 28 i x) := rfl
theorem wcz_28 {ad : Nat → Nat} {cI cZ cC : ClassId} {M : Mem} {x : Int32} : (wc ad cI cZ cC M).set 28 (ad 28, .inl (cI, 120, .inl (fun j => if j < 120 then x else M 28 j))) = wc ad cI cZ cC (mf M 28 120 x) := rfl
theorem tw_94 : Cond.fieldLink "NoneWords$Facts" 15 "NoneWords$Facts" "names" "I" ∈ TB := inTB 94 (by decide +kernel) (by decide +kernel)
theorem tw_103 : Cond.fieldLink "NoneWords$Facts" 43 "NoneWords$Facts" "nodes" "I" ∈ TB := inTB 103 (by decide +kernel) (by decide +kernel)
theorem tw_286 : Cond.methodLink "NoneWords$Facts" 52 ⟨"NoneWords$Facts", "hasNode", "(I)Z"⟩ ∈ TB := inTB 286 (by decide +kernel) (by decide +kernel)
theorem tw_95 : Cond.fieldLink "NoneWords$Facts" 19 "NoneWords$Facts" "kinds" "[I" ∈ TB := inTB 95 (by decide +kernel) (by decide +kernel)
theorem tw_97 : Cond.fieldLink "NoneWords$Facts" 25 "NoneWords$Facts" "toldNames" "[I" ∈ TB := inTB 97 (by decide +kernel) (by decide +kernel)
theorem tw_98 : Cond.fieldLink "NoneWords$Facts" 28 "NoneWords$Facts" "toldSets" "[I" ∈ TB := inTB 98 (by decide +kernel) (by decide +kernel)
theorem tw_99 : Cond.fieldLink "NoneWords$Facts" 31 "NoneWords$Facts" "toldOthers" "[I" ∈ TB := inTB 99 (by decide +kernel) (by decide +kernel)
theorem tw_100 : Cond.fieldLink "NoneWords$Facts" 34 "NoneWords$Facts" "toldOtherSets" "[I" ∈ TB := inTB 100 (by decide +kernel) (by decide +kernel)
theorem tw_101 : Cond.fieldLink "NoneWords$Facts" 37 "NoneWords$Facts" "leftParts" "[I" ∈ TB := inTB 101 (by decide +kernel) (by decide +kernel)
theorem tw_102 : Cond.fieldLink "NoneWords$Facts" 40 "NoneWords$Facts" "rightParts" "[I" ∈ TB := inTB 102 (by decide +kernel) (by decide +kernel)
theorem tw_394 : Cond.methodLink "NoneWords$Facts" 56 ⟨"NoneWords$Facts", "leftPart", "(I)I"⟩ ∈ TB := inTB 394 (by decide +kernel) (by decide +kernel)
theorem tw_395 : Cond.methodLink "NoneWords$Facts" 60 ⟨"NoneWords$Facts", "isLeaf", "(I)Z"⟩ ∈ TB := inTB 395 (by decide +kernel) (by decide +kernel)
theorem tw_399 : Cond.methodLink "NoneWords$Facts" 63 ⟨"NoneWords$Facts", "rightPart", "(I)I"⟩ ∈ TB := inTB 399 (by decide +kernel) (by decide +kernel)
theorem tw_412 : Cond.methodLink "NoneWords$Facts" 66 ⟨"NoneWords$Facts", "isJoin", "(I)Z"⟩ ∈ TB := inTB 412 (by decide +kernel) (by decide +kernel)
theorem tw_93 : Cond.fieldLink "NoneWords$Facts" 11 "NoneWords$Facts" "versions" "[I" ∈ TB := inTB 93 (by decide +kernel) (by decide +kernel)
theorem tw_255 : Cond.methodLink "NoneWords$Facts" 69 ⟨"NoneWords$Facts", "hasName", "(I)Z"⟩ ∈ TB := inTB 255 (by decide +kernel) (by decide +kernel)
theorem tw_96 : Cond.fieldLink "NoneWords$Facts" 22 "NoneWords$Facts" "truths" "[I" ∈ TB := inTB 96 (by decide +kernel) (by decide +kernel)
theorem tw_266 : Cond.constant "NoneWords$Facts" 88 33554431 ∈ TB := inTB 266 (by decide +kernel) (by decide +kernel)
theorem tw_270 : Cond.methodLink "NoneWords$Facts" 82 ⟨"NoneWords$Facts", "addNode", "(II)I"⟩ ∈ TB := inTB 270 (by decide +kernel) (by decide +kernel)
theorem tw_259 : Cond.methodLink "NoneWords$Facts" 72 ⟨"NoneWords$Facts", "allVersions", "(I)I"⟩ ∈ TB := inTB 259 (by decide +kernel) (by decide +kernel)
theorem tw_267 : Cond.methodLink "NoneWords$Facts" 79 ⟨"NoneWords$Facts", "wantedIn", "(II)I"⟩ ∈ TB := inTB 267 (by decide +kernel) (by decide +kernel)
theorem tw_263 : Cond.methodLink "NoneWords$Facts" 75 ⟨"NoneWords$Facts", "notIn", "(II)I"⟩ ∈ TB := inTB 263 (by decide +kernel) (by decide +kernel)
theorem tw_290 : Cond.methodLink "NoneWords$Facts" 85 ⟨"NoneWords$Facts", "optionsOfTerm", "(II)I"⟩ ∈ TB := inTB 290 (by decide +kernel) (by decide +kernel)
theorem tw_303 : Cond.methodLink "NoneWords$Facts" 89 ⟨"NoneWords$Facts", "hasTermOf", "(IIZ)Z"⟩ ∈ TB := inTB 303 (by decide +kernel) (by decide +kernel)
section FACTS
variable {p : Program} {l : Launch} {e : Env} {s : State} {m : MethodId} {args : Array Value} {below : List Frame} {meth : Method} {c : Code} {D : va_G} {A : Nat → Prop} {Z : gw_Z} {ad : Nat → Nat} {cI cZ cC : ClassId}
abbrev b_F_countNames : ByteArray := prog_2_method_2_code
def y_F_countNames : MethodName := ⟨"NoneWords$Facts", "countNames", "()I"⟩
abbrev ws_F_countNames : List Cond := Cond.code y_F_countNames b_F_countNames 1 (some (FieldType.int)) :: TB
set_option maxRecDepth 100000 in
theorem tc_F_countNames : Cond.code y_F_countNames b_F_countNames 1 (some (FieldType.int)) ∈ TB := inTB 524 rfl rfl
theorem mv_F_countNames : Cond.instanceMethod y_F_countNames ∈ TB ∧ Cond.selects "NoneWords$Facts" y_F_countNames y_F_countNames ∈ TB ∧ Cond.initialized "NoneWords$Facts" ∈ TB ∧ Cond.code y_F_countNames b_F_countNames 1 (some (FieldType.int)) ∈ TB := ⟨inTB 522 (by decide +kernel) (by decide +kernel), inTB 523 (by decide +kernel) (by decide +kernel), inTB 66 (by decide +kernel) (by decide +kernel), tc_F_countNames⟩
theorem pd_F_countNames : y_F_countNames.cls = "NoneWords$Facts" ∧ y_F_countNames.cls ≠ "java/lang/invoke/MethodHandle" ∧ y_F_countNames.cls ≠ "java/lang/invoke/VarHandle" ∧ (parseMethodDescriptor y_F_countNames.desc).map (fun d => d.parameters.length) = some 0 := by decide +kernel
theorem d_F_countNames_0 : decode b_F_countNames 0 = .ok (.aload_n 0, 1) := by decide +kernel
theorem d_F_countNames_1 : decode b_F_countNames 1 = .ok (.getfield 15, 3) := by decide +kernel
theorem d_F_countNames_4 : decode b_F_countNames 4 = .ok (.ireturn, 1) := by decide +kernel
abbrev rm_F_countNames : Room := { frames := 0, cells := 0, slots := 0, locals := 0 }
def f_F_countNames (M : Mem) : Option (Int32 × Mem) :=
  some (M 1 1, M)
set_option maxRecDepth 100000 in
theorem g_F_countNames {r : Int32} {M' : Mem} (C : GC p s m args meth c b_F_countNames 1 (some (FieldType.int)) "NoneWords$Facts" TB D vwCl (tysW cI cZ cC) A Z) {M : Mem} (hf : f_F_countNames M = some (r, M')) : GW p l e rm_F_countNames s m args below meth c (MQ below (QW D vwCl (tysW cI cZ cC) A (some (.int r)) (wc ad cI cZ cC M')) args s 0 0 A) D vwCl A 1 0 0 (wc ad cI cZ cC M) 0 [(0, .ref (ad 1))] [] := by
  unfold f_F_countNames at hf
  refine gw_aload_n C 0 d_F_countNames_0 rfl rfl ?_
  refine gw_get C in_F 1 wcg_1 clg_0 1 (by decide) tw_94 rfl rfl d_F_countNames_1 ?_
  exact gw_ireti C d_F_countNames_4 (wc ad cI cZ cC) hf
theorem c_F_countNames (hZ : gw_ZOK Z) {M : Mem} {r : Int32} {M' : Mem} (hf : f_F_countNames M = some (r, M')) : CW l y_F_countNames ws_F_countNames rm_F_countNames D vwCl (tysW cI cZ cC) Z [.ref (ad 1)] (wc ad cI cZ cC M) (some (.int r)) (wc ad cI cZ cC M') 0 0 :=
  CW.ofG hZ (by decide) rfl (Nat.le_of_ble_eq_true rfl) (fun _ _ _ _ _ _ _ _ C _ => g_F_countNames C hf)
abbrev b_F_countNodes : ByteArray := prog_2_method_3_code
def y_F_countNodes : MethodName := ⟨"NoneWords$Facts", "countNodes", "()I"⟩
abbrev ws_F_countNodes : List Cond := Cond.code y_F_countNodes b_F_countNodes 1 (some (FieldType.int)) :: TB
set_option maxRecDepth 100000 in
theorem tc_F_countNodes : Cond.code y_F_countNodes b_F_countNodes 1 (some (FieldType.int)) ∈ TB := inTB 626 rfl rfl
theorem mv_F_countNodes : Cond.instanceMethod y_F_countNodes ∈ TB ∧ Cond.selects "NoneWords$Facts" y_F_countNodes y_F_countNodes ∈ TB ∧ Cond.initialized "NoneWords$Facts" ∈ TB ∧ Cond.code y_F_countNodes b_F_countNodes 1 (some (FieldType.int)) ∈ TB := ⟨inTB 624 (by decide +kernel) (by decide +kernel), inTB 625 (by decide +kernel) (by decide +kernel), inTB 66 (by decide +kernel) (by decide +kernel), tc_F_countNodes⟩
theorem pd_F_countNodes : y_F_countNodes.cls = "NoneWords$Facts" ∧ y_F_countNodes.cls ≠ "java/lang/invoke/MethodHandle" ∧ y_F_countNodes.cls ≠ "java/lang/invoke/VarHandle" ∧ (parseMethodDescriptor y_F_countNodes.desc).map (fun d => d.parameters.length) = some 0 := by decide +kernel
theorem d_F_countNodes_0 : decode b_F_countNodes 0 = .ok (.aload_n 0, 1) := by decide +kernel
theorem d_F_countNodes_1 : decode b_F_countNodes 1 = .ok (.getfield 43, 3) := by decide +kernel
theorem d_F_countNodes_4 : decode b_F_countNodes 4 = .ok (.ireturn, 1) := by decide +kernel
abbrev rm_F_countNodes : Room := { frames := 0, cells := 0, slots := 0, locals := 0 }
def f_F_countNodes (M : Mem) : Option (Int32 × Mem) :=
  some (M 1 10, M)
set_option maxRecDepth 100000 in
theorem g_F_countNodes {r : Int32} {M' : Mem} (C : GC p s m args meth c b_F_countNodes 1 (some (FieldType.int)) "NoneWords$Facts" TB D vwCl (tysW cI cZ cC) A Z) {M : Mem} (hf : f_F_countNodes M = some (r, M')) : GW p l e rm_F_countNodes s m args below meth c (MQ below (QW D vwCl (tysW cI cZ cC) A (some (.int r)) (wc ad cI cZ cC M')) args s 0 0 A) D vwCl A 1 0 0 (wc ad cI cZ cC M) 0 [(0, .ref (ad 1))] [] := by
  unfold f_F_countNodes at hf
  refine gw_aload_n C 0 d_F_countNodes_0 rfl rfl ?_
  refine gw_get C in_F 1 wcg_1 clg_0 10 (by decide) tw_103 rfl rfl d_F_countNodes_1 ?_
  exact gw_ireti C d_F_countNodes_4 (wc ad cI cZ cC) hf
theorem c_F_countNodes (hZ : gw_ZOK Z) {M : Mem} {r : Int32} {M' : Mem} (hf : f_F_countNodes M = some (r, M')) : CW l y_F_countNodes ws_F_countNodes rm_F_countNodes D vwCl (tysW cI cZ cC) Z [.ref (ad 1)] (wc ad cI cZ cC M) (some (.int r)) (wc ad cI cZ cC M') 0 0 :=
  CW.ofG hZ (by decide) rfl (Nat.le_of_ble_eq_true rfl) (fun _ _ _ _ _ _ _ _ C _ => g_F_countNodes C hf)
abbrev b_F_hasName : ByteArray := prog_2_method_4_code
def y_F_hasName : MethodName := ⟨"NoneWords$Facts", "hasName", "(I)Z"⟩
abbrev ws_F_hasName : List Cond := Cond.code y_F_hasName b_F_hasName 2 (some (FieldType.boolean)) :: TB
set_option maxRecDepth 100000 in
theorem tc_F_hasName : Cond.code y_F_hasName b_F_hasName 2 (some (FieldType.boolean)) ∈ TB := inTB 258 rfl rfl
theorem mv_F_hasName : Cond.instanceMethod y_F_hasName ∈ TB ∧ Cond.selects "NoneWords$Facts" y_F_hasName y_F_hasName ∈ TB ∧ Cond.initialized "NoneWords$Facts" ∈ TB ∧ Cond.code y_F_hasName b_F_hasName 2 (some (FieldType.boolean)) ∈ TB := ⟨inTB 256 (by decide +kernel) (by decide +kernel), inTB 257 (by decide +kernel) (by decide +kernel), inTB 66 (by decide +kernel) (by decide +kernel), tc_F_hasName⟩
theorem pd_F_hasName : y_F_hasName.cls = "NoneWords$Facts" ∧ y_F_hasName.cls ≠ "java/lang/invoke/MethodHandle" ∧ y_F_hasName.cls ≠ "java/lang/invoke/VarHandle" ∧ (parseMethodDescriptor y_F_hasName.desc).map (fun d => d.parameters.length) = some 1 := by decide +kernel
theorem d_F_hasName_0 : decode b_F_hasName 0 = .ok (.iload_n 1, 1) := by decide +kernel
theorem d_F_hasName_1 : decode b_F_hasName 1 = .ok (.ifCond .lt 15, 3) := by decide +kernel
theorem d_F_hasName_4 : decode b_F_hasName 4 = .ok (.iload_n 1, 1) := by decide +kernel
theorem d_F_hasName_5 : decode b_F_hasName 5 = .ok (.aload_n 0, 1) := by decide +kernel
theorem d_F_hasName_6 : decode b_F_hasName 6 = .ok (.getfield 15, 3) := by decide +kernel
theorem d_F_hasName_9 : decode b_F_hasName 9 = .ok (.if_icmp .ge 7, 3) := by decide +kernel
theorem d_F_hasName_12 : decode b_F_hasName 12 = .ok (.iconst 1, 1) := by decide +kernel
theorem d_F_hasName_13 : decode b_F_hasName 13 = .ok (.goto 4, 3) := by decide +kernel
theorem d_F_hasName_16 : decode b_F_hasName 16 = .ok (.iconst 0, 1) := by decide +kernel
theorem d_F_hasName_17 : decode b_F_hasName 17 = .ok (.ireturn, 1) := by decide +kernel
abbrev rm_F_hasName : Room := { frames := 0, cells := 0, slots := 0, locals := 0 }
def f_F_hasName (x1 : Int32) (M : Mem) : Option (Int32 × Mem) :=
  if x1 < 0 then some ((0 : Int32), M) else if (M 1 1) ≤ x1 then some ((0 : Int32), M) else some ((1 : Int32), M)
set_option maxRecDepth 100000 in
theorem g_F_hasName {r : Int32} {M' : Mem} (C : GC p s m args meth c b_F_hasName 2 (some (FieldType.boolean)) "NoneWords$Facts" TB D vwCl (tysW cI cZ cC) A Z) {x1 : Int32} {M : Mem} (hf : f_F_hasName x1 M = some (r, M')) : GW p l e rm_F_hasName s m args below meth c (MQ below (QW D vwCl (tysW cI cZ cC) A (some (.int r)) (wc ad cI cZ cC M')) args s 0 0 A) D vwCl A 2 0 0 (wc ad cI cZ cC M) 0 [(0, .ref (ad 1)), (1, .int x1)] [] := by
  unfold f_F_hasName at hf
  refine gw_iload_n C 1 d_F_hasName_0 rfl rfl ?_
  refine gw_if_lt (tgt := 16) C d_F_hasName_1 (by decide) (fun c => ?_) (fun c => ?_)
  · have hf := (if_pos c).symm.trans hf
    refine gw_iconst (v := (0 : Int32)) C d_F_hasName_16 (by decide) ?_
    exact gw_zreti C d_F_hasName_17 (wc ad cI cZ cC) (by decide) hf
  · have hf := (if_neg c).symm.trans hf
    refine gw_iload_n C 1 d_F_hasName_4 rfl rfl ?_
    refine gw_aload_n C 0 d_F_hasName_5 rfl rfl ?_
    refine gw_get C in_F 1 wcg_1 clg_0 1 (by decide) tw_94 rfl rfl d_F_hasName_6 ?_
    refine gw_icmp_ge (tgt := 16) C d_F_hasName_9 (by decide) (fun c => ?_) (fun c => ?_)
    · have hf := (if_pos c).symm.trans hf
      refine gw_iconst (v := (0 : Int32)) C d_F_hasName_16 (by decide) ?_
      exact gw_zreti C d_F_hasName_17 (wc ad cI cZ cC) (by decide) hf
    · have hf := (if_neg c).symm.trans hf
      refine gw_iconst (v := (1 : Int32)) C d_F_hasName_12 (by decide) ?_
      refine gw_goto (tgt := 17) C d_F_hasName_13 (by decide) ?_
      exact gw_zreti C d_F_hasName_17 (wc ad cI cZ cC) (by decide) hf
theorem c_F_hasName (hZ : gw_ZOK Z) {x1 : Int32} {M : Mem} {r : Int32} {M' : Mem} (hf : f_F_hasName x1 M = some (r, M')) : CW l y_F_hasName ws_F_hasName rm_F_hasName D vwCl (tysW cI cZ cC) Z [.ref (ad 1), .int x1] (wc ad cI cZ cC M) (some (.int r)) (wc ad cI cZ cC M') 0 0 :=
  CW.ofG hZ (by decide) rfl (Nat.le_of_ble_eq_true rfl) (fun _ _ _ _ _ _ _ _ C _ => g_F_hasName C hf)
abbrev b_F_hasNode : ByteArray := prog_2_method_5_code
def y_F_hasNode : MethodName := ⟨"NoneWords$Facts", "hasNode", "(I)Z"⟩
abbrev ws_F_hasNode : List Cond := Cond.code y_F_hasNode b_F_hasNode 2 (some (FieldType.boolean)) :: TB
set_option maxRecDepth 100000 in
theorem tc_F_hasNode : Cond.code y_F_hasNode b_F_hasNode 2 (some (FieldType.boolean)) ∈ TB := inTB 289 rfl rfl
theorem mv_F_hasNode : Cond.instanceMethod y_F_hasNode ∈ TB ∧ Cond.selects "NoneWords$Facts" y_F_hasNode y_F_hasNode ∈ TB ∧ Cond.initialized "NoneWords$Facts" ∈ TB ∧ Cond.code y_F_hasNode b_F_hasNode 2 (some (FieldType.boolean)) ∈ TB := ⟨inTB 287 (by decide +kernel) (by decide +kernel), inTB 288 (by decide +kernel) (by decide +kernel), inTB 66 (by decide +kernel) (by decide +kernel), tc_F_hasNode⟩
theorem pd_F_hasNode : y_F_hasNode.cls = "NoneWords$Facts" ∧ y_F_hasNode.cls ≠ "java/lang/invoke/MethodHandle" ∧ y_F_hasNode.cls ≠ "java/lang/invoke/VarHandle" ∧ (parseMethodDescriptor y_F_hasNode.desc).map (fun d => d.parameters.length) = some 1 := by decide +kernel
theorem d_F_hasNode_0 : decode b_F_hasNode 0 = .ok (.iload_n 1, 1) := by decide +kernel
theorem d_F_hasNode_1 : decode b_F_hasNode 1 = .ok (.ifCond .lt 15, 3) := by decide +kernel
theorem d_F_hasNode_4 : decode b_F_hasNode 4 = .ok (.iload_n 1, 1) := by decide +kernel
theorem d_F_hasNode_5 : decode b_F_hasNode 5 = .ok (.aload_n 0, 1) := by decide +kernel
theorem d_F_hasNode_6 : decode b_F_hasNode 6 = .ok (.getfield 43, 3) := by decide +kernel
theorem d_F_hasNode_9 : decode b_F_hasNode 9 = .ok (.if_icmp .ge 7, 3) := by decide +kernel
theorem d_F_hasNode_12 : decode b_F_hasNode 12 = .ok (.iconst 1, 1) := by decide +kernel
theorem d_F_hasNode_13 : decode b_F_hasNode 13 = .ok (.goto 4, 3) := by decide +kernel
theorem d_F_hasNode_16 : decode b_F_hasNode 16 = .ok (.iconst 0, 1) := by decide +kernel
theorem d_F_hasNode_17 : decode b_F_hasNode 17 = .ok (.ireturn, 1) := by decide +kernel
abbrev rm_F_hasNode : Room := { frames := 0, cells := 0, slots := 0, locals := 0 }
def f_F_hasNode (x1 : Int32) (M : Mem) : Option (Int32 × Mem) :=
  if x1 < 0 then some ((0 : Int32), M) else if (M 1 10) ≤ x1 then some ((0 : Int32), M) else some ((1 : Int32), M)
set_option maxRecDepth 100000 in
theorem g_F_hasNode {r : Int32} {M' : Mem} (C : GC p s m args meth c b_F_hasNode 2 (some (FieldType.boolean)) "NoneWords$Facts" TB D vwCl (tysW cI cZ cC) A Z) {x1 : Int32} {M : Mem} (hf : f_F_hasNode x1 M = some (r, M')) : GW p l e rm_F_hasNode s m args below meth c (MQ below (QW D vwCl (tysW cI cZ cC) A (some (.int r)) (wc ad cI cZ cC M')) args s 0 0 A) D vwCl A 2 0 0 (wc ad cI cZ cC M) 0 [(0, .ref (ad 1)), (1, .int x1)] [] := by
  unfold f_F_hasNode at hf
  refine gw_iload_n C 1 d_F_hasNode_0 rfl rfl ?_
  refine gw_if_lt (tgt := 16) C d_F_hasNode_1 (by decide) (fun c => ?_) (fun c => ?_)
  · have hf := (if_pos c).symm.trans hf
    refine gw_iconst (v := (0 : Int32)) C d_F_hasNode_16 (by decide) ?_
    exact gw_zreti C d_F_hasNode_17 (wc ad cI cZ cC) (by decide) hf
  · have hf := (if_neg c).symm.trans hf
    refine gw_iload_n C 1 d_F_hasNode_4 rfl rfl ?_
    refine gw_aload_n C 0 d_F_hasNode_5 rfl rfl ?_
    refine gw_get C in_F 1 wcg_1 clg_0 10 (by decide) tw_103 rfl rfl d_F_hasNode_6 ?_
    refine gw_icmp_ge (tgt := 16) C d_F_hasNode_9 (by decide) (fun c => ?_) (fun c => ?_)
    · have hf := (if_pos c).symm.trans hf
      refine gw_iconst (v := (0 : Int32)) C d_F_hasNode_16 (by decide) ?_
      exact gw_zreti C d_F_hasNode_17 (wc ad cI cZ cC) (by decide) hf
    · have hf := (if_neg c).symm.trans hf
      refine gw_iconst (v := (1 : Int32)) C d_F_hasNode_12 (by decide) ?_
      refine gw_goto (tgt := 17) C d_F_hasNode_13 (by decide) ?_
      exact gw_zreti C d_F_hasNode_17 (wc ad cI cZ cC) (by decide) hf
theorem c_F_hasNode (hZ : gw_ZOK Z) {x1 : Int32} {M : Mem} {r : Int32} {M' : Mem} (hf : f_F_hasNode x1 M = some (r, M')) : CW l y_F_hasNode ws_F_hasNode rm_F_hasNode D vwCl (tysW cI cZ cC) Z [.ref (ad 1), .int x1] (wc ad cI cZ cC M) (some (.int r)) (wc ad cI cZ cC M') 0 0 :=
  CW.ofG hZ (by decide) rfl (Nat.le_of_ble_eq_true rfl) (fun _ _ _ _ _ _ _ _ C _ => g_F_hasNode C hf)
abbrev b_F_kindOf : ByteArray := prog_2_method_6_code
def y_F_kindOf : MethodName := ⟨"NoneWords$Facts", "kindOf", "(I)I"⟩
abbrev ws_F_kindOf : List Cond := Cond.code y_F_kindOf b_F_kindOf 2 (some (FieldType.int)) :: TB
set_option maxRecDepth 100000 in
theorem tc_F_kindOf : Cond.code y_F_kindOf b_F_kindOf 2 (some (FieldType.int)) ∈ TB := inTB 558 rfl rfl
theorem mv_F_kindOf : Cond.instanceMethod y_F_kindOf ∈ TB ∧ Cond.selects "NoneWords$Facts" y_F_kindOf y_F_kindOf ∈ TB ∧ Cond.initialized "NoneWords$Facts" ∈ TB ∧ Cond.code y_F_kindOf b_F_kindOf 2 (some (FieldType.int)) ∈ TB := ⟨inTB 556 (by decide +kernel) (by decide +kernel), inTB 557 (by decide +kernel) (by decide +kernel), inTB 66 (by decide +kernel) (by decide +kernel), tc_F_kindOf⟩
theorem pd_F_kindOf : y_F_kindOf.cls = "NoneWords$Facts" ∧ y_F_kindOf.cls ≠ "java/lang/invoke/MethodHandle" ∧ y_F_kindOf.cls ≠ "java/lang/invoke/VarHandle" ∧ (parseMethodDescriptor y_F_kindOf.desc).map (fun d => d.parameters.length) = some 1 := by decide +kernel
theorem d_F_kindOf_0 : decode b_F_kindOf 0 = .ok (.aload_n 0, 1) := by decide +kernel
theorem d_F_kindOf_1 : decode b_F_kindOf 1 = .ok (.iload_n 1, 1) := by decide +kernel
theorem d_F_kindOf_2 : decode b_F_kindOf 2 = .ok (.invokevirtual 52, 3) := by decide +kernel
theorem d_F_kindOf_5 : decode b_F_kindOf 5 = .ok (.ifCond .eq 12, 3) := by decide +kernel
theorem d_F_kindOf_8 : decode b_F_kindOf 8 = .ok (.aload_n 0, 1) := by decide +kernel
theorem d_F_kindOf_9 : decode b_F_kindOf 9 = .ok (.getfield 19, 3) := by decide +kernel
theorem d_F_kindOf_12 : decode b_F_kindOf 12 = .ok (.iload_n 1, 1) := by decide +kernel
theorem d_F_kindOf_13 : decode b_F_kindOf 13 = .ok (.iaload, 1) := by decide +kernel
theorem d_F_kindOf_14 : decode b_F_kindOf 14 = .ok (.goto 4, 3) := by decide +kernel
theorem d_F_kindOf_17 : decode b_F_kindOf 17 = .ok (.iconst (-1), 1) := by decide +kernel
theorem d_F_kindOf_18 : decode b_F_kindOf 18 = .ok (.ireturn, 1) := by decide +kernel
abbrev rm_F_kindOf : Room := { frames := 1, cells := 0, slots := 0, locals := 21 }
def f_F_kindOf (x1 : Int32) (M : Mem) : Option (Int32 × Mem) :=
  ob (f_F_hasNode x1 M) fun r2 M2 => if r2 = 0 then some ((-1 : Int32), M2) else gd (inb x1 120) (some (M2 3 x1.toNatClampNeg, M2))
set_option maxRecDepth 100000 in
theorem g_F_kindOf {r : Int32} {M' : Mem} (C : GC p s m args meth c b_F_kindOf 2 (some (FieldType.int)) "NoneWords$Facts" TB D vwCl (tysW cI cZ cC) A Z) {x1 : Int32} {M : Mem} (hf : f_F_kindOf x1 M = some (r, M')) : GW p l e rm_F_kindOf s m args below meth c (MQ below (QW D vwCl (tysW cI cZ cC) A (some (.int r)) (wc ad cI cZ cC M')) args s 0 0 A) D vwCl A 2 0 0 (wc ad cI cZ cC M) 0 [(0, .ref (ad 1)), (1, .int x1)] [] := by
  unfold f_F_kindOf at hf
  refine gw_aload_n C 0 d_F_kindOf_0 rfl rfl ?_
  refine gw_iload_n C 1 d_F_kindOf_1 rfl rfl ?_
  obtain ⟨r2, M2, hc2, hf⟩ := ob_some hf
  refine gw_callVr (rest := []) C 1 wcg_1 clg_0 (c_F_hasNode C.2.2.2.2.2.2.2.2.2.2 hc2) (cwV 1 C.2.2.2.2.1 (gTB_V tw_286 mv_F_hasNode) rfl rfl rfl pd_F_hasNode ⟨Nat.le_of_ble_eq_true rfl, Nat.le_of_ble_eq_true rfl⟩) rfl rfl (Nat.le_of_ble_eq_true rfl) d_F_kindOf_2 ⟨Nat.le_of_ble_eq_true rfl, Nat.le_of_ble_eq_true rfl⟩ ?_
  refine gw_if_eq (tgt := 17) C d_F_kindOf_5 (by decide) (fun c => ?_) (fun c => ?_)
  · have hf := (if_pos c).symm.trans hf
    refine gw_iconst (v := (-1 : Int32)) C d_F_kindOf_17 (by decide) ?_
    exact gw_ireti C d_F_kindOf_18 (wc ad cI cZ cC) hf
  · have hf := (if_neg c).symm.trans hf
    refine gw_aload_n C 0 d_F_kindOf_8 rfl rfl ?_
    refine gw_get C in_F 1 wcg_1 clg_0 2 (by decide) tw_95 rfl rfl d_F_kindOf_9 ?_
    refine gw_iload_n C 1 d_F_kindOf_12 rfl rfl ?_
    obtain ⟨hb13, hf⟩ := gd_some hf
    refine gw_iald C 3 0 wcg_3 rfl hb13 d_F_kindOf_13 ?_
    refine gw_goto (tgt := 18) C d_F_kindOf_14 (by decide) ?_
    exact gw_ireti C d_F_kindOf_18 (wc ad cI cZ cC) hf
theorem c_F_kindOf (hZ : gw_ZOK Z) {x1 : Int32} {M : Mem} {r : Int32} {M' : Mem} (hf : f_F_kindOf x1 M = some (r, M')) : CW l y_F_kindOf ws_F_kindOf rm_F_kindOf D vwCl (tysW cI cZ cC) Z [.ref (ad 1), .int x1] (wc ad cI cZ cC M) (some (.int r)) (wc ad cI cZ cC M') 0 0 :=
  CW.ofG hZ (by decide) rfl (Nat.le_of_ble_eq_true rfl) (fun _ _ _ _ _ _ _ _ C _ => g_F_kindOf C hf)
abbrev b_F_isJoin : ByteArray := prog_2_method_7_code
def y_F_isJoin : MethodName := ⟨"NoneWords$Facts", "isJoin", "(I)Z"⟩
abbrev ws_F_isJoin : List Cond := Cond.code y_F_isJoin b_F_isJoin 2 (some (FieldType.boolean)) :: TB
set_option maxRecDepth 100000 in
theorem tc_F_isJoin : Cond.code y_F_isJoin b_F_isJoin 2 (some (FieldType.boolean)) ∈ TB := inTB 361 rfl rfl
theorem mv_F_isJoin : Cond.instanceMethod y_F_isJoin ∈ TB ∧ Cond.selects "NoneWords$Facts" y_F_isJoin y_F_isJoin ∈ TB ∧ Cond.initialized "NoneWords$Facts" ∈ TB ∧ Cond.code y_F_isJoin b_F_isJoin 2 (some (FieldType.boolean)) ∈ TB := ⟨inTB 359 (by decide +kernel) (by decide +kernel), inTB 360 (by decide +kernel) (by decide +kernel), inTB 66 (by decide +kernel) (by decide +kernel), tc_F_isJoin⟩
theorem pd_F_isJoin : y_F_isJoin.cls = "NoneWords$Facts" ∧ y_F_isJoin.cls ≠ "java/lang/invoke/MethodHandle" ∧ y_F_isJoin.cls ≠ "java/lang/invoke/VarHandle" ∧ (parseMethodDescriptor y_F_isJoin.desc).map (fun d => d.parameters.length) = some 1 := by decide +kernel
theorem d_F_isJoin_0 : decode b_F_isJoin 0 = .ok (.aload_n 0, 1) := by decide +kernel
theorem d_F_isJoin_1 : decode b_F_isJoin 1 = .ok (.iload_n 1, 1) := by decide +kernel
theorem d_F_isJoin_2 : decode b_F_isJoin 2 = .ok (.invokevirtual 52, 3) := by decide +kernel
theorem d_F_isJoin_5 : decode b_F_isJoin 5 = .ok (.ifCond .eq 17, 3) := by decide +kernel
theorem d_F_isJoin_8 : decode b_F_isJoin 8 = .ok (.aload_n 0, 1) := by decide +kernel
theorem d_F_isJoin_9 : decode b_F_isJoin 9 = .ok (.getfield 19, 3) := by decide +kernel
theorem d_F_isJoin_12 : decode b_F_isJoin 12 = .ok (.iload_n 1, 1) := by decide +kernel
theorem d_F_isJoin_13 : decode b_F_isJoin 13 = .ok (.iaload, 1) := by decide +kernel
theorem d_F_isJoin_14 : decode b_F_isJoin 14 = .ok (.iconst 4, 1) := by decide +kernel
theorem d_F_isJoin_15 : decode b_F_isJoin 15 = .ok (.if_icmp .ne 7, 3) := by decide +kernel
theorem d_F_isJoin_18 : decode b_F_isJoin 18 = .ok (.iconst 1, 1) := by decide +kernel
theorem d_F_isJoin_19 : decode b_F_isJoin 19 = .ok (.goto 4, 3) := by decide +kernel
theorem d_F_isJoin_22 : decode b_F_isJoin 22 = .ok (.iconst 0, 1) := by decide +kernel
theorem d_F_isJoin_23 : decode b_F_isJoin 23 = .ok (.ireturn, 1) := by decide +kernel
abbrev rm_F_isJoin : Room := { frames := 1, cells := 0, slots := 0, locals := 21 }
def f_F_isJoin (x1 : Int32) (M : Mem) : Option (Int32 × Mem) :=
  ob (f_F_hasNode x1 M) fun r2 M2 => if r2 = 0 then some ((0 : Int32), M2) else gd (inb x1 120) (if (M2 3 x1.toNatClampNeg) = (4 : Int32) then some ((1 : Int32), M2) else some ((0 : Int32), M2))
set_option maxRecDepth 100000 in
theorem g_F_isJoin {r : Int32} {M' : Mem} (C : GC p s m args meth c b_F_isJoin 2 (some (FieldType.boolean)) "NoneWords$Facts" TB D vwCl (tysW cI cZ cC) A Z) {x1 : Int32} {M : Mem} (hf : f_F_isJoin x1 M = some (r, M')) : GW p l e rm_F_isJoin s m args below meth c (MQ below (QW D vwCl (tysW cI cZ cC) A (some (.int r)) (wc ad cI cZ cC M')) args s 0 0 A) D vwCl A 2 0 0 (wc ad cI cZ cC M) 0 [(0, .ref (ad 1)), (1, .int x1)] [] := by
  unfold f_F_isJoin at hf
  refine gw_aload_n C 0 d_F_isJoin_0 rfl rfl ?_
  refine gw_iload_n C 1 d_F_isJoin_1 rfl rfl ?_
  obtain ⟨r2, M2, hc2, hf⟩ := ob_some hf
  refine gw_callVr (rest := []) C 1 wcg_1 clg_0 (c_F_hasNode C.2.2.2.2.2.2.2.2.2.2 hc2) (cwV 1 C.2.2.2.2.1 (gTB_V tw_286 mv_F_hasNode) rfl rfl rfl pd_F_hasNode ⟨Nat.le_of_ble_eq_true rfl, Nat.le_of_ble_eq_true rfl⟩) rfl rfl (Nat.le_of_ble_eq_true rfl) d_F_isJoin_2 ⟨Nat.le_of_ble_eq_true rfl, Nat.le_of_ble_eq_true rfl⟩ ?_
  refine gw_if_eq (tgt := 22) C d_F_isJoin_5 (by decide) (fun c => ?_) (fun c => ?_)
  · have hf := (if_pos c).symm.trans hf
    refine gw_iconst (v := (0 : Int32)) C d_F_isJoin_22 (by decide) ?_
    exact gw_zreti C d_F_isJoin_23 (wc ad cI cZ cC) (by decide) hf
  · have hf := (if_neg c).symm.trans hf
    refine gw_aload_n C 0 d_F_isJoin_8 rfl rfl ?_
    refine gw_get C in_F 1 wcg_1 clg_0 2 (by decide) tw_95 rfl rfl d_F_isJoin_9 ?_
    refine gw_iload_n C 1 d_F_isJoin_12 rfl rfl ?_
    obtain ⟨hb13, hf⟩ := gd_some hf
    refine gw_iald C 3 0 wcg_3 rfl hb13 d_F_isJoin_13 ?_
    refine gw_iconst (v := (4 : Int32)) C d_F_isJoin_14 (by decide) ?_
    refine gw_icmp_ne (tgt := 22) C d_F_isJoin_15 (by decide) (fun c => ?_) (fun c => ?_)
    · have hf := (if_neg c).symm.trans hf
      refine gw_iconst (v := (0 : Int32)) C d_F_isJoin_22 (by decide) ?_
      exact gw_zreti C d_F_isJoin_23 (wc ad cI cZ cC) (by decide) hf
    · have hf := (if_pos c).symm.trans hf
      refine gw_iconst (v := (1 : Int32)) C d_F_isJoin_18 (by decide) ?_
      refine gw_goto (tgt := 23) C d_F_isJoin_19 (by decide) ?_
      exact gw_zreti C d_F_isJoin_23 (wc ad cI cZ cC) (by decide) hf
theorem c_F_isJoin (hZ : gw_ZOK Z) {x1 : Int32} {M : Mem} {r : Int32} {M' : Mem} (hf : f_F_isJoin x1 M = some (r, M')) : CW l y_F_isJoin ws_F_isJoin rm_F_isJoin D vwCl (tysW cI cZ cC) Z [.ref (ad 1), .int x1] (wc ad cI cZ cC M) (some (.int r)) (wc ad cI cZ cC M') 0 0 :=
  CW.ofG hZ (by decide) rfl (Nat.le_of_ble_eq_true rfl) (fun _ _ _ _ _ _ _ _ C _ => g_F_isJoin C hf)
abbrev b_F_isLeaf : ByteArray := prog_2_method_8_code
def y_F_isLeaf : MethodName := ⟨"NoneWords$Facts", "isLeaf", "(I)Z"⟩
abbrev ws_F_isLeaf : List Cond := Cond.code y_F_isLeaf b_F_isLeaf 2 (some (FieldType.boolean)) :: TB
set_option maxRecDepth 100000 in
theorem tc_F_isLeaf : Cond.code y_F_isLeaf b_F_isLeaf 2 (some (FieldType.boolean)) ∈ TB := inTB 398 rfl rfl
theorem mv_F_isLeaf : Cond.instanceMethod y_F_isLeaf ∈ TB ∧ Cond.selects "NoneWords$Facts" y_F_isLeaf y_F_isLeaf ∈ TB ∧ Cond.initialized "NoneWords$Facts" ∈ TB ∧ Cond.code y_F_isLeaf b_F_isLeaf 2 (some (FieldType.boolean)) ∈ TB := ⟨inTB 396 (by decide +kernel) (by decide +kernel), inTB 397 (by decide +kernel) (by decide +kernel), inTB 66 (by decide +kernel) (by decide +kernel), tc_F_isLeaf⟩
theorem pd_F_isLeaf : y_F_isLeaf.cls = "NoneWords$Facts" ∧ y_F_isLeaf.cls ≠ "java/lang/invoke/MethodHandle" ∧ y_F_isLeaf.cls ≠ "java/lang/invoke/VarHandle" ∧ (parseMethodDescriptor y_F_isLeaf.desc).map (fun d => d.parameters.length) = some 1 := by decide +kernel
theorem d_F_isLeaf_0 : decode b_F_isLeaf 0 = .ok (.aload_n 0, 1) := by decide +kernel
theorem d_F_isLeaf_1 : decode b_F_isLeaf 1 = .ok (.iload_n 1, 1) := by decide +kernel
theorem d_F_isLeaf_2 : decode b_F_isLeaf 2 = .ok (.invokevirtual 52, 3) := by decide +kernel
theorem d_F_isLeaf_5 : decode b_F_isLeaf 5 = .ok (.ifCond .eq 17, 3) := by decide +kernel
theorem d_F_isLeaf_8 : decode b_F_isLeaf 8 = .ok (.aload_n 0, 1) := by decide +kernel
theorem d_F_isLeaf_9 : decode b_F_isLeaf 9 = .ok (.getfield 19, 3) := by decide +kernel
theorem d_F_isLeaf_12 : decode b_F_isLeaf 12 = .ok (.iload_n 1, 1) := by decide +kernel
theorem d_F_isLeaf_13 : decode b_F_isLeaf 13 = .ok (.iaload, 1) := by decide +kernel
theorem d_F_isLeaf_14 : decode b_F_isLeaf 14 = .ok (.iconst 4, 1) := by decide +kernel
theorem d_F_isLeaf_15 : decode b_F_isLeaf 15 = .ok (.if_icmp .eq 7, 3) := by decide +kernel
theorem d_F_isLeaf_18 : decode b_F_isLeaf 18 = .ok (.iconst 1, 1) := by decide +kernel
theorem d_F_isLeaf_19 : decode b_F_isLeaf 19 = .ok (.goto 4, 3) := by decide +kernel
theorem d_F_isLeaf_22 : decode b_F_isLeaf 22 = .ok (.iconst 0, 1) := by decide +kernel
theorem d_F_isLeaf_23 : decode b_F_isLeaf 23 = .ok (.ireturn, 1) := by decide +kernel
abbrev rm_F_isLeaf : Room := { frames := 1, cells := 0, slots := 0, locals := 21 }
def f_F_isLeaf (x1 : Int32) (M : Mem) : Option (Int32 × Mem) :=
  ob (f_F_hasNode x1 M) fun r2 M2 => if r2 = 0 then some ((0 : Int32), M2) else gd (inb x1 120) (if (M2 3 x1.toNatClampNeg) = (4 : Int32) then some ((0 : Int32), M2) else some ((1 : Int32), M2))
set_option maxRecDepth 100000 in
theorem g_F_isLeaf {r : Int32} {M' : Mem} (C : GC p s m args meth c b_F_isLeaf 2 (some (FieldType.boolean)) "NoneWords$Facts" TB D vwCl (tysW cI cZ cC) A Z) {x1 : Int32} {M : Mem} (hf : f_F_isLeaf x1 M = some (r, M')) : GW p l e rm_F_isLeaf s m args below meth c (MQ below (QW D vwCl (tysW cI cZ cC) A (some (.int r)) (wc ad cI cZ cC M')) args s 0 0 A) D vwCl A 2 0 0 (wc ad cI cZ cC M) 0 [(0, .ref (ad 1)), (1, .int x1)] [] := by
  unfold f_F_isLeaf at hf
  refine gw_aload_n C 0 d_F_isLeaf_0 rfl rfl ?_
  refine gw_iload_n C 1 d_F_isLeaf_1 rfl rfl ?_
  obtain ⟨r2, M2, hc2, hf⟩ := ob_some hf
  refine gw_callVr (rest := []) C 1 wcg_1 clg_0 (c_F_hasNode C.2.2.2.2.2.2.2.2.2.2 hc2) (cwV 1 C.2.2.2.2.1 (gTB_V tw_286 mv_F_hasNode) rfl rfl rfl pd_F_hasNode ⟨Nat.le_of_ble_eq_true rfl, Nat.le_of_ble_eq_true rfl⟩) rfl rfl (Nat.le_of_ble_eq_true rfl) d_F_isLeaf_2 ⟨Nat.le_of_ble_eq_true rfl, Nat.le_of_ble_eq_true rfl⟩ ?_
  refine gw_if_eq (tgt := 22) C d_F_isLeaf_5 (by decide) (fun c => ?_) (fun c => ?_)
  · have hf := (if_pos c).symm.trans hf
    refine gw_iconst (v := (0 : Int32)) C d_F_isLeaf_22 (by decide) ?_
    exact gw_zreti C d_F_isLeaf_23 (wc ad cI cZ cC) (by decide) hf
  · have hf := (if_neg c).symm.trans hf
    refine gw_aload_n C 0 d_F_isLeaf_8 rfl rfl ?_
    refine gw_get C in_F 1 wcg_1 clg_0 2 (by decide) tw_95 rfl rfl d_F_isLeaf_9 ?_
    refine gw_iload_n C 1 d_F_isLeaf_12 rfl rfl ?_
    obtain ⟨hb13, hf⟩ := gd_some hf
    refine gw_iald C 3 0 wcg_3 rfl hb13 d_F_isLeaf_13 ?_
    refine gw_iconst (v := (4 : Int32)) C d_F_isLeaf_14 (by decide) ?_
    refine gw_icmp_eq (tgt := 22) C d_F_isLeaf_15 (by decide) (fun c => ?_) (fun c => ?_)
    · have hf := (if_pos c).symm.trans hf
      refine gw_iconst (v := (0 : Int32)) C d_F_isLeaf_22 (by decide) ?_
      exact gw_zreti C d_F_isLeaf_23 (wc ad cI cZ cC) (by decide) hf
    · have hf := (if_neg c).symm.trans hf
      refine gw_iconst (v := (1 : Int32)) C d_F_isLeaf_18 (by decide) ?_
      refine gw_goto (tgt := 23) C d_F_isLeaf_19 (by decide) ?_
      exact gw_zreti C d_F_isLeaf_23 (wc ad cI cZ cC) (by decide) hf
theorem c_F_isLeaf (hZ : gw_ZOK Z) {x1 : Int32} {M : Mem} {r : Int32} {M' : Mem} (hf : f_F_isLeaf x1 M = some (r, M')) : CW l y_F_isLeaf ws_F_isLeaf rm_F_isLeaf D vwCl (tysW cI cZ cC) Z [.ref (ad 1), .int x1] (wc ad cI cZ cC M) (some (.int r)) (wc ad cI cZ cC M') 0 0 :=
  CW.ofG hZ (by decide) rfl (Nat.le_of_ble_eq_true rfl) (fun _ _ _ _ _ _ _ _ C _ => g_F_isLeaf C hf)
abbrev b_F_toldName : ByteArray := prog_2_method_9_code
def y_F_toldName : MethodName := ⟨"NoneWords$Facts", "toldName", "(I)I"⟩
abbrev ws_F_toldName : List Cond := Cond.code y_F_toldName b_F_toldName 2 (some (FieldType.int)) :: TB
set_option maxRecDepth 100000 in
theorem tc_F_toldName : Cond.code y_F_toldName b_F_toldName 2 (some (FieldType.int)) ∈ TB := inTB 550 rfl rfl
theorem mv_F_toldName : Cond.instanceMethod y_F_toldName ∈ TB ∧ Cond.selects "NoneWords$Facts" y_F_toldName y_F_toldName ∈ TB ∧ Cond.initialized "NoneWords$Facts" ∈ TB ∧ Cond.code y_F_toldName b_F_toldName 2 (some (FieldType.int)) ∈ TB := ⟨inTB 548 (by decide +kernel) (by decide +kernel), inTB 549 (by decide +kernel) (by decide +kernel), inTB 66 (by decide +kernel) (by decide +kernel), tc_F_toldName⟩
theorem pd_F_toldName : y_F_toldName.cls = "NoneWords$Facts" ∧ y_F_toldName.cls ≠ "java/lang/invoke/MethodHandle" ∧ y_F_toldName.cls ≠ "java/lang/invoke/VarHandle" ∧ (parseMethodDescriptor y_F_toldName.desc).map (fun d => d.parameters.length) = some 1 := by decide +kernel
theorem d_F_toldName_0 : decode b_F_toldName 0 = .ok (.aload_n 0, 1) := by decide +kernel
theorem d_F_toldName_1 : decode b_F_toldName 1 = .ok (.iload_n 1, 1) := by decide +kernel
theorem d_F_toldName_2 : decode b_F_toldName 2 = .ok (.invokevirtual 52, 3) := by decide +kernel
theorem d_F_toldName_5 : decode b_F_toldName 5 = .ok (.ifCond .eq 12, 3) := by decide +kernel
theorem d_F_toldName_8 : decode b_F_toldName 8 = .ok (.aload_n 0, 1) := by decide +kernel
theorem d_F_toldName_9 : decode b_F_toldName 9 = .ok (.getfield 25, 3) := by decide +kernel
theorem d_F_toldName_12 : decode b_F_toldName 12 = .ok (.iload_n 1, 1) := by decide +kernel
theorem d_F_toldName_13 : decode b_F_toldName 13 = .ok (.iaload, 1) := by decide +kernel
theorem d_F_toldName_14 : decode b_F_toldName 14 = .ok (.goto 4, 3) := by decide +kernel
theorem d_F_toldName_17 : decode b_F_toldName 17 = .ok (.iconst (-1), 1) := by decide +kernel
theorem d_F_toldName_18 : decode b_F_toldName 18 = .ok (.ireturn, 1) := by decide +kernel
abbrev rm_F_toldName : Room := { frames := 1, cells := 0, slots := 0, locals := 21 }
def f_F_toldName (x1 : Int32) (M : Mem) : Option (Int32 × Mem) :=
  ob (f_F_hasNode x1 M) fun r2 M2 => if r2 = 0 then some ((-1 : Int32), M2) else gd (inb x1 120) (some (M2 5 x1.toNatClampNeg, M2))
set_option maxRecDepth 100000 in
theorem g_F_toldName {r : Int32} {M' : Mem} (C : GC p s m args meth c b_F_toldName 2 (some (FieldType.int)) "NoneWords$Facts" TB D vwCl (tysW cI cZ cC) A Z) {x1 : Int32} {M : Mem} (hf : f_F_toldName x1 M = some (r, M')) : GW p l e rm_F_toldName s m args below meth c (MQ below (QW D vwCl (tysW cI cZ cC) A (some (.int r)) (wc ad cI cZ cC M')) args s 0 0 A) D vwCl A 2 0 0 (wc ad cI cZ cC M) 0 [(0, .ref (ad 1)), (1, .int x1)] [] := by
  unfold f_F_toldName at hf
  refine gw_aload_n C 0 d_F_toldName_0 rfl rfl ?_
  refine gw_iload_n C 1 d_F_toldName_1 rfl rfl ?_
  obtain ⟨r2, M2, hc2, hf⟩ := ob_some hf
  refine gw_callVr (rest := []) C 1 wcg_1 clg_0 (c_F_hasNode C.2.2.2.2.2.2.2.2.2.2 hc2) (cwV 1 C.2.2.2.2.1 (gTB_V tw_286 mv_F_hasNode) rfl rfl rfl pd_F_hasNode ⟨Nat.le_of_ble_eq_true rfl, Nat.le_of_ble_eq_true rfl⟩) rfl rfl (Nat.le_of_ble_eq_true rfl) d_F_toldName_2 ⟨Nat.le_of_ble_eq_true rfl, Nat.le_of_ble_eq_true rfl⟩ ?_
  refine gw_if_eq (tgt := 17) C d_F_toldName_5 (by decide) (fun c => ?_) (fun c => ?_)
  · have hf := (if_pos c).symm.trans hf
    refine gw_iconst (v := (-1 : Int32)) C d_F_toldName_17 (by decide) ?_
    exact gw_ireti C d_F_toldName_18 (wc ad cI cZ cC) hf
  · have hf := (if_neg c).symm.trans hf
    refine gw_aload_n C 0 d_F_toldName_8 rfl rfl ?_
    refine gw_get C in_F 1 wcg_1 clg_0 4 (by decide) tw_97 rfl rfl d_F_toldName_9 ?_
    refine gw_iload_n C 1 d_F_toldName_12 rfl rfl ?_
    obtain ⟨hb13, hf⟩ := gd_some hf
    refine gw_iald C 5 0 wcg_5 rfl hb13 d_F_toldName_13 ?_
    refine gw_goto (tgt := 18) C d_F_toldName_14 (by decide) ?_
    exact gw_ireti C d_F_toldName_18 (wc ad cI cZ cC) hf
theorem c_F_toldName (hZ : gw_ZOK Z) {x1 : Int32} {M : Mem} {r : Int32} {M' : Mem} (hf : f_F_toldName x1 M = some (r, M')) : CW l y_F_toldName ws_F_toldName rm_F_toldName D vwCl (tysW cI cZ cC) Z [.ref (ad 1), .int x1] (wc ad cI cZ cC M) (some (.int r)) (wc ad cI cZ cC M') 0 0 :=
  CW.ofG hZ (by decide) rfl (Nat.le_of_ble_eq_true rfl) (fun _ _ _ _ _ _ _ _ C _ => g_F_toldName C hf)
abbrev b_F_toldSet : ByteArray := prog_2_method_10_code
def y_F_toldSet : MethodName := ⟨"NoneWords$Facts", "toldSet", "(I)I"⟩
abbrev ws_F_toldSet : List Cond := Cond.code y_F_toldSet b_F_toldSet 2 (some (FieldType.int)) :: TB
set_option maxRecDepth 100000 in
theorem tc_F_toldSet : Cond.code y_F_toldSet b_F_toldSet 2 (some (FieldType.int)) ∈ TB := inTB 554 rfl rfl
theorem mv_F_toldSet : Cond.instanceMethod y_F_toldSet ∈ TB ∧ Cond.selects "NoneWords$Facts" y_F_toldSet y_F_toldSet ∈ TB ∧ Cond.initialized "NoneWords$Facts" ∈ TB ∧ Cond.code y_F_toldSet b_F_toldSet 2 (some (FieldType.int)) ∈ TB := ⟨inTB 552 (by decide +kernel) (by decide +kernel), inTB 553 (by decide +kernel) (by decide +kernel), inTB 66 (by decide +kernel) (by decide +kernel), tc_F_toldSet⟩
theorem pd_F_toldSet : y_F_toldSet.cls = "NoneWords$Facts" ∧ y_F_toldSet.cls ≠ "java/lang/invoke/MethodHandle" ∧ y_F_toldSet.cls ≠ "java/lang/invoke/VarHandle" ∧ (parseMethodDescriptor y_F_toldSet.desc).map (fun d => d.parameters.length) = some 1 := by decide +kernel
theorem d_F_toldSet_0 : decode b_F_toldSet 0 = .ok (.aload_n 0, 1) := by decide +kernel
theorem d_F_toldSet_1 : decode b_F_toldSet 1 = .ok (.iload_n 1, 1) := by decide +kernel
theorem d_F_toldSet_2 : decode b_F_toldSet 2 = .ok (.invokevirtual 52, 3) := by decide +kernel
theorem d_F_toldSet_5 : decode b_F_toldSet 5 = .ok (.ifCond .eq 12, 3) := by decide +kernel
theorem d_F_toldSet_8 : decode b_F_toldSet 8 = .ok (.aload_n 0, 1) := by decide +kernel
theorem d_F_toldSet_9 : decode b_F_toldSet 9 = .ok (.getfield 28, 3) := by decide +kernel
theorem d_F_toldSet_12 : decode b_F_toldSet 12 = .ok (.iload_n 1, 1) := by decide +kernel
theorem d_F_toldSet_13 : decode b_F_toldSet 13 = .ok (.iaload, 1) := by decide +kernel
theorem d_F_toldSet_14 : decode b_F_toldSet 14 = .ok (.goto 4, 3) := by decide +kernel
theorem d_F_toldSet_17 : decode b_F_toldSet 17 = .ok (.iconst 0, 1) := by decide +kernel
theorem d_F_toldSet_18 : decode b_F_toldSet 18 = .ok (.ireturn, 1) := by decide +kernel
abbrev rm_F_toldSet : Room := { frames := 1, cells := 0, slots := 0, locals := 21 }
def f_F_toldSet (x1 : Int32) (M : Mem) : Option (Int32 × Mem) :=
  ob (f_F_hasNode x1 M) fun r2 M2 => if r2 = 0 then some ((0 : Int32), M2) else gd (inb x1 120) (some (M2 6 x1.toNatClampNeg, M2))
set_option maxRecDepth 100000 in
theorem g_F_toldSet {r : Int32} {M' : Mem} (C : GC p s m args meth c b_F_toldSet 2 (some (FieldType.int)) "NoneWords$Facts" TB D vwCl (tysW cI cZ cC) A Z) {x1 : Int32} {M : Mem} (hf : f_F_toldSet x1 M = some (r, M')) : GW p l e rm_F_toldSet s m args below meth c (MQ below (QW D vwCl (tysW cI cZ cC) A (some (.int r)) (wc ad cI cZ cC M')) args s 0 0 A) D vwCl A 2 0 0 (wc ad cI cZ cC M) 0 [(0, .ref (ad 1)), (1, .int x1)] [] := by
  unfold f_F_toldSet at hf
  refine gw_aload_n C 0 d_F_toldSet_0 rfl rfl ?_
  refine gw_iload_n C 1 d_F_toldSet_1 rfl rfl ?_
  obtain ⟨r2, M2, hc2, hf⟩ := ob_some hf
  refine gw_callVr (rest := []) C 1 wcg_1 clg_0 (c_F_hasNode C.2.2.2.2.2.2.2.2.2.2 hc2) (cwV 1 C.2.2.2.2.1 (gTB_V tw_286 mv_F_hasNode) rfl rfl rfl pd_F_hasNode ⟨Nat.le_of_ble_eq_true rfl, Nat.le_of_ble_eq_true rfl⟩) rfl rfl (Nat.le_of_ble_eq_true rfl) d_F_toldSet_2 ⟨Nat.le_of_ble_eq_true rfl, Nat.le_of_ble_eq_true rfl⟩ ?_
  refine gw_if_eq (tgt := 17) C d_F_toldSet_5 (by decide) (fun c => ?_) (fun c => ?_)
  · have hf := (if_pos c).symm.trans hf
    refine gw_iconst (v := (0 : Int32)) C d_F_toldSet_17 (by decide) ?_
    exact gw_ireti C d_F_toldSet_18 (wc ad cI cZ cC) hf
  · have hf := (if_neg c).symm.trans hf
    refine gw_aload_n C 0 d_F_toldSet_8 rfl rfl ?_
    refine gw_get C in_F 1 wcg_1 clg_0 5 (by decide) tw_98 rfl rfl d_F_toldSet_9 ?_
    refine gw_iload_n C 1 d_F_toldSet_12 rfl rfl ?_
    obtain ⟨hb13, hf⟩ := gd_some hf
    refine gw_iald C 6 0 wcg_6 rfl hb13 d_F_toldSet_13 ?_
    refine gw_goto (tgt := 18) C d_F_toldSet_14 (by decide) ?_
    exact gw_ireti C d_F_toldSet_18 (wc ad cI cZ cC) hf
theorem c_F_toldSet (hZ : gw_ZOK Z) {x1 : Int32} {M : Mem} {r : Int32} {M' : Mem} (hf : f_F_toldSet x1 M = some (r, M')) : CW l y_F_toldSet ws_F_toldSet rm_F_toldSet D vwCl (tysW cI cZ cC) Z [.ref (ad 1), .int x1] (wc ad cI cZ cC M) (some (.int r)) (wc ad cI cZ cC M') 0 0 :=
  CW.ofG hZ (by decide) rfl (Nat.le_of_ble_eq_true rfl) (fun _ _ _ _ _ _ _ _ C _ => g_F_toldSet C hf)
abbrev b_F_toldOther : ByteArray := prog_2_method_11_code
def y_F_toldOther : MethodName := ⟨"NoneWords$Facts", "toldOther", "(I)I"⟩
abbrev ws_F_toldOther : List Cond := Cond.code y_F_toldOther b_F_toldOther 2 (some (FieldType.int)) :: TB
set_option maxRecDepth 100000 in
theorem tc_F_toldOther : Cond.code y_F_toldOther b_F_toldOther 2 (some (FieldType.int)) ∈ TB := inTB 564 rfl rfl
theorem mv_F_toldOther : Cond.instanceMethod y_F_toldOther ∈ TB ∧ Cond.selects "NoneWords$Facts" y_F_toldOther y_F_toldOther ∈ TB ∧ Cond.initialized "NoneWords$Facts" ∈ TB ∧ Cond.code y_F_toldOther b_F_toldOther 2 (some (FieldType.int)) ∈ TB := ⟨inTB 562 (by decide +kernel) (by decide +kernel), inTB 563 (by decide +kernel) (by decide +kernel), inTB 66 (by decide +kernel) (by decide +kernel), tc_F_toldOther⟩
theorem pd_F_toldOther : y_F_toldOther.cls = "NoneWords$Facts" ∧ y_F_toldOther.cls ≠ "java/lang/invoke/MethodHandle" ∧ y_F_toldOther.cls ≠ "java/lang/invoke/VarHandle" ∧ (parseMethodDescriptor y_F_toldOther.desc).map (fun d => d.parameters.length) = some 1 := by decide +kernel
theorem d_F_toldOther_0 : decode b_F_toldOther 0 = .ok (.aload_n 0, 1) := by decide +kernel
theorem d_F_toldOther_1 : decode b_F_toldOther 1 = .ok (.iload_n 1, 1) := by decide +kernel
theorem d_F_toldOther_2 : decode b_F_toldOther 2 = .ok (.invokevirtual 52, 3) := by decide +kernel
theorem d_F_toldOther_5 : decode b_F_toldOther 5 = .ok (.ifCond .eq 12, 3) := by decide +kernel
theorem d_F_toldOther_8 : decode b_F_toldOther 8 = .ok (.aload_n 0, 1) := by decide +kernel
theorem d_F_toldOther_9 : decode b_F_toldOther 9 = .ok (.getfield 31, 3) := by decide +kernel
theorem d_F_toldOther_12 : decode b_F_toldOther 12 = .ok (.iload_n 1, 1) := by decide +kernel
theorem d_F_toldOther_13 : decode b_F_toldOther 13 = .ok (.iaload, 1) := by decide +kernel
theorem d_F_toldOther_14 : decode b_F_toldOther 14 = .ok (.goto 4, 3) := by decide +kernel
theorem d_F_toldOther_17 : decode b_F_toldOther 17 = .ok (.iconst (-1), 1) := by decide +kernel
theorem d_F_toldOther_18 : decode b_F_toldOther 18 = .ok (.ireturn, 1) := by decide +kernel
abbrev rm_F_toldOther : Room := { frames := 1, cells := 0, slots := 0, locals := 21 }
def f_F_toldOther (x1 : Int32) (M : Mem) : Option (Int32 × Mem) :=
  ob (f_F_hasNode x1 M) fun r2 M2 => if r2 = 0 then some ((-1 : Int32), M2) else gd (inb x1 120) (some (M2 7 x1.toNatClampNeg, M2))
set_option maxRecDepth 100000 in
theorem g_F_toldOther {r : Int32} {M' : Mem} (C : GC p s m args meth c b_F_toldOther 2 (some (FieldType.int)) "NoneWords$Facts" TB D vwCl (tysW cI cZ cC) A Z) {x1 : Int32} {M : Mem} (hf : f_F_toldOther x1 M = some (r, M')) : GW p l e rm_F_toldOther s m args below meth c (MQ below (QW D vwCl (tysW cI cZ cC) A (some (.int r)) (wc ad cI cZ cC M')) args s 0 0 A) D vwCl A 2 0 0 (wc ad cI cZ cC M) 0 [(0, .ref (ad 1)), (1, .int x1)] [] := by
  unfold f_F_toldOther at hf
  refine gw_aload_n C 0 d_F_toldOther_0 rfl rfl ?_
  refine gw_iload_n C 1 d_F_toldOther_1 rfl rfl ?_
  obtain ⟨r2, M2, hc2, hf⟩ := ob_some hf
  refine gw_callVr (rest := []) C 1 wcg_1 clg_0 (c_F_hasNode C.2.2.2.2.2.2.2.2.2.2 hc2) (cwV 1 C.2.2.2.2.1 (gTB_V tw_286 mv_F_hasNode) rfl rfl rfl pd_F_hasNode ⟨Nat.le_of_ble_eq_true rfl, Nat.le_of_ble_eq_true rfl⟩) rfl rfl (Nat.le_of_ble_eq_true rfl) d_F_toldOther_2 ⟨Nat.le_of_ble_eq_true rfl, Nat.le_of_ble_eq_true rfl⟩ ?_
  refine gw_if_eq (tgt := 17) C d_F_toldOther_5 (by decide) (fun c => ?_) (fun c => ?_)
  · have hf := (if_pos c).symm.trans hf
    refine gw_iconst (v := (-1 : Int32)) C d_F_toldOther_17 (by decide) ?_
    exact gw_ireti C d_F_toldOther_18 (wc ad cI cZ cC) hf
  · have hf := (if_neg c).symm.trans hf
    refine gw_aload_n C 0 d_F_toldOther_8 rfl rfl ?_
    refine gw_get C in_F 1 wcg_1 clg_0 6 (by decide) tw_99 rfl rfl d_F_toldOther_9 ?_
    refine gw_iload_n C 1 d_F_toldOther_12 rfl rfl ?_
    obtain ⟨hb13, hf⟩ := gd_some hf
    refine gw_iald C 7 0 wcg_7 rfl hb13 d_F_toldOther_13 ?_
    refine gw_goto (tgt := 18) C d_F_toldOther_14 (by decide) ?_
    exact gw_ireti C d_F_toldOther_18 (wc ad cI cZ cC) hf
theorem c_F_toldOther (hZ : gw_ZOK Z) {x1 : Int32} {M : Mem} {r : Int32} {M' : Mem} (hf : f_F_toldOther x1 M = some (r, M')) : CW l y_F_toldOther ws_F_toldOther rm_F_toldOther D vwCl (tysW cI cZ cC) Z [.ref (ad 1), .int x1] (wc ad cI cZ cC M) (some (.int r)) (wc ad cI cZ cC M') 0 0 :=
  CW.ofG hZ (by decide) rfl (Nat.le_of_ble_eq_true rfl) (fun _ _ _ _ _ _ _ _ C _ => g_F_toldOther C hf)
abbrev b_F_toldOtherSet : ByteArray := prog_2_method_12_code
def y_F_toldOtherSet : MethodName := ⟨"NoneWords$Facts", "toldOtherSet", "(I)I"⟩
abbrev ws_F_toldOtherSet : List Cond := Cond.code y_F_toldOtherSet b_F_toldOtherSet 2 (some (FieldType.int)) :: TB
set_option maxRecDepth 100000 in
theorem tc_F_toldOtherSet : Cond.code y_F_toldOtherSet b_F_toldOtherSet 2 (some (FieldType.int)) ∈ TB := inTB 568 rfl rfl
theorem mv_F_toldOtherSet : Cond.instanceMethod y_F_toldOtherSet ∈ TB ∧ Cond.selects "NoneWords$Facts" y_F_toldOtherSet y_F_toldOtherSet ∈ TB ∧ Cond.initialized "NoneWords$Facts" ∈ TB ∧ Cond.code y_F_toldOtherSet b_F_toldOtherSet 2 (some (FieldType.int)) ∈ TB := ⟨inTB 566 (by decide +kernel) (by decide +kernel), inTB 567 (by decide +kernel) (by decide +kernel), inTB 66 (by decide +kernel) (by decide +kernel), tc_F_toldOtherSet⟩
theorem pd_F_toldOtherSet : y_F_toldOtherSet.cls = "NoneWords$Facts" ∧ y_F_toldOtherSet.cls ≠ "java/lang/invoke/MethodHandle" ∧ y_F_toldOtherSet.cls ≠ "java/lang/invoke/VarHandle" ∧ (parseMethodDescriptor y_F_toldOtherSet.desc).map (fun d => d.parameters.length) = some 1 := by decide +kernel
theorem d_F_toldOtherSet_0 : decode b_F_toldOtherSet 0 = .ok (.aload_n 0, 1) := by decide +kernel
theorem d_F_toldOtherSet_1 : decode b_F_toldOtherSet 1 = .ok (.iload_n 1, 1) := by decide +kernel
theorem d_F_toldOtherSet_2 : decode b_F_toldOtherSet 2 = .ok (.invokevirtual 52, 3) := by decide +kernel
theorem d_F_toldOtherSet_5 : decode b_F_toldOtherSet 5 = .ok (.ifCond .eq 12, 3) := by decide +kernel
theorem d_F_toldOtherSet_8 : decode b_F_toldOtherSet 8 = .ok (.aload_n 0, 1) := by decide +kernel
theorem d_F_toldOtherSet_9 : decode b_F_toldOtherSet 9 = .ok (.getfield 34, 3) := by decide +kernel
theorem d_F_toldOtherSet_12 : decode b_F_toldOtherSet 12 = .ok (.iload_n 1, 1) := by decide +kernel
theorem d_F_toldOtherSet_13 : decode b_F_toldOtherSet 13 = .ok (.iaload, 1) := by decide +kernel
theorem d_F_toldOtherSet_14 : decode b_F_toldOtherSet 14 = .ok (.goto 4, 3) := by decide +kernel
theorem d_F_toldOtherSet_17 : decode b_F_toldOtherSet 17 = .ok (.iconst 0, 1) := by decide +kernel
theorem d_F_toldOtherSet_18 : decode b_F_toldOtherSet 18 = .ok (.ireturn, 1) := by decide +kernel
abbrev rm_F_toldOtherSet : Room := { frames := 1, cells := 0, slots := 0, locals := 21 }
def f_F_toldOtherSet (x1 : Int32) (M : Mem) : Option (Int32 × Mem) :=
  ob (f_F_hasNode x1 M) fun r2 M2 => if r2 = 0 then some ((0 : Int32), M2) else gd (inb x1 120) (some (M2 8 x1.toNatClampNeg, M2))
set_option maxRecDepth 100000 in
theorem g_F_toldOtherSet {r : Int32} {M' : Mem} (C : GC p s m args meth c b_F_toldOtherSet 2 (some (FieldType.int)) "NoneWords$Facts" TB D vwCl (tysW cI cZ cC) A Z) {x1 : Int32} {M : Mem} (hf : f_F_toldOtherSet x1 M = some (r, M')) : GW p l e rm_F_toldOtherSet s m args below meth c (MQ below (QW D vwCl (tysW cI cZ cC) A (some (.int r)) (wc ad cI cZ cC M')) args s 0 0 A) D vwCl A 2 0 0 (wc ad cI cZ cC M) 0 [(0, .ref (ad 1)), (1, .int x1)] [] := by
  unfold f_F_toldOtherSet at hf
  refine gw_aload_n C 0 d_F_toldOtherSet_0 rfl rfl ?_
  refine gw_iload_n C 1 d_F_toldOtherSet_1 rfl rfl ?_
  obtain ⟨r2, M2, hc2, hf⟩ := ob_some hf
  refine gw_callVr (rest := []) C 1 wcg_1 clg_0 (c_F_hasNode C.2.2.2.2.2.2.2.2.2.2 hc2) (cwV 1 C.2.2.2.2.1 (gTB_V tw_286 mv_F_hasNode) rfl rfl rfl pd_F_hasNode ⟨Nat.le_of_ble_eq_true rfl, Nat.le_of_ble_eq_true rfl⟩) rfl rfl (Nat.le_of_ble_eq_true rfl) d_F_toldOtherSet_2 ⟨Nat.le_of_ble_eq_true rfl, Nat.le_of_ble_eq_true rfl⟩ ?_
  refine gw_if_eq (tgt := 17) C d_F_toldOtherSet_5 (by decide) (fun c => ?_) (fun c => ?_)
  · have hf := (if_pos c).symm.trans hf
    refine gw_iconst (v := (0 : Int32)) C d_F_toldOtherSet_17 (by decide) ?_
    exact gw_ireti C d_F_toldOtherSet_18 (wc ad cI cZ cC) hf
  · have hf := (if_neg c).symm.trans hf
    refine gw_aload_n C 0 d_F_toldOtherSet_8 rfl rfl ?_
    refine gw_get C in_F 1 wcg_1 clg_0 7 (by decide) tw_100 rfl rfl d_F_toldOtherSet_9 ?_
    refine gw_iload_n C 1 d_F_toldOtherSet_12 rfl rfl ?_
    obtain ⟨hb13, hf⟩ := gd_some hf
    refine gw_iald C 8 0 wcg_8 rfl hb13 d_F_toldOtherSet_13 ?_
    refine gw_goto (tgt := 18) C d_F_toldOtherSet_14 (by decide) ?_
    exact gw_ireti C d_F_toldOtherSet_18 (wc ad cI cZ cC) hf
theorem c_F_toldOtherSet (hZ : gw_ZOK Z) {x1 : Int32} {M : Mem} {r : Int32} {M' : Mem} (hf : f_F_toldOtherSet x1 M = some (r, M')) : CW l y_F_toldOtherSet ws_F_toldOtherSet rm_F_toldOtherSet D vwCl (tysW cI cZ cC) Z [.ref (ad 1), .int x1] (wc ad cI cZ cC M) (some (.int r)) (wc ad cI cZ cC M') 0 0 :=
  CW.ofG hZ (by decide) rfl (Nat.le_of_ble_eq_true rfl) (fun _ _ _ _ _ _ _ _ C _ => g_F_toldOtherSet C hf)
abbrev b_F_leftPart : ByteArray := prog_2_method_13_code
def y_F_leftPart : MethodName := ⟨"NoneWords$Facts", "leftPart", "(I)I"⟩
abbrev ws_F_leftPart : List Cond := Cond.code y_F_leftPart b_F_leftPart 2 (some (FieldType.int)) :: TB
set_option maxRecDepth 100000 in
theorem tc_F_leftPart : Cond.code y_F_leftPart b_F_leftPart 2 (some (FieldType.int)) ∈ TB := inTB 340 rfl rfl
theorem mv_F_leftPart : Cond.instanceMethod y_F_leftPart ∈ TB ∧ Cond.selects "NoneWords$Facts" y_F_leftPart y_F_leftPart ∈ TB ∧ Cond.initialized "NoneWords$Facts" ∈ TB ∧ Cond.code y_F_leftPart b_F_leftPart 2 (some (FieldType.int)) ∈ TB := ⟨inTB 338 (by decide +kernel) (by decide +kernel), inTB 339 (by decide +kernel) (by decide +kernel), inTB 66 (by decide +kernel) (by decide +kernel), tc_F_leftPart⟩
theorem pd_F_leftPart : y_F_leftPart.cls = "NoneWords$Facts" ∧ y_F_leftPart.cls ≠ "java/lang/invoke/MethodHandle" ∧ y_F_leftPart.cls ≠ "java/lang/invoke/VarHandle" ∧ (parseMethodDescriptor y_F_leftPart.desc).map (fun d => d.parameters.length) = some 1 := by decide +kernel
theorem d_F_leftPart_0 : decode b_F_leftPart 0 = .ok (.aload_n 0, 1) := by decide +kernel
theorem d_F_leftPart_1 : decode b_F_leftPart 1 = .ok (.iload_n 1, 1) := by decide +kernel
theorem d_F_leftPart_2 : decode b_F_leftPart 2 = .ok (.invokevirtual 52, 3) := by decide +kernel
theorem d_F_leftPart_5 : decode b_F_leftPart 5 = .ok (.ifCond .eq 12, 3) := by decide +kernel
theorem d_F_leftPart_8 : decode b_F_leftPart 8 = .ok (.aload_n 0, 1) := by decide +kernel
theorem d_F_leftPart_9 : decode b_F_leftPart 9 = .ok (.getfield 37, 3) := by decide +kernel
theorem d_F_leftPart_12 : decode b_F_leftPart 12 = .ok (.iload_n 1, 1) := by decide +kernel
theorem d_F_leftPart_13 : decode b_F_leftPart 13 = .ok (.iaload, 1) := by decide +kernel
theorem d_F_leftPart_14 : decode b_F_leftPart 14 = .ok (.goto 4, 3) := by decide +kernel
theorem d_F_leftPart_17 : decode b_F_leftPart 17 = .ok (.iconst (-1), 1) := by decide +kernel
theorem d_F_leftPart_18 : decode b_F_leftPart 18 = .ok (.ireturn, 1) := by decide +kernel
abbrev rm_F_leftPart : Room := { frames := 1, cells := 0, slots := 0, locals := 21 }
def f_F_leftPart (x1 : Int32) (M : Mem) : Option (Int32 × Mem) :=
  ob (f_F_hasNode x1 M) fun r2 M2 => if r2 = 0 then some ((-1 : Int32), M2) else gd (inb x1 120) (some (M2 9 x1.toNatClampNeg, M2))
set_option maxRecDepth 100000 in
theorem g_F_leftPart {r : Int32} {M' : Mem} (C : GC p s m args meth c b_F_leftPart 2 (some (FieldType.int)) "NoneWords$Facts" TB D vwCl (tysW cI cZ cC) A Z) {x1 : Int32} {M : Mem} (hf : f_F_leftPart x1 M = some (r, M')) : GW p l e rm_F_leftPart s m args below meth c (MQ below (QW D vwCl (tysW cI cZ cC) A (some (.int r)) (wc ad cI cZ cC M')) args s 0 0 A) D vwCl A 2 0 0 (wc ad cI cZ cC M) 0 [(0, .ref (ad 1)), (1, .int x1)] [] := by
  unfold f_F_leftPart at hf
  refine gw_aload_n C 0 d_F_leftPart_0 rfl rfl ?_
  refine gw_iload_n C 1 d_F_leftPart_1 rfl rfl ?_
  obtain ⟨r2, M2, hc2, hf⟩ := ob_some hf
  refine gw_callVr (rest := []) C 1 wcg_1 clg_0 (c_F_hasNode C.2.2.2.2.2.2.2.2.2.2 hc2) (cwV 1 C.2.2.2.2.1 (gTB_V tw_286 mv_F_hasNode) rfl rfl rfl pd_F_hasNode ⟨Nat.le_of_ble_eq_true rfl, Nat.le_of_ble_eq_true rfl⟩) rfl rfl (Nat.le_of_ble_eq_true rfl) d_F_leftPart_2 ⟨Nat.le_of_ble_eq_true rfl, Nat.le_of_ble_eq_true rfl⟩ ?_
  refine gw_if_eq (tgt := 17) C d_F_leftPart_5 (by decide) (fun c => ?_) (fun c => ?_)
  · have hf := (if_pos c).symm.trans hf
    refine gw_iconst (v := (-1 : Int32)) C d_F_leftPart_17 (by decide) ?_
    exact gw_ireti C d_F_leftPart_18 (wc ad cI cZ cC) hf
  · have hf := (if_neg c).symm.trans hf
    refine gw_aload_n C 0 d_F_leftPart_8 rfl rfl ?_
    refine gw_get C in_F 1 wcg_1 clg_0 8 (by decide) tw_101 rfl rfl d_F_leftPart_9 ?_
    refine gw_iload_n C 1 d_F_leftPart_12 rfl rfl ?_
    obtain ⟨hb13, hf⟩ := gd_some hf
    refine gw_iald C 9 0 wcg_9 rfl hb13 d_F_leftPart_13 ?_
    refine gw_goto (tgt := 18) C d_F_leftPart_14 (by decide) ?_
    exact gw_ireti C d_F_leftPart_18 (wc ad cI cZ cC) hf
theorem c_F_leftPart (hZ : gw_ZOK Z) {x1 : Int32} {M : Mem} {r : Int32} {M' : Mem} (hf : f_F_leftPart x1 M = some (r, M')) : CW l y_F_leftPart ws_F_leftPart rm_F_leftPart D vwCl (tysW cI cZ cC) Z [.ref (ad 1), .int x1] (wc ad cI cZ cC M) (some (.int r)) (wc ad cI cZ cC M') 0 0 :=
  CW.ofG hZ (by decide) rfl (Nat.le_of_ble_eq_true rfl) (fun _ _ _ _ _ _ _ _ C _ => g_F_leftPart C hf)
abbrev b_F_rightPart : ByteArray := prog_2_method_14_code
def y_F_rightPart : MethodName := ⟨"NoneWords$Facts", "rightPart", "(I)I"⟩
abbrev ws_F_rightPart : List Cond := Cond.code y_F_rightPart b_F_rightPart 2 (some (FieldType.int)) :: TB
set_option maxRecDepth 100000 in
theorem tc_F_rightPart : Cond.code y_F_rightPart b_F_rightPart 2 (some (FieldType.int)) ∈ TB := inTB 349 rfl rfl
theorem mv_F_rightPart : Cond.instanceMethod y_F_rightPart ∈ TB ∧ Cond.selects "NoneWords$Facts" y_F_rightPart y_F_rightPart ∈ TB ∧ Cond.initialized "NoneWords$Facts" ∈ TB ∧ Cond.code y_F_rightPart b_F_rightPart 2 (some (FieldType.int)) ∈ TB := ⟨inTB 347 (by decide +kernel) (by decide +kernel), inTB 348 (by decide +kernel) (by decide +kernel), inTB 66 (by decide +kernel) (by decide +kernel), tc_F_rightPart⟩
theorem pd_F_rightPart : y_F_rightPart.cls = "NoneWords$Facts" ∧ y_F_rightPart.cls ≠ "java/lang/invoke/MethodHandle" ∧ y_F_rightPart.cls ≠ "java/lang/invoke/VarHandle" ∧ (parseMethodDescriptor y_F_rightPart.desc).map (fun d => d.parameters.length) = some 1 := by decide +kernel
theorem d_F_rightPart_0 : decode b_F_rightPart 0 = .ok (.aload_n 0, 1) := by decide +kernel
theorem d_F_rightPart_1 : decode b_F_rightPart 1 = .ok (.iload_n 1, 1) := by decide +kernel
theorem d_F_rightPart_2 : decode b_F_rightPart 2 = .ok (.invokevirtual 52, 3) := by decide +kernel
theorem d_F_rightPart_5 : decode b_F_rightPart 5 = .ok (.ifCond .eq 12, 3) := by decide +kernel
theorem d_F_rightPart_8 : decode b_F_rightPart 8 = .ok (.aload_n 0, 1) := by decide +kernel
theorem d_F_rightPart_9 : decode b_F_rightPart 9 = .ok (.getfield 40, 3) := by decide +kernel
theorem d_F_rightPart_12 : decode b_F_rightPart 12 = .ok (.iload_n 1, 1) := by decide +kernel
theorem d_F_rightPart_13 : decode b_F_rightPart 13 = .ok (.iaload, 1) := by decide +kernel
theorem d_F_rightPart_14 : decode b_F_rightPart 14 = .ok (.goto 4, 3) := by decide +kernel
theorem d_F_rightPart_17 : decode b_F_rightPart 17 = .ok (.iconst (-1), 1) := by decide +kernel
theorem d_F_rightPart_18 : decode b_F_rightPart 18 = .ok (.ireturn, 1) := by decide +kernel
abbrev rm_F_rightPart : Room := { frames := 1, cells := 0, slots := 0, locals := 21 }
def f_F_rightPart (x1 : Int32) (M : Mem) : Option (Int32 × Mem) :=
  ob (f_F_hasNode x1 M) fun r2 M2 => if r2 = 0 then some ((-1 : Int32), M2) else gd (inb x1 120) (some (M2 10 x1.toNatClampNeg, M2))
set_option maxRecDepth 100000 in
theorem g_F_rightPart {r : Int32} {M' : Mem} (C : GC p s m args meth c b_F_rightPart 2 (some (FieldType.int)) "NoneWords$Facts" TB D vwCl (tysW cI cZ cC) A Z) {x1 : Int32} {M : Mem} (hf : f_F_rightPart x1 M = some (r, M')) : GW p l e rm_F_rightPart s m args below meth c (MQ below (QW D vwCl (tysW cI cZ cC) A (some (.int r)) (wc ad cI cZ cC M')) args s 0 0 A) D vwCl A 2 0 0 (wc ad cI cZ cC M) 0 [(0, .ref (ad 1)), (1, .int x1)] [] := by
  unfold f_F_rightPart at hf
  refine gw_aload_n C 0 d_F_rightPart_0 rfl rfl ?_
  refine gw_iload_n C 1 d_F_rightPart_1 rfl rfl ?_
  obtain ⟨r2, M2, hc2, hf⟩ := ob_some hf
  refine gw_callVr (rest := []) C 1 wcg_1 clg_0 (c_F_hasNode C.2.2.2.2.2.2.2.2.2.2 hc2) (cwV 1 C.2.2.2.2.1 (gTB_V tw_286 mv_F_hasNode) rfl rfl rfl pd_F_hasNode ⟨Nat.le_of_ble_eq_true rfl, Nat.le_of_ble_eq_true rfl⟩) rfl rfl (Nat.le_of_ble_eq_true rfl) d_F_rightPart_2 ⟨Nat.le_of_ble_eq_true rfl, Nat.le_of_ble_eq_true rfl⟩ ?_
  refine gw_if_eq (tgt := 17) C d_F_rightPart_5 (by decide) (fun c => ?_) (fun c => ?_)
  · have hf := (if_pos c).symm.trans hf
    refine gw_iconst (v := (-1 : Int32)) C d_F_rightPart_17 (by decide) ?_
    exact gw_ireti C d_F_rightPart_18 (wc ad cI cZ cC) hf
  · have hf := (if_neg c).symm.trans hf
    refine gw_aload_n C 0 d_F_rightPart_8 rfl rfl ?_
    refine gw_get C in_F 1 wcg_1 clg_0 9 (by decide) tw_102 rfl rfl d_F_rightPart_9 ?_
    refine gw_iload_n C 1 d_F_rightPart_12 rfl rfl ?_
    obtain ⟨hb13, hf⟩ := gd_some hf
    refine gw_iald C 10 0 wcg_10 rfl hb13 d_F_rightPart_13 ?_
    refine gw_goto (tgt := 18) C d_F_rightPart_14 (by decide) ?_
    exact gw_ireti C d_F_rightPart_18 (wc ad cI cZ cC) hf
theorem c_F_rightPart (hZ : gw_ZOK Z) {x1 : Int32} {M : Mem} {r : Int32} {M' : Mem} (hf : f_F_rightPart x1 M = some (r, M')) : CW l y_F_rightPart ws_F_rightPart rm_F_rightPart D vwCl (tysW cI cZ cC) Z [.ref (ad 1), .int x1] (wc ad cI cZ cC M) (some (.int r)) (wc ad cI cZ cC M') 0 0 :=
  CW.ofG hZ (by decide) rfl (Nat.le_of_ble_eq_true rfl) (fun _ _ _ _ _ _ _ _ C _ => g_F_rightPart C hf)
abbrev b_F_isSimple : ByteArray := prog_2_method_15_code
def y_F_isSimple : MethodName := ⟨"NoneWords$Facts", "isSimple", "(I)Z"⟩
abbrev ws_F_isSimple : List Cond := Cond.code y_F_isSimple b_F_isSimple 2 (some (FieldType.boolean)) :: TB
set_option maxRecDepth 100000 in
theorem tc_F_isSimple : Cond.code y_F_isSimple b_F_isSimple 2 (some (FieldType.boolean)) ∈ TB := inTB 393 rfl rfl
theorem mv_F_isSimple : Cond.instanceMethod y_F_isSimple ∈ TB ∧ Cond.selects "NoneWords$Facts" y_F_isSimple y_F_isSimple ∈ TB ∧ Cond.initialized "NoneWords$Facts" ∈ TB ∧ Cond.code y_F_isSimple b_F_isSimple 2 (some (FieldType.boolean)) ∈ TB := ⟨inTB 391 (by decide +kernel) (by decide +kernel), inTB 392 (by decide +kernel) (by decide +kernel), inTB 66 (by decide +kernel) (by decide +kernel), tc_F_isSimple⟩
theorem pd_F_isSimple : y_F_isSimple.cls = "NoneWords$Facts" ∧ y_F_isSimple.cls ≠ "java/lang/invoke/MethodHandle" ∧ y_F_isSimple.cls ≠ "java/lang/invoke/VarHandle" ∧ (parseMethodDescriptor y_F_isSimple.desc).map (fun d => d.parameters.length) = some 1 := by decide +kernel
theorem d_F_isSimple_0 : decode b_F_isSimple 0 = .ok (.aload_n 0, 1) := by decide +kernel
theorem d_F_isSimple_1 : decode b_F_isSimple 1 = .ok (.aload_n 0, 1) := by decide +kernel
theorem d_F_isSimple_2 : decode b_F_isSimple 2 = .ok (.iload_n 1, 1) := by decide +kernel
theorem d_F_isSimple_3 : decode b_F_isSimple 3 = .ok (.invokevirtual 56, 3) := by decide +kernel
theorem d_F_isSimple_6 : decode b_F_isSimple 6 = .ok (.invokevirtual 60, 3) := by decide +kernel
theorem d_F_isSimple_9 : decode b_F_isSimple 9 = .ok (.ifCond .eq 19, 3) := by decide +kernel
theorem d_F_isSimple_12 : decode b_F_isSimple 12 = .ok (.aload_n 0, 1) := by decide +kernel
theorem d_F_isSimple_13 : decode b_F_isSimple 13 = .ok (.aload_n 0, 1) := by decide +kernel
theorem d_F_isSimple_14 : decode b_F_isSimple 14 = .ok (.iload_n 1, 1) := by decide +kernel
theorem d_F_isSimple_15 : decode b_F_isSimple 15 = .ok (.invokevirtual 63, 3) := by decide +kernel
theorem d_F_isSimple_18 : decode b_F_isSimple 18 = .ok (.invokevirtual 60, 3) := by decide +kernel
theorem d_F_isSimple_21 : decode b_F_isSimple 21 = .ok (.ifCond .eq 7, 3) := by decide +kernel
theorem d_F_isSimple_24 : decode b_F_isSimple 24 = .ok (.iconst 1, 1) := by decide +kernel
theorem d_F_isSimple_25 : decode b_F_isSimple 25 = .ok (.goto 4, 3) := by decide +kernel
theorem d_F_isSimple_28 : decode b_F_isSimple 28 = .ok (.iconst 0, 1) := by decide +kernel
theorem d_F_isSimple_29 : decode b_F_isSimple 29 = .ok (.ireturn, 1) := by decide +kernel
abbrev rm_F_isSimple : Room := { frames := 2, cells := 0, slots := 0, locals := 42 }
def f_F_isSimple (x1 : Int32) (M : Mem) : Option (Int32 × Mem) :=
  ob (f_F_leftPart x1 M) fun r3 M3 => ob (f_F_isLeaf r3 M3) fun r6 M6 => if r6 = 0 then some ((0 : Int32), M6) else ob (f_F_rightPart x1 M6) fun r15 M15 => ob (f_F_isLeaf r15 M15) fun r18 M18 => if r18 = 0 then some ((0 : Int32), M18) else some ((1 : Int32), M18)
set_option maxRecDepth 100000 in
theorem g_F_isSimple {r : Int32} {M' : Mem} (C : GC p s m args meth c b_F_isSimple 2 (some (FieldType.boolean)) "NoneWords$Facts" TB D vwCl (tysW cI cZ cC) A Z) {x1 : Int32} {M : Mem} (hf : f_F_isSimple x1 M = some (r, M')) : GW p l e rm_F_isSimple s m args below meth c (MQ below (QW D vwCl (tysW cI cZ cC) A (some (.int r)) (wc ad cI cZ cC M')) args s 0 0 A) D vwCl A 2 0 0 (wc ad cI cZ cC M) 0 [(0, .ref (ad 1)), (1, .int x1)] [] := by
  unfold f_F_isSimple at hf
  refine gw_aload_n C 0 d_F_isSimple_0 rfl rfl ?_
  refine gw_aload_n C 0 d_F_isSimple_1 rfl rfl ?_
  refine gw_iload_n C 1 d_F_isSimple_2 rfl rfl ?_
  obtain ⟨r3, M3, hc3, hf⟩ := ob_some hf
  refine gw_callVr (rest := [.ref (ad 1)]) C 1 wcg_1 clg_0 (c_F_leftPart C.2.2.2.2.2.2.2.2.2.2 hc3) (cwV 1 C.2.2.2.2.1 (gTB_V tw_394 mv_F_leftPart) rfl rfl rfl pd_F_leftPart ⟨Nat.le_of_ble_eq_true rfl, Nat.le_of_ble_eq_true rfl⟩) rfl rfl (Nat.le_of_ble_eq_true rfl) d_F_isSimple_3 ⟨Nat.le_of_ble_eq_true rfl, Nat.le_of_ble_eq_true rfl⟩ ?_
  obtain ⟨r6, M6, hc6, hf⟩ := ob_some hf
  refine gw_callVr (rest := []) C 1 wcg_1 clg_0 (c_F_isLeaf C.2.2.2.2.2.2.2.2.2.2 hc6) (cwV 1 C.2.2.2.2.1 (gTB_V tw_395 mv_F_isLeaf) rfl rfl rfl pd_F_isLeaf ⟨Nat.le_of_ble_eq_true rfl, Nat.le_of_ble_eq_true rfl⟩) rfl rfl (Nat.le_of_ble_eq_true rfl) d_F_isSimple_6 ⟨Nat.le_of_ble_eq_true rfl, Nat.le_of_ble_eq_true rfl⟩ ?_
  refine gw_if_eq (tgt := 28) C d_F_isSimple_9 (by decide) (fun c => ?_) (fun c => ?_)
  · have hf := (if_pos c).symm.trans hf
    refine gw_iconst (v := (0 : Int32)) C d_F_isSimple_28 (by decide) ?_
    exact gw_zreti C d_F_isSimple_29 (wc ad cI cZ cC) (by decide) hf
  · have hf := (if_neg c).symm.trans hf
    refine gw_aload_n C 0 d_F_isSimple_12 rfl rfl ?_
    refine gw_aload_n C 0 d_F_isSimple_13 rfl rfl ?_
    refine gw_iload_n C 1 d_F_isSimple_14 rfl rfl ?_
    obtain ⟨r15, M15, hc15, hf⟩ := ob_some hf
    refine gw_callVr (rest := [.ref (ad 1)]) C 1 wcg_1 clg_0 (c_F_rightPart C.2.2.2.2.2.2.2.2.2.2 hc15) (cwV 1 C.2.2.2.2.1 (gTB_V tw_399 mv_F_rightPart) rfl rfl rfl pd_F_rightPart ⟨Nat.le_of_ble_eq_true rfl, Nat.le_of_ble_eq_true rfl⟩) rfl rfl (Nat.le_of_ble_eq_true rfl) d_F_isSimple_15 ⟨Nat.le_of_ble_eq_true rfl, Nat.le_of_ble_eq_true rfl⟩ ?_
    obtain ⟨r18, M18, hc18, hf⟩ := ob_some hf
    refine gw_callVr (rest := []) C 1 wcg_1 clg_0 (c_F_isLeaf C.2.2.2.2.2.2.2.2.2.2 hc18) (cwV 1 C.2.2.2.2.1 (gTB_V tw_395 mv_F_isLeaf) rfl rfl rfl pd_F_isLeaf ⟨Nat.le_of_ble_eq_true rfl, Nat.le_of_ble_eq_true rfl⟩) rfl rfl (Nat.le_of_ble_eq_true rfl) d_F_isSimple_18 ⟨Nat.le_of_ble_eq_true rfl, Nat.le_of_ble_eq_true rfl⟩ ?_
    refine gw_if_eq (tgt := 28) C d_F_isSimple_21 (by decide) (fun c => ?_) (fun c => ?_)
    · have hf := (if_pos c).symm.trans hf
      refine gw_iconst (v := (0 : Int32)) C d_F_isSimple_28 (by decide) ?_
      exact gw_zreti C d_F_isSimple_29 (wc ad cI cZ cC) (by decide) hf
    · have hf := (if_neg c).symm.trans hf
      refine gw_iconst (v := (1 : Int32)) C d_F_isSimple_24 (by decide) ?_
      refine gw_goto (tgt := 29) C d_F_isSimple_25 (by decide) ?_
      exact gw_zreti C d_F_isSimple_29 (wc ad cI cZ cC) (by decide) hf
theorem c_F_isSimple (hZ : gw_ZOK Z) {x1 : Int32} {M : Mem} {r : Int32} {M' : Mem} (hf : f_F_isSimple x1 M = some (r, M')) : CW l y_F_isSimple ws_F_isSimple rm_F_isSimple D vwCl (tysW cI cZ cC) Z [.ref (ad 1), .int x1] (wc ad cI cZ cC M) (some (.int r)) (wc ad cI cZ cC M') 0 0 :=
  CW.ofG hZ (by decide) rfl (Nat.le_of_ble_eq_true rfl) (fun _ _ _ _ _ _ _ _ C _ => g_F_isSimple C hf)
abbrev b_F_leafPart : ByteArray := prog_2_method_16_code
def y_F_leafPart : MethodName := ⟨"NoneWords$Facts", "leafPart", "(I)I"⟩
abbrev ws_F_leafPart : List Cond := Cond.code y_F_leafPart b_F_leafPart 4 (some (FieldType.int)) :: TB
set_option maxRecDepth 100000 in
theorem tc_F_leafPart : Cond.code y_F_leafPart b_F_leafPart 4 (some (FieldType.int)) ∈ TB := inTB 407 rfl rfl
theorem mv_F_leafPart : Cond.instanceMethod y_F_leafPart ∈ TB ∧ Cond.selects "NoneWords$Facts" y_F_leafPart y_F_leafPart ∈ TB ∧ Cond.initialized "NoneWords$Facts" ∈ TB ∧ Cond.code y_F_leafPart b_F_leafPart 4 (some (FieldType.int)) ∈ TB := ⟨inTB 405 (by decide +kernel) (by decide +kernel), inTB 406 (by decide +kernel) (by decide +kernel), inTB 66 (by decide +kernel) (by decide +kernel), tc_F_leafPart⟩
theorem pd_F_leafPart : y_F_leafPart.cls = "NoneWords$Facts" ∧ y_F_leafPart.cls ≠ "java/lang/invoke/MethodHandle" ∧ y_F_leafPart.cls ≠ "java/lang/invoke/VarHandle" ∧ (parseMethodDescriptor y_F_leafPart.desc).map (fun d => d.parameters.length) = some 1 := by decide +kernel
theorem d_F_leafPart_0 : decode b_F_leafPart 0 = .ok (.aload_n 0, 1) := by decide +kernel
theorem d_F_leafPart_1 : decode b_F_leafPart 1 = .ok (.iload_n 1, 1) := by decide +kernel
theorem d_F_leafPart_2 : decode b_F_leafPart 2 = .ok (.invokevirtual 56, 3) := by decide +kernel
theorem d_F_leafPart_5 : decode b_F_leafPart 5 = .ok (.istore_n 2, 1) := by decide +kernel
theorem d_F_leafPart_6 : decode b_F_leafPart 6 = .ok (.aload_n 0, 1) := by decide +kernel
theorem d_F_leafPart_7 : decode b_F_leafPart 7 = .ok (.iload_n 1, 1) := by decide +kernel
theorem d_F_leafPart_8 : decode b_F_leafPart 8 = .ok (.invokevirtual 63, 3) := by decide +kernel
theorem d_F_leafPart_11 : decode b_F_leafPart 11 = .ok (.istore_n 3, 1) := by decide +kernel
theorem d_F_leafPart_12 : decode b_F_leafPart 12 = .ok (.aload_n 0, 1) := by decide +kernel
theorem d_F_leafPart_13 : decode b_F_leafPart 13 = .ok (.iload_n 2, 1) := by decide +kernel
theorem d_F_leafPart_14 : decode b_F_leafPart 14 = .ok (.invokevirtual 60, 3) := by decide +kernel
theorem d_F_leafPart_17 : decode b_F_leafPart 17 = .ok (.ifCond .eq 7, 3) := by decide +kernel
theorem d_F_leafPart_20 : decode b_F_leafPart 20 = .ok (.iload_n 2, 1) := by decide +kernel
theorem d_F_leafPart_21 : decode b_F_leafPart 21 = .ok (.goto 16, 3) := by decide +kernel
theorem d_F_leafPart_24 : decode b_F_leafPart 24 = .ok (.aload_n 0, 1) := by decide +kernel
theorem d_F_leafPart_25 : decode b_F_leafPart 25 = .ok (.iload_n 3, 1) := by decide +kernel
theorem d_F_leafPart_26 : decode b_F_leafPart 26 = .ok (.invokevirtual 60, 3) := by decide +kernel
theorem d_F_leafPart_29 : decode b_F_leafPart 29 = .ok (.ifCond .eq 7, 3) := by decide +kernel
theorem d_F_leafPart_32 : decode b_F_leafPart 32 = .ok (.iload_n 3, 1) := by decide +kernel
theorem d_F_leafPart_33 : decode b_F_leafPart 33 = .ok (.goto 4, 3) := by decide +kernel
theorem d_F_leafPart_36 : decode b_F_leafPart 36 = .ok (.iconst (-1), 1) := by decide +kernel
theorem d_F_leafPart_37 : decode b_F_leafPart 37 = .ok (.ireturn, 1) := by decide +kernel
abbrev rm_F_leafPart : Room := { frames := 2, cells := 0, slots := 0, locals := 42 }
def f_F_leafPart (x1 : Int32) (M : Mem) : Option (Int32 × Mem) :=
  ob (f_F_leftPart x1 M) fun r2 M2 => ob (f_F_rightPart x1 M2) fun r8 M8 => ob (f_F_isLeaf r2 M8) fun r14 M14 => if r14 = 0 then ob (f_F_isLeaf r8 M14) fun r26 M26 => if r26 = 0 then some ((-1 : Int32), M26) else some (r8, M26) else some (r2, M14)
set_option maxRecDepth 100000 in
theorem g_F_leafPart {r : Int32} {M' : Mem} (C : GC p s m args meth c b_F_leafPart 4 (some (FieldType.int)) "NoneWords$Facts" TB D vwCl (tysW cI cZ cC) A Z) {x1 : Int32} {M : Mem} (hf : f_F_leafPart x1 M = some (r, M')) : GW p l e rm_F_leafPart s m args below meth c (MQ below (QW D vwCl (tysW cI cZ cC) A (some (.int r)) (wc ad cI cZ cC M')) args s 0 0 A) D vwCl A 4 0 0 (wc ad cI cZ cC M) 0 [(0, .ref (ad 1)), (1, .int x1)] [] := by
  unfold f_F_leafPart at hf
  refine gw_aload_n C 0 d_F_leafPart_0 rfl rfl ?_
  refine gw_iload_n C 1 d_F_leafPart_1 rfl rfl ?_
  obtain ⟨r2, M2, hc2, hf⟩ := ob_some hf
  refine gw_callVr (rest := []) C 1 wcg_1 clg_0 (c_F_leftPart C.2.2.2.2.2.2.2.2.2.2 hc2) (cwV 1 C.2.2.2.2.1 (gTB_V tw_394 mv_F_leftPart) rfl rfl rfl pd_F_leftPart ⟨Nat.le_of_ble_eq_true rfl, Nat.le_of_ble_eq_true rfl⟩) rfl rfl (Nat.le_of_ble_eq_true rfl) d_F_leafPart_2 ⟨Nat.le_of_ble_eq_true rfl, Nat.le_of_ble_eq_true rfl⟩ ?_
  refine gw_istore_n (lv' := [(2, .int r2), (0, .ref (ad 1)), (1, .int x1)]) C d_F_leafPart_5 rfl (by decide) rfl ?_
  refine gw_aload_n C 1 d_F_leafPart_6 rfl rfl ?_
  refine gw_iload_n C 2 d_F_leafPart_7 rfl rfl ?_
  obtain ⟨r8, M8, hc8, hf⟩ := ob_some hf
  refine gw_callVr (rest := []) C 1 wcg_1 clg_0 (c_F_rightPart C.2.2.2.2.2.2.2.2.2.2 hc8) (cwV 1 C.2.2.2.2.1 (gTB_V tw_399 mv_F_rightPart) rfl rfl rfl pd_F_rightPart ⟨Nat.le_of_ble_eq_true rfl, Nat.le_of_ble_eq_true rfl⟩) rfl rfl (Nat.le_of_ble_eq_true rfl) d_F_leafPart_8 ⟨Nat.le_of_ble_eq_true rfl, Nat.le_of_ble_eq_true rfl⟩ ?_
  refine gw_istore_n (lv' := [(3, .int r8), (2, .int r2), (0, .ref (ad 1)), (1, .int x1)]) C d_F_leafPart_11 rfl (by decide) rfl ?_
  refine gw_aload_n C 2 d_F_leafPart_12 rfl rfl ?_
  refine gw_iload_n C 1 d_F_leafPart_13 rfl rfl ?_
  obtain ⟨r14, M14, hc14, hf⟩ := ob_some hf
  refine gw_callVr (rest := []) C 1 wcg_1 clg_0 (c_F_isLeaf C.2.2.2.2.2.2.2.2.2.2 hc14) (cwV 1 C.2.2.2.2.1 (gTB_V tw_395 mv_F_isLeaf) rfl rfl rfl pd_F_isLeaf ⟨Nat.le_of_ble_eq_true rfl, Nat.le_of_ble_eq_true rfl⟩) rfl rfl (Nat.le_of_ble_eq_true rfl) d_F_leafPart_14 ⟨Nat.le_of_ble_eq_true rfl, Nat.le_of_ble_eq_true rfl⟩ ?_
  refine gw_if_eq (tgt := 24) C d_F_leafPart_17 (by decide) (fun c => ?_) (fun c => ?_)
  · have hf := (if_pos c).symm.trans hf
    refine gw_aload_n C 2 d_F_leafPart_24 rfl rfl ?_
    refine gw_iload_n C 0 d_F_leafPart_25 rfl rfl ?_
    obtain ⟨r26, M26, hc26, hf⟩ := ob_some hf
    refine gw_callVr (rest := []) C 1 wcg_1 clg_0 (c_F_isLeaf C.2.2.2.2.2.2.2.2.2.2 hc26) (cwV 1 C.2.2.2.2.1 (gTB_V tw_395 mv_F_isLeaf) rfl rfl rfl pd_F_isLeaf ⟨Nat.le_of_ble_eq_true rfl, Nat.le_of_ble_eq_true rfl⟩) rfl rfl (Nat.le_of_ble_eq_true rfl) d_F_leafPart_26 ⟨Nat.le_of_ble_eq_true rfl, Nat.le_of_ble_eq_true rfl⟩ ?_
    refine gw_if_eq (tgt := 36) C d_F_leafPart_29 (by decide) (fun c => ?_) (fun c => ?_)
    · have hf := (if_pos c).symm.trans hf
      refine gw_iconst (v := (-1 : Int32)) C d_F_leafPart_36 (by decide) ?_
      exact gw_ireti C d_F_leafPart_37 (wc ad cI cZ cC) hf
    · have hf := (if_neg c).symm.trans hf
      refine gw_iload_n C 0 d_F_leafPart_32 rfl rfl ?_
      refine gw_goto (tgt := 37) C d_F_leafPart_33 (by decide) ?_
      exact gw_ireti C d_F_leafPart_37 (wc ad cI cZ cC) hf
  · have hf := (if_neg c).symm.trans hf
    refine gw_iload_n C 1 d_F_leafPart_20 rfl rfl ?_
    refine gw_goto (tgt := 37) C d_F_leafPart_21 (by decide) ?_
    exact gw_ireti C d_F_leafPart_37 (wc ad cI cZ cC) hf
theorem c_F_leafPart (hZ : gw_ZOK Z) {x1 : Int32} {M : Mem} {r : Int32} {M' : Mem} (hf : f_F_leafPart x1 M = some (r, M')) : CW l y_F_leafPart ws_F_leafPart rm_F_leafPart D vwCl (tysW cI cZ cC) Z [.ref (ad 1), .int x1] (wc ad cI cZ cC M) (some (.int r)) (wc ad cI cZ cC M') 0 0 :=
  CW.ofG hZ (by decide) rfl (Nat.le_of_ble_eq_true rfl) (fun _ _ _ _ _ _ _ _ C _ => g_F_leafPart C hf)
abbrev b_F_joinPart : ByteArray := prog_2_method_17_code
def y_F_joinPart : MethodName := ⟨"NoneWords$Facts", "joinPart", "(I)I"⟩
abbrev ws_F_joinPart : List Cond := Cond.code y_F_joinPart b_F_joinPart 4 (some (FieldType.int)) :: TB
set_option maxRecDepth 100000 in
theorem tc_F_joinPart : Cond.code y_F_joinPart b_F_joinPart 4 (some (FieldType.int)) ∈ TB := inTB 411 rfl rfl
theorem mv_F_joinPart : Cond.instanceMethod y_F_joinPart ∈ TB ∧ Cond.selects "NoneWords$Facts" y_F_joinPart y_F_joinPart ∈ TB ∧ Cond.initialized "NoneWords$Facts" ∈ TB ∧ Cond.code y_F_joinPart b_F_joinPart 4 (some (FieldType.int)) ∈ TB := ⟨inTB 409 (by decide +kernel) (by decide +kernel), inTB 410 (by decide +kernel) (by decide +kernel), inTB 66 (by decide +kernel) (by decide +kernel), tc_F_joinPart⟩
theorem pd_F_joinPart : y_F_joinPart.cls = "NoneWords$Facts" ∧ y_F_joinPart.cls ≠ "java/lang/invoke/MethodHandle" ∧ y_F_joinPart.cls ≠ "java/lang/invoke/VarHandle" ∧ (parseMethodDescriptor y_F_joinPart.desc).map (fun d => d.parameters.length) = some 1 := by decide +kernel
theorem d_F_joinPart_0 : decode b_F_joinPart 0 = .ok (.aload_n 0, 1) := by decide +kernel
theorem d_F_joinPart_1 : decode b_F_joinPart 1 = .ok (.iload_n 1, 1) := by decide +kernel
theorem d_F_joinPart_2 : decode b_F_joinPart 2 = .ok (.invokevirtual 56, 3) := by decide +kernel
theorem d_F_joinPart_5 : decode b_F_joinPart 5 = .ok (.istore_n 2, 1) := by decide +kernel
theorem d_F_joinPart_6 : decode b_F_joinPart 6 = .ok (.aload_n 0, 1) := by decide +kernel
theorem d_F_joinPart_7 : decode b_F_joinPart 7 = .ok (.iload_n 1, 1) := by decide +kernel
theorem d_F_joinPart_8 : decode b_F_joinPart 8 = .ok (.invokevirtual 63, 3) := by decide +kernel
theorem d_F_joinPart_11 : decode b_F_joinPart 11 = .ok (.istore_n 3, 1) := by decide +kernel
theorem d_F_joinPart_12 : decode b_F_joinPart 12 = .ok (.aload_n 0, 1) := by decide +kernel
theorem d_F_joinPart_13 : decode b_F_joinPart 13 = .ok (.iload_n 2, 1) := by decide +kernel
theorem d_F_joinPart_14 : decode b_F_joinPart 14 = .ok (.invokevirtual 66, 3) := by decide +kernel
theorem d_F_joinPart_17 : decode b_F_joinPart 17 = .ok (.ifCond .eq 7, 3) := by decide +kernel
theorem d_F_joinPart_20 : decode b_F_joinPart 20 = .ok (.iload_n 2, 1) := by decide +kernel
theorem d_F_joinPart_21 : decode b_F_joinPart 21 = .ok (.goto 16, 3) := by decide +kernel
theorem d_F_joinPart_24 : decode b_F_joinPart 24 = .ok (.aload_n 0, 1) := by decide +kernel
theorem d_F_joinPart_25 : decode b_F_joinPart 25 = .ok (.iload_n 3, 1) := by decide +kernel
theorem d_F_joinPart_26 : decode b_F_joinPart 26 = .ok (.invokevirtual 66, 3) := by decide +kernel
theorem d_F_joinPart_29 : decode b_F_joinPart 29 = .ok (.ifCond .eq 7, 3) := by decide +kernel
theorem d_F_joinPart_32 : decode b_F_joinPart 32 = .ok (.iload_n 3, 1) := by decide +kernel
theorem d_F_joinPart_33 : decode b_F_joinPart 33 = .ok (.goto 4, 3) := by decide +kernel
theorem d_F_joinPart_36 : decode b_F_joinPart 36 = .ok (.iconst (-1), 1) := by decide +kernel
theorem d_F_joinPart_37 : decode b_F_joinPart 37 = .ok (.ireturn, 1) := by decide +kernel
abbrev rm_F_joinPart : Room := { frames := 2, cells := 0, slots := 0, locals := 42 }
def f_F_joinPart (x1 : Int32) (M : Mem) : Option (Int32 × Mem) :=
  ob (f_F_leftPart x1 M) fun r2 M2 => ob (f_F_rightPart x1 M2) fun r8 M8 => ob (f_F_isJoin r2 M8) fun r14 M14 => if r14 = 0 then ob (f_F_isJoin r8 M14) fun r26 M26 => if r26 = 0 then some ((-1 : Int32), M26) else some (r8, M26) else some (r2, M14)
set_option maxRecDepth 100000 in
theorem g_F_joinPart {r : Int32} {M' : Mem} (C : GC p s m args meth c b_F_joinPart 4 (some (FieldType.int)) "NoneWords$Facts" TB D vwCl (tysW cI cZ cC) A Z) {x1 : Int32} {M : Mem} (hf : f_F_joinPart x1 M = some (r, M')) : GW p l e rm_F_joinPart s m args below meth c (MQ below (QW D vwCl (tysW cI cZ cC) A (some (.int r)) (wc ad cI cZ cC M')) args s 0 0 A) D vwCl A 4 0 0 (wc ad cI cZ cC M) 0 [(0, .ref (ad 1)), (1, .int x1)] [] := by
  unfold f_F_joinPart at hf
  refine gw_aload_n C 0 d_F_joinPart_0 rfl rfl ?_
  refine gw_iload_n C 1 d_F_joinPart_1 rfl rfl ?_
  obtain ⟨r2, M2, hc2, hf⟩ := ob_some hf
  refine gw_callVr (rest := []) C 1 wcg_1 clg_0 (c_F_leftPart C.2.2.2.2.2.2.2.2.2.2 hc2) (cwV 1 C.2.2.2.2.1 (gTB_V tw_394 mv_F_leftPart) rfl rfl rfl pd_F_leftPart ⟨Nat.le_of_ble_eq_true rfl, Nat.le_of_ble_eq_true rfl⟩) rfl rfl (Nat.le_of_ble_eq_true rfl) d_F_joinPart_2 ⟨Nat.le_of_ble_eq_true rfl, Nat.le_of_ble_eq_true rfl⟩ ?_
  refine gw_istore_n (lv' := [(2, .int r2), (0, .ref (ad 1)), (1, .int x1)]) C d_F_joinPart_5 rfl (by decide) rfl ?_
  refine gw_aload_n C 1 d_F_joinPart_6 rfl rfl ?_
  refine gw_iload_n C 2 d_F_joinPart_7 rfl rfl ?_
  obtain ⟨r8, M8, hc8, hf⟩ := ob_some hf
  refine gw_callVr (rest := []) C 1 wcg_1 clg_0 (c_F_rightPart C.2.2.2.2.2.2.2.2.2.2 hc8) (cwV 1 C.2.2.2.2.1 (gTB_V tw_399 mv_F_rightPart) rfl rfl rfl pd_F_rightPart ⟨Nat.le_of_ble_eq_true rfl, Nat.le_of_ble_eq_true rfl⟩) rfl rfl (Nat.le_of_ble_eq_true rfl) d_F_joinPart_8 ⟨Nat.le_of_ble_eq_true rfl, Nat.le_of_ble_eq_true rfl⟩ ?_
  refine gw_istore_n (lv' := [(3, .int r8), (2, .int r2), (0, .ref (ad 1)), (1, .int x1)]) C d_F_joinPart_11 rfl (by decide) rfl ?_
  refine gw_aload_n C 2 d_F_joinPart_12 rfl rfl ?_
  refine gw_iload_n C 1 d_F_joinPart_13 rfl rfl ?_
  obtain ⟨r14, M14, hc14, hf⟩ := ob_some hf
  refine gw_callVr (rest := []) C 1 wcg_1 clg_0 (c_F_isJoin C.2.2.2.2.2.2.2.2.2.2 hc14) (cwV 1 C.2.2.2.2.1 (gTB_V tw_412 mv_F_isJoin) rfl rfl rfl pd_F_isJoin ⟨Nat.le_of_ble_eq_true rfl, Nat.le_of_ble_eq_true rfl⟩) rfl rfl (Nat.le_of_ble_eq_true rfl) d_F_joinPart_14 ⟨Nat.le_of_ble_eq_true rfl, Nat.le_of_ble_eq_true rfl⟩ ?_
  refine gw_if_eq (tgt := 24) C d_F_joinPart_17 (by decide) (fun c => ?_) (fun c => ?_)
  · have hf := (if_pos c).symm.trans hf
    refine gw_aload_n C 2 d_F_joinPart_24 rfl rfl ?_
    refine gw_iload_n C 0 d_F_joinPart_25 rfl rfl ?_
    obtain ⟨r26, M26, hc26, hf⟩ := ob_some hf
    refine gw_callVr (rest := []) C 1 wcg_1 clg_0 (c_F_isJoin C.2.2.2.2.2.2.2.2.2.2 hc26) (cwV 1 C.2.2.2.2.1 (gTB_V tw_412 mv_F_isJoin) rfl rfl rfl pd_F_isJoin ⟨Nat.le_of_ble_eq_true rfl, Nat.le_of_ble_eq_true rfl⟩) rfl rfl (Nat.le_of_ble_eq_true rfl) d_F_joinPart_26 ⟨Nat.le_of_ble_eq_true rfl, Nat.le_of_ble_eq_true rfl⟩ ?_
    refine gw_if_eq (tgt := 36) C d_F_joinPart_29 (by decide) (fun c => ?_) (fun c => ?_)
    · have hf := (if_pos c).symm.trans hf
      refine gw_iconst (v := (-1 : Int32)) C d_F_joinPart_36 (by decide) ?_
      exact gw_ireti C d_F_joinPart_37 (wc ad cI cZ cC) hf
    · have hf := (if_neg c).symm.trans hf
      refine gw_iload_n C 0 d_F_joinPart_32 rfl rfl ?_
      refine gw_goto (tgt := 37) C d_F_joinPart_33 (by decide) ?_
      exact gw_ireti C d_F_joinPart_37 (wc ad cI cZ cC) hf
  · have hf := (if_neg c).symm.trans hf
    refine gw_iload_n C 1 d_F_joinPart_20 rfl rfl ?_
    refine gw_goto (tgt := 37) C d_F_joinPart_21 (by decide) ?_
    exact gw_ireti C d_F_joinPart_37 (wc ad cI cZ cC) hf
theorem c_F_joinPart (hZ : gw_ZOK Z) {x1 : Int32} {M : Mem} {r : Int32} {M' : Mem} (hf : f_F_joinPart x1 M = some (r, M')) : CW l y_F_joinPart ws_F_joinPart rm_F_joinPart D vwCl (tysW cI cZ cC) Z [.ref (ad 1), .int x1] (wc ad cI cZ cC M) (some (.int r)) (wc ad cI cZ cC M') 0 0 :=
  CW.ofG hZ (by decide) rfl (Nat.le_of_ble_eq_true rfl) (fun _ _ _ _ _ _ _ _ C _ => g_F_joinPart C hf)
abbrev b_F_addName : ByteArray := prog_2_method_18_code
def y_F_addName : MethodName := ⟨"NoneWords$Facts", "addName", "(I)I"⟩
abbrev ws_F_addName : List Cond := Cond.code y_F_addName b_F_addName 2 (some (FieldType.int)) :: TB
set_option maxRecDepth 100000 in
theorem tc_F_addName : Cond.code y_F_addName b_F_addName 2 (some (FieldType.int)) ∈ TB := inTB 246 rfl rfl
theorem mv_F_addName : Cond.instanceMethod y_F_addName ∈ TB ∧ Cond.selects "NoneWords$Facts" y_F_addName y_F_addName ∈ TB ∧ Cond.initialized "NoneWords$Facts" ∈ TB ∧ Cond.code y_F_addName b_F_addName 2 (some (FieldType.int)) ∈ TB := ⟨inTB 244 (by decide +kernel) (by decide +kernel), inTB 245 (by decide +kernel) (by decide +kernel), inTB 66 (by decide +kernel) (by decide +kernel), tc_F_addName⟩
theorem pd_F_addName : y_F_addName.cls = "NoneWords$Facts" ∧ y_F_addName.cls ≠ "java/lang/invoke/MethodHandle" ∧ y_F_addName.cls ≠ "java/lang/invoke/VarHandle" ∧ (parseMethodDescriptor y_F_addName.desc).map (fun d => d.parameters.length) = some 1 := by decide +kernel
theorem d_F_addName_0 : decode b_F_addName 0 = .ok (.aload_n 0, 1) := by decide +kernel
theorem d_F_addName_1 : decode b_F_addName 1 = .ok (.getfield 15, 3) := by decide +kernel
theorem d_F_addName_4 : decode b_F_addName 4 = .ok (.iconst 5, 1) := by decide +kernel
theorem d_F_addName_5 : decode b_F_addName 5 = .ok (.if_icmp .ge 12, 3) := by decide +kernel
theorem d_F_addName_8 : decode b_F_addName 8 = .ok (.iload_n 1, 1) := by decide +kernel
theorem d_F_addName_9 : decode b_F_addName 9 = .ok (.ifCond .lt 8, 3) := by decide +kernel
theorem d_F_addName_12 : decode b_F_addName 12 = .ok (.iload_n 1, 1) := by decide +kernel
theorem d_F_addName_13 : decode b_F_addName 13 = .ok (.iconst 4, 1) := by decide +kernel
theorem d_F_addName_14 : decode b_F_addName 14 = .ok (.if_icmp .le 5, 3) := by decide +kernel
theorem d_F_addName_17 : decode b_F_addName 17 = .ok (.iconst (-1), 1) := by decide +kernel
theorem d_F_addName_18 : decode b_F_addName 18 = .ok (.ireturn, 1) := by decide +kernel
theorem d_F_addName_19 : decode b_F_addName 19 = .ok (.aload_n 0, 1) := by decide +kernel
theorem d_F_addName_20 : decode b_F_addName 20 = .ok (.getfield 11, 3) := by decide +kernel
theorem d_F_addName_23 : decode b_F_addName 23 = .ok (.aload_n 0, 1) := by decide +kernel
theorem d_F_addName_24 : decode b_F_addName 24 = .ok (.getfield 15, 3) := by decide +kernel
theorem d_F_addName_27 : decode b_F_addName 27 = .ok (.iload_n 1, 1) := by decide +kernel
theorem d_F_addName_28 : decode b_F_addName 28 = .ok (.iastore, 1) := by decide +kernel
theorem d_F_addName_29 : decode b_F_addName 29 = .ok (.aload_n 0, 1) := by decide +kernel
theorem d_F_addName_30 : decode b_F_addName 30 = .ok (.dup, 1) := by decide +kernel
theorem d_F_addName_31 : decode b_F_addName 31 = .ok (.getfield 15, 3) := by decide +kernel
theorem d_F_addName_34 : decode b_F_addName 34 = .ok (.iconst 1, 1) := by decide +kernel
theorem d_F_addName_35 : decode b_F_addName 35 = .ok (.iadd, 1) := by decide +kernel
theorem d_F_addName_36 : decode b_F_addName 36 = .ok (.putfield 15, 3) := by decide +kernel
theorem d_F_addName_39 : decode b_F_addName 39 = .ok (.aload_n 0, 1) := by decide +kernel
theorem d_F_addName_40 : decode b_F_addName 40 = .ok (.getfield 15, 3) := by decide +kernel
theorem d_F_addName_43 : decode b_F_addName 43 = .ok (.iconst 1, 1) := by decide +kernel
theorem d_F_addName_44 : decode b_F_addName 44 = .ok (.isub, 1) := by decide +kernel
theorem d_F_addName_45 : decode b_F_addName 45 = .ok (.ireturn, 1) := by decide +kernel
abbrev rm_F_addName : Room := { frames := 0, cells := 0, slots := 0, locals := 0 }
def f_F_addName (x1 : Int32) (M : Mem) : Option (Int32 × Mem) :=
  if (5 : Int32) ≤ (M 1 1) then some ((-1 : Int32), M) else if x1 < 0 then some ((-1 : Int32), M) else if x1 ≤ (4 : Int32) then gd (inb (M 1 1) 5) (some (((ms (ms M 2 (M 1 1).toNatClampNeg x1) 1 1 (((ms M 2 (M 1 1).toNatClampNeg x1) 1 1) + (1 : Int32))) 1 1) - (1 : Int32), ms (ms M 2 (M 1 1).toNatClampNeg x1) 1 1 (((ms M 2 (M 1 1).toNatClampNeg x1) 1 1) + (1 : Int32)))) else some ((-1 : Int32), M)
set_option maxRecDepth 100000 in
theorem g_F_addName {r : Int32} {M' : Mem} (C : GC p s m args meth c b_F_addName 2 (some (FieldType.int)) "NoneWords$Facts" TB D vwCl (tysW cI cZ cC) A Z) {x1 : Int32} {M : Mem} (hf : f_F_addName x1 M = some (r, M')) : GW p l e rm_F_addName s m args below meth c (MQ below (QW D vwCl (tysW cI cZ cC) A (some (.int r)) (wc ad cI cZ cC M')) args s 0 0 A) D vwCl A 2 0 0 (wc ad cI cZ cC M) 0 [(0, .ref (ad 1)), (1, .int x1)] [] := by
  unfold f_F_addName at hf
  refine gw_aload_n C 0 d_F_addName_0 rfl rfl ?_
  refine gw_get C in_F 1 wcg_1 clg_0 1 (by decide) tw_94 rfl rfl d_F_addName_1 ?_
  refine gw_iconst (v := (5 : Int32)) C d_F_addName_4 (by decide) ?_
  refine gw_icmp_ge (tgt := 17) C d_F_addName_5 (by decide) (fun c => ?_) (fun c => ?_)
  · have hf := (if_pos c).symm.trans hf
    refine gw_iconst (v := (-1 : Int32)) C d_F_addName_17 (by decide) ?_
    exact gw_ireti C d_F_addName_18 (wc ad cI cZ cC) hf
  · have hf := (if_neg c).symm.trans hf
    refine gw_iload_n C 1 d_F_addName_8 rfl rfl ?_
    refine gw_if_lt (tgt := 17) C d_F_addName_9 (by decide) (fun c => ?_) (fun c => ?_)
    · have hf := (if_pos c).symm.trans hf
      refine gw_iconst (v := (-1 : Int32)) C d_F_addName_17 (by decide) ?_
      exact gw_ireti C d_F_addName_18 (wc ad cI cZ cC) hf
    · have hf := (if_neg c).symm.trans hf
      refine gw_iload_n C 1 d_F_addName_12 rfl rfl ?_
      refine gw_iconst (v := (4 : Int32)) C d_F_addName_13 (by decide) ?_
      refine gw_icmp_le (tgt := 19) C d_F_addName_14 (by decide) (fun c => ?_) (fun c => ?_)
      · have hf := (if_pos c).symm.trans hf
        refine gw_aload_n C 0 d_F_addName_19 rfl rfl ?_
        refine gw_get C in_F 1 wcg_1 clg_0 0 (by decide) tw_93 rfl rfl d_F_addName_20 ?_
        refine gw_aload_n C 0 d_F_addName_23 rfl rfl ?_
        refine gw_get C in_F 1 wcg_1 clg_0 1 (by decide) tw_94 rfl rfl d_F_addName_24 ?_
        refine gw_iload_n C 1 d_F_addName_27 rfl rfl ?_
        obtain ⟨hb28, hf⟩ := gd_some hf
        refine gw_iast C 2 0 wcg_2 rfl hb28 d_F_addName_28 wca_2 ?_
        refine gw_aload_n C 0 d_F_addName_29 rfl rfl ?_
        refine gw_dup C d_F_addName_30 rfl ?_
        refine gw_get C in_F 1 wcg_1 clg_0 1 (by decide) tw_94 rfl rfl d_F_addName_31 ?_
        refine gw_iconst (v := (1 : Int32)) C d_F_addName_34 (by decide) ?_
        refine gw_iadd C d_F_addName_35 ?_
        refine gw_put C in_F ty_F tk_F nm_F 1 wcg_1 clg_0 1 (by decide) tw_94 rfl rfl rfl rfl (Nat.le_of_ble_eq_true rfl) d_F_addName_36 wcf_1_1 ?_
        refine gw_aload_n C 0 d_F_addName_39 rfl rfl ?_
        refine gw_get C in_F 1 wcg_1 clg_0 1 (by decide) tw_94 rfl rfl d_F_addName_40 ?_
        refine gw_iconst (v := (1 : Int32)) C d_F_addName_43 (by decide) ?_
        refine gw_isub C d_F_addName_44 ?_
        exact gw_ireti C d_F_addName_45 (wc ad cI cZ cC) hf
      · have hf := (if_neg c).symm.trans hf
        refine gw_iconst (v := (-1 : Int32)) C d_F_addName_17 (by decide) ?_
        exact gw_ireti C d_F_addName_18 (wc ad cI cZ cC) hf
theorem c_F_addName (hZ : gw_ZOK Z) {x1 : Int32} {M : Mem} {r : Int32} {M' : Mem} (hf : f_F_addName x1 M = some (r, M')) : CW l y_F_addName ws_F_addName rm_F_addName D vwCl (tysW cI cZ cC) Z [.ref (ad 1), .int x1] (wc ad cI cZ cC M) (some (.int r)) (wc ad cI cZ cC M') 0 0 :=
  CW.ofG hZ (by decide) rfl (Nat.le_of_ble_eq_true rfl) (fun _ _ _ _ _ _ _ _ C _ => g_F_addName C hf)
abbrev b_F_allVersions : ByteArray := prog_2_method_19_code
def y_F_allVersions : MethodName := ⟨"NoneWords$Facts", "allVersions", "(I)I"⟩
abbrev ws_F_allVersions : List Cond := Cond.code y_F_allVersions b_F_allVersions 2 (some (FieldType.int)) :: TB
set_option maxRecDepth 100000 in
theorem tc_F_allVersions : Cond.code y_F_allVersions b_F_allVersions 2 (some (FieldType.int)) ∈ TB := inTB 262 rfl rfl
theorem mv_F_allVersions : Cond.instanceMethod y_F_allVersions ∈ TB ∧ Cond.selects "NoneWords$Facts" y_F_allVersions y_F_allVersions ∈ TB ∧ Cond.initialized "NoneWords$Facts" ∈ TB ∧ Cond.code y_F_allVersions b_F_allVersions 2 (some (FieldType.int)) ∈ TB := ⟨inTB 260 (by decide +kernel) (by decide +kernel), inTB 261 (by decide +kernel) (by decide +kernel), inTB 66 (by decide +kernel) (by decide +kernel), tc_F_allVersions⟩
theorem pd_F_allVersions : y_F_allVersions.cls = "NoneWords$Facts" ∧ y_F_allVersions.cls ≠ "java/lang/invoke/MethodHandle" ∧ y_F_allVersions.cls ≠ "java/lang/invoke/VarHandle" ∧ (parseMethodDescriptor y_F_allVersions.desc).map (fun d => d.parameters.length) = some 1 := by decide +kernel
theorem d_F_allVersions_0 : decode b_F_allVersions 0 = .ok (.aload_n 0, 1) := by decide +kernel
theorem d_F_allVersions_1 : decode b_F_allVersions 1 = .ok (.iload_n 1, 1) := by decide +kernel
theorem d_F_allVersions_2 : decode b_F_allVersions 2 = .ok (.invokevirtual 69, 3) := by decide +kernel
theorem d_F_allVersions_5 : decode b_F_allVersions 5 = .ok (.ifCond .eq 16, 3) := by decide +kernel
theorem d_F_allVersions_8 : decode b_F_allVersions 8 = .ok (.iconst 1, 1) := by decide +kernel
theorem d_F_allVersions_9 : decode b_F_allVersions 9 = .ok (.aload_n 0, 1) := by decide +kernel
theorem d_F_allVersions_10 : decode b_F_allVersions 10 = .ok (.getfield 11, 3) := by decide +kernel
theorem d_F_allVersions_13 : decode b_F_allVersions 13 = .ok (.iload_n 1, 1) := by decide +kernel
theorem d_F_allVersions_14 : decode b_F_allVersions 14 = .ok (.iaload, 1) := by decide +kernel
theorem d_F_allVersions_15 : decode b_F_allVersions 15 = .ok (.ishl, 1) := by decide +kernel
theorem d_F_allVersions_16 : decode b_F_allVersions 16 = .ok (.iconst 1, 1) := by decide +kernel
theorem d_F_allVersions_17 : decode b_F_allVersions 17 = .ok (.isub, 1) := by decide +kernel
theorem d_F_allVersions_18 : decode b_F_allVersions 18 = .ok (.goto 4, 3) := by decide +kernel
theorem d_F_allVersions_21 : decode b_F_allVersions 21 = .ok (.iconst 0, 1) := by decide +kernel
theorem d_F_allVersions_22 : decode b_F_allVersions 22 = .ok (.ireturn, 1) := by decide +kernel
abbrev rm_F_allVersions : Room := { frames := 1, cells := 0, slots := 0, locals := 21 }
def f_F_allVersions (x1 : Int32) (M : Mem) : Option (Int32 × Mem) :=
  ob (f_F_hasName x1 M) fun r2 M2 => if r2 = 0 then some ((0 : Int32), M2) else gd (inb x1 5) (some (((1 : Int32) <<< ((M2 2 x1.toNatClampNeg) &&& 31)) - (1 : Int32), M2))
set_option maxRecDepth 100000 in
theorem g_F_allVersions {r : Int32} {M' : Mem} (C : GC p s m args meth c b_F_allVersions 2 (some (FieldType.int)) "NoneWords$Facts" TB D vwCl (tysW cI cZ cC) A Z) {x1 : Int32} {M : Mem} (hf : f_F_allVersions x1 M = some (r, M')) : GW p l e rm_F_allVersions s m args below meth c (MQ below (QW D vwCl (tysW cI cZ cC) A (some (.int r)) (wc ad cI cZ cC M')) args s 0 0 A) D vwCl A 2 0 0 (wc ad cI cZ cC M) 0 [(0, .ref (ad 1)), (1, .int x1)] [] := by
  unfold f_F_allVersions at hf
  refine gw_aload_n C 0 d_F_allVersions_0 rfl rfl ?_
  refine gw_iload_n C 1 d_F_allVersions_1 rfl rfl ?_
  obtain ⟨r2, M2, hc2, hf⟩ := ob_some hf
  refine gw_callVr (rest := []) C 1 wcg_1 clg_0 (c_F_hasName C.2.2.2.2.2.2.2.2.2.2 hc2) (cwV 1 C.2.2.2.2.1 (gTB_V tw_255 mv_F_hasName) rfl rfl rfl pd_F_hasName ⟨Nat.le_of_ble_eq_true rfl, Nat.le_of_ble_eq_true rfl⟩) rfl rfl (Nat.le_of_ble_eq_true rfl) d_F_allVersions_2 ⟨Nat.le_of_ble_eq_true rfl, Nat.le_of_ble_eq_true rfl⟩ ?_
  refine gw_if_eq (tgt := 21) C d_F_allVersions_5 (by decide) (fun c => ?_) (fun c => ?_)
  · have hf := (if_pos c).symm.trans hf
    refine gw_iconst (v := (0 : Int32)) C d_F_allVersions_21 (by decide) ?_
    exact gw_ireti C d_F_allVersions_22 (wc ad cI cZ cC) hf
  · have hf := (if_neg c).symm.trans hf
    refine gw_iconst (v := (1 : Int32)) C d_F_allVersions_8 (by decide) ?_
    refine gw_aload_n C 0 d_F_allVersions_9 rfl rfl ?_
    refine gw_get C in_F 1 wcg_1 clg_0 0 (by decide) tw_93 rfl rfl d_F_allVersions_10 ?_
    refine gw_iload_n C 1 d_F_allVersions_13 rfl rfl ?_
    obtain ⟨hb14, hf⟩ := gd_some hf
    refine gw_iald C 2 0 wcg_2 rfl hb14 d_F_allVersions_14 ?_
    refine gw_ishl C d_F_allVersions_15 ?_
    refine gw_iconst (v := (1 : Int32)) C d_F_allVersions_16 (by decide) ?_
    refine gw_isub C d_F_allVersions_17 ?_
    refine gw_goto (tgt := 22) C d_F_allVersions_18 (by decide) ?_
    exact gw_ireti C d_F_allVersions_22 (wc ad cI cZ cC) hf
theorem c_F_allVersions (hZ : gw_ZOK Z) {x1 : Int32} {M : Mem} {r : Int32} {M' : Mem} (hf : f_F_allVersions x1 M = some (r, M')) : CW l y_F_allVersions ws_F_allVersions rm_F_allVersions D vwCl (tysW cI cZ cC) Z [.ref (ad 1), .int x1] (wc ad cI cZ cC M) (some (.int r)) (wc ad cI cZ cC M') 0 0 :=
  CW.ofG hZ (by decide) rfl (Nat.le_of_ble_eq_true rfl) (fun _ _ _ _ _ _ _ _ C _ => g_F_allVersions C hf)
abbrev b_F_addNode : ByteArray := prog_2_method_23_code
def y_F_addNode : MethodName := ⟨"NoneWords$Facts", "addNode", "(II)I"⟩
abbrev ws_F_addNode : List Cond := Cond.code y_F_addNode b_F_addNode 3 (some (FieldType.int)) :: TB
set_option maxRecDepth 100000 in
theorem tc_F_addNode : Cond.code y_F_addNode b_F_addNode 3 (some (FieldType.int)) ∈ TB := inTB 273 rfl rfl
theorem mv_F_addNode : Cond.instanceMethod y_F_addNode ∈ TB ∧ Cond.selects "NoneWords$Facts" y_F_addNode y_F_addNode ∈ TB ∧ Cond.initialized "NoneWords$Facts" ∈ TB ∧ Cond.code y_F_addNode b_F_addNode 3 (some (FieldType.int)) ∈ TB := ⟨inTB 272 (by decide +kernel) (by decide +kernel), inTB 0 (by decide +kernel) (by decide +kernel), inTB 66 (by decide +kernel) (by decide +kernel), tc_F_addNode⟩
theorem pd_F_addNode : y_F_addNode.cls = "NoneWords$Facts" ∧ y_F_addNode.cls ≠ "java/lang/invoke/MethodHandle" ∧ y_F_addNode.cls ≠ "java/lang/invoke/VarHandle" ∧ (parseMethodDescriptor y_F_addNode.desc).map (fun d => d.parameters.length) = some 2 := by decide +kernel
theorem d_F_addNode_0 : decode b_F_addNode 0 = .ok (.aload_n 0, 1) := by decide +kernel
theorem d_F_addNode_1 : decode b_F_addNode 1 = .ok (.getfield 19, 3) := by decide +kernel
theorem d_F_addNode_4 : decode b_F_addNode 4 = .ok (.aload_n 0, 1) := by decide +kernel
theorem d_F_addNode_5 : decode b_F_addNode 5 = .ok (.getfield 43, 3) := by decide +kernel
theorem d_F_addNode_8 : decode b_F_addNode 8 = .ok (.iload_n 1, 1) := by decide +kernel
theorem d_F_addNode_9 : decode b_F_addNode 9 = .ok (.iastore, 1) := by decide +kernel
theorem d_F_addNode_10 : decode b_F_addNode 10 = .ok (.aload_n 0, 1) := by decide +kernel
theorem d_F_addNode_11 : decode b_F_addNode 11 = .ok (.getfield 22, 3) := by decide +kernel
theorem d_F_addNode_14 : decode b_F_addNode 14 = .ok (.aload_n 0, 1) := by decide +kernel
theorem d_F_addNode_15 : decode b_F_addNode 15 = .ok (.getfield 43, 3) := by decide +kernel
theorem d_F_addNode_18 : decode b_F_addNode 18 = .ok (.iload_n 2, 1) := by decide +kernel
theorem d_F_addNode_19 : decode b_F_addNode 19 = .ok (.iastore, 1) := by decide +kernel
theorem d_F_addNode_20 : decode b_F_addNode 20 = .ok (.aload_n 0, 1) := by decide +kernel
theorem d_F_addNode_21 : decode b_F_addNode 21 = .ok (.dup, 1) := by decide +kernel
theorem d_F_addNode_22 : decode b_F_addNode 22 = .ok (.getfield 43, 3) := by decide +kernel
theorem d_F_addNode_25 : decode b_F_addNode 25 = .ok (.iconst 1, 1) := by decide +kernel
theorem d_F_addNode_26 : decode b_F_addNode 26 = .ok (.iadd, 1) := by decide +kernel
theorem d_F_addNode_27 : decode b_F_addNode 27 = .ok (.putfield 43, 3) := by decide +kernel
theorem d_F_addNode_30 : decode b_F_addNode 30 = .ok (.aload_n 0, 1) := by decide +kernel
theorem d_F_addNode_31 : decode b_F_addNode 31 = .ok (.getfield 43, 3) := by decide +kernel
theorem d_F_addNode_34 : decode b_F_addNode 34 = .ok (.iconst 1, 1) := by decide +kernel
theorem d_F_addNode_35 : decode b_F_addNode 35 = .ok (.isub, 1) := by decide +kernel
theorem d_F_addNode_36 : decode b_F_addNode 36 = .ok (.ireturn, 1) := by decide +kernel
abbrev rm_F_addNode : Room := { frames := 0, cells := 0, slots := 0, locals := 0 }
def f_F_addNode (x1 : Int32) (x2 : Int32) (M : Mem) : Option (Int32 × Mem) :=
  gd (inb (M 1 10) 120) (gd (inb ((ms M 3 (M 1 10).toNatClampNeg x1) 1 10) 120) (some (((ms (ms (ms M 3 (M 1 10).toNatClampNeg x1) 4 ((ms M 3 (M 1 10).toNatClampNeg x1) 1 10).toNatClampNeg x2) 1 10 (((ms (ms M 3 (M 1 10).toNatClampNeg x1) 4 ((ms M 3 (M 1 10).toNatClampNeg x1) 1 10).toNatClampNeg x2) 1 10) + (1 : Int32))) 1 10) - (1 : Int32), ms (ms (ms M 3 (M 1 10).toNatClampNeg x1) 4 ((ms M 3 (M 1 10).toNatClampNeg x1) 1 10).toNatClampNeg x2) 1 10 (((ms (ms M 3 (M 1 10).toNatClampNeg x1) 4 ((ms M 3 (M 1 10).toNatClampNeg x1) 1 10).toNatClampNeg x2) 1 10) + (1 : Int32)))))
set_option maxRecDepth 100000 in
theorem g_F_addNode {r : Int32} {M' : Mem} (C : GC p s m args meth c b_F_addNode 3 (some (FieldType.int)) "NoneWords$Facts" TB D vwCl (tysW cI cZ cC) A Z) {x1 : Int32} {x2 : Int32} {M : Mem} (hf : f_F_addNode x1 x2 M = some (r, M')) : GW p l e rm_F_addNode s m args below meth c (MQ below (QW D vwCl (tysW cI cZ cC) A (some (.int r)) (wc ad cI cZ cC M')) args s 0 0 A) D vwCl A 3 0 0 (wc ad cI cZ cC M) 0 [(0, .ref (ad 1)), (1, .int x1), (2, .int x2)] [] := by
  unfold f_F_addNode at hf
  refine gw_aload_n C 0 d_F_addNode_0 rfl rfl ?_
  refine gw_get C in_F 1 wcg_1 clg_0 2 (by decide) tw_95 rfl rfl d_F_addNode_1 ?_
  refine gw_aload_n C 0 d_F_addNode_4 rfl rfl ?_
  refine gw_get C in_F 1 wcg_1 clg_0 10 (by decide) tw_103 rfl rfl d_F_addNode_5 ?_
  refine gw_iload_n C 1 d_F_addNode_8 rfl rfl ?_
  obtain ⟨hb9, hf⟩ := gd_some hf
  refine gw_iast C 3 0 wcg_3 rfl hb9 d_F_addNode_9 wca_3 ?_
  refine gw_aload_n C 0 d_F_addNode_10 rfl rfl ?_
  refine gw_get C in_F 1 wcg_1 clg_0 3 (by decide) tw_96 rfl rfl d_F_addNode_11 ?_
  refine gw_aload_n C 0 d_F_addNode_14 rfl rfl ?_
  refine gw_get C in_F 1 wcg_1 clg_0 10 (by decide) tw_103 rfl rfl d_F_addNode_15 ?_
  refine gw_iload_n C 2 d_F_addNode_18 rfl rfl ?_
  obtain ⟨hb19, hf⟩ := gd_some hf
  refine gw_iast C 4 0 wcg_4 rfl hb19 d_F_addNode_19 wca_4 ?_
  refine gw_aload_n C 0 d_F_addNode_20 rfl rfl ?_
  refine gw_dup C d_F_addNode_21 rfl ?_
  refine gw_get C in_F 1 wcg_1 clg_0 10 (by decide) tw_103 rfl rfl d_F_addNode_22 ?_
  refine gw_iconst (v := (1 : Int32)) C d_F_addNode_25 (by decide) ?_
  refine gw_iadd C d_F_addNode_26 ?_
  refine gw_put C in_F ty_F tk_F nm_F 1 wcg_1 clg_0 10 (by decide) tw_103 rfl rfl rfl rfl (Nat.le_of_ble_eq_true rfl) d_F_addNode_27 wcf_1_10 ?_
  refine gw_aload_n C 0 d_F_addNode_30 rfl rfl ?_
  refine gw_get C in_F 1 wcg_1 clg_0 10 (by decide) tw_103 rfl rfl d_F_addNode_31 ?_
  refine gw_iconst (v := (1 : Int32)) C d_F_addNode_34 (by decide) ?_
  refine gw_isub C d_F_addNode_35 ?_
  exact gw_ireti C d_F_addNode_36 (wc ad cI cZ cC) hf
theorem c_F_addNode (hZ : gw_ZOK Z) {x1 : Int32} {x2 : Int32} {M : Mem} {r : Int32} {M' : Mem} (hf : f_F_addNode x1 x2 M = some (r, M')) : CW l y_F_addNode ws_F_addNode rm_F_addNode D vwCl (tysW cI cZ cC) Z [.ref (ad 1), .int x1, .int x2] (wc ad cI cZ cC M) (some (.int r)) (wc ad cI cZ cC M') 0 0 :=
  CW.ofG hZ (by decide) rfl (Nat.le_of_ble_eq_true rfl) (fun _ _ _ _ _ _ _ _ C _ => g_F_addNode C hf)
abbrev b_F_wantedIn : ByteArray := prog_2_method_24_code
def y_F_wantedIn : MethodName := ⟨"NoneWords$Facts", "wantedIn", "(II)I"⟩
abbrev ws_F_wantedIn : List Cond := Cond.code y_F_wantedIn b_F_wantedIn 3 (some (FieldType.int)) :: TB
set_option maxRecDepth 100000 in
theorem tc_F_wantedIn : Cond.code y_F_wantedIn b_F_wantedIn 3 (some (FieldType.int)) ∈ TB := inTB 269 rfl rfl
theorem mv_F_wantedIn : Cond.static y_F_wantedIn ∈ TB ∧ Cond.initialized "NoneWords$Facts" ∈ TB ∧ Cond.code y_F_wantedIn b_F_wantedIn 3 (some (FieldType.int)) ∈ TB := ⟨inTB 268 (by decide +kernel) (by decide +kernel), inTB 66 (by decide +kernel) (by decide +kernel), tc_F_wantedIn⟩
theorem pd_F_wantedIn : y_F_wantedIn.cls = "NoneWords$Facts" ∧ y_F_wantedIn.cls ≠ "java/lang/invoke/MethodHandle" ∧ y_F_wantedIn.cls ≠ "java/lang/invoke/VarHandle" ∧ (parseMethodDescriptor y_F_wantedIn.desc).map (fun d => d.parameters.length) = some 2 := by decide +kernel
theorem d_F_wantedIn_0 : decode b_F_wantedIn 0 = .ok (.iconst 5, 1) := by decide +kernel
theorem d_F_wantedIn_1 : decode b_F_wantedIn 1 = .ok (.iload_n 0, 1) := by decide +kernel
theorem d_F_wantedIn_2 : decode b_F_wantedIn 2 = .ok (.imul, 1) := by decide +kernel
theorem d_F_wantedIn_3 : decode b_F_wantedIn 3 = .ok (.istore_n 2, 1) := by decide +kernel
theorem d_F_wantedIn_4 : decode b_F_wantedIn 4 = .ok (.ldc 88, 2) := by decide +kernel
theorem d_F_wantedIn_6 : decode b_F_wantedIn 6 = .ok (.bipush 31, 2) := by decide +kernel
theorem d_F_wantedIn_8 : decode b_F_wantedIn 8 = .ok (.iload_n 2, 1) := by decide +kernel
theorem d_F_wantedIn_9 : decode b_F_wantedIn 9 = .ok (.ishl, 1) := by decide +kernel
theorem d_F_wantedIn_10 : decode b_F_wantedIn 10 = .ok (.iconst (-1), 1) := by decide +kernel
theorem d_F_wantedIn_11 : decode b_F_wantedIn 11 = .ok (.ixor, 1) := by decide +kernel
theorem d_F_wantedIn_12 : decode b_F_wantedIn 12 = .ok (.iand, 1) := by decide +kernel
theorem d_F_wantedIn_13 : decode b_F_wantedIn 13 = .ok (.iload_n 1, 1) := by decide +kernel
theorem d_F_wantedIn_14 : decode b_F_wantedIn 14 = .ok (.iload_n 2, 1) := by decide +kernel
theorem d_F_wantedIn_15 : decode b_F_wantedIn 15 = .ok (.ishl, 1) := by decide +kernel
theorem d_F_wantedIn_16 : decode b_F_wantedIn 16 = .ok (.ior, 1) := by decide +kernel
theorem d_F_wantedIn_17 : decode b_F_wantedIn 17 = .ok (.ireturn, 1) := by decide +kernel
abbrev rm_F_wantedIn : Room := { frames := 0, cells := 0, slots := 0, locals := 0 }
def f_F_wantedIn (x0 : Int32) (x1 : Int32) (M : Mem) : Option (Int32 × Mem) :=
  some (((33554431 : Int32) &&& (((31 : Int32) <<< (((5 : Int32) * x0) &&& 31)) ^^^ (-1 : Int32))) ||| (x1 <<< (((5 : Int32) * x0) &&& 31)), M)
set_option maxRecDepth 100000 in
theorem g_F_wantedIn {r : Int32} {M' : Mem} (C : GC p s m args meth c b_F_wantedIn 3 (some (FieldType.int)) "NoneWords$Facts" TB D vwCl (tysW cI cZ cC) A Z) {x0 : Int32} {x1 : Int32} {M : Mem} (hf : f_F_wantedIn x0 x1 M = some (r, M')) : GW p l e rm_F_wantedIn s m args below meth c (MQ below (QW D vwCl (tysW cI cZ cC) A (some (.int r)) (wc ad cI cZ cC M')) args s 0 0 A) D vwCl A 3 0 0 (wc ad cI cZ cC M) 0 [(0, .int x0), (1, .int x1)] [] := by
  unfold f_F_wantedIn at hf
  refine gw_iconst (v := (5 : Int32)) C d_F_wantedIn_0 (by decide) ?_
  refine gw_iload_n C 0 d_F_wantedIn_1 rfl rfl ?_
  refine gw_imul C d_F_wantedIn_2 ?_
  refine gw_istore_n (lv' := [(2, .int ((5 : Int32) * x0)), (0, .int x0), (1, .int x1)]) C d_F_wantedIn_3 rfl (by decide) rfl ?_
  refine gw_ldc (v := (33554431 : Int32)) C d_F_wantedIn_4 tw_266 ?_
  refine gw_bipush (v := (31 : Int32)) C d_F_wantedIn_6 (by decide) ?_
  refine gw_iload_n C 0 d_F_wantedIn_8 rfl rfl ?_
  refine gw_ishl C d_F_wantedIn_9 ?_
  refine gw_iconst (v := (-1 : Int32)) C d_F_wantedIn_10 (by decide) ?_
  refine gw_ixor C d_F_wantedIn_11 ?_
  refine gw_iand C d_F_wantedIn_12 ?_
  refine gw_iload_n C 2 d_F_wantedIn_13 rfl rfl ?_
  refine gw_iload_n C 0 d_F_wantedIn_14 rfl rfl ?_
  refine gw_ishl C d_F_wantedIn_15 ?_
  refine gw_ior C d_F_wantedIn_16 ?_
  exact gw_ireti C d_F_wantedIn_17 (wc ad cI cZ cC) hf
theorem c_F_wantedIn (hZ : gw_ZOK Z) {x0 : Int32} {x1 : Int32} {M : Mem} {r : Int32} {M' : Mem} (hf : f_F_wantedIn x0 x1 M = some (r, M')) : CW l y_F_wantedIn ws_F_wantedIn rm_F_wantedIn D vwCl (tysW cI cZ cC) Z [.int x0, .int x1] (wc ad cI cZ cC M) (some (.int r)) (wc ad cI cZ cC M') 0 0 :=
  CW.ofG hZ (by decide) rfl (Nat.le_of_ble_eq_true rfl) (fun _ _ _ _ _ _ _ _ C _ => g_F_wantedIn C hf)
abbrev b_F_notIn : ByteArray := prog_2_method_25_code
def y_F_notIn : MethodName := ⟨"NoneWords$Facts", "notIn", "(II)I"⟩
abbrev ws_F_notIn : List Cond := Cond.code y_F_notIn b_F_notIn 2 (some (FieldType.int)) :: TB
set_option maxRecDepth 100000 in
theorem tc_F_notIn : Cond.code y_F_notIn b_F_notIn 2 (some (FieldType.int)) ∈ TB := inTB 265 rfl rfl
theorem mv_F_notIn : Cond.static y_F_notIn ∈ TB ∧ Cond.initialized "NoneWords$Facts" ∈ TB ∧ Cond.code y_F_notIn b_F_notIn 2 (some (FieldType.int)) ∈ TB := ⟨inTB 264 (by decide +kernel) (by decide +kernel), inTB 66 (by decide +kernel) (by decide +kernel), tc_F_notIn⟩
theorem pd_F_notIn : y_F_notIn.cls = "NoneWords$Facts" ∧ y_F_notIn.cls ≠ "java/lang/invoke/MethodHandle" ∧ y_F_notIn.cls ≠ "java/lang/invoke/VarHandle" ∧ (parseMethodDescriptor y_F_notIn.desc).map (fun d => d.parameters.length) = some 2 := by decide +kernel
theorem d_F_notIn_0 : decode b_F_notIn 0 = .ok (.ldc 88, 2) := by decide +kernel
theorem d_F_notIn_2 : decode b_F_notIn 2 = .ok (.iload_n 1, 1) := by decide +kernel
theorem d_F_notIn_3 : decode b_F_notIn 3 = .ok (.iconst 5, 1) := by decide +kernel
theorem d_F_notIn_4 : decode b_F_notIn 4 = .ok (.iload_n 0, 1) := by decide +kernel
theorem d_F_notIn_5 : decode b_F_notIn 5 = .ok (.imul, 1) := by decide +kernel
theorem d_F_notIn_6 : decode b_F_notIn 6 = .ok (.ishl, 1) := by decide +kernel
theorem d_F_notIn_7 : decode b_F_notIn 7 = .ok (.iconst (-1), 1) := by decide +kernel
theorem d_F_notIn_8 : decode b_F_notIn 8 = .ok (.ixor, 1) := by decide +kernel
theorem d_F_notIn_9 : decode b_F_notIn 9 = .ok (.iand, 1) := by decide +kernel
theorem d_F_notIn_10 : decode b_F_notIn 10 = .ok (.ireturn, 1) := by decide +kernel
abbrev rm_F_notIn : Room := { frames := 0, cells := 0, slots := 0, locals := 0 }
def f_F_notIn (x0 : Int32) (x1 : Int32) (M : Mem) : Option (Int32 × Mem) :=
  some ((33554431 : Int32) &&& ((x1 <<< (((5 : Int32) * x0) &&& 31)) ^^^ (-1 : Int32)), M)
set_option maxRecDepth 100000 in
theorem g_F_notIn {r : Int32} {M' : Mem} (C : GC p s m args meth c b_F_notIn 2 (some (FieldType.int)) "NoneWords$Facts" TB D vwCl (tysW cI cZ cC) A Z) {x0 : Int32} {x1 : Int32} {M : Mem} (hf : f_F_notIn x0 x1 M = some (r, M')) : GW p l e rm_F_notIn s m args below meth c (MQ below (QW D vwCl (tysW cI cZ cC) A (some (.int r)) (wc ad cI cZ cC M')) args s 0 0 A) D vwCl A 2 0 0 (wc ad cI cZ cC M) 0 [(0, .int x0), (1, .int x1)] [] := by
  unfold f_F_notIn at hf
  refine gw_ldc (v := (33554431 : Int32)) C d_F_notIn_0 tw_266 ?_
  refine gw_iload_n C 1 d_F_notIn_2 rfl rfl ?_
  refine gw_iconst (v := (5 : Int32)) C d_F_notIn_3 (by decide) ?_
  refine gw_iload_n C 0 d_F_notIn_4 rfl rfl ?_
  refine gw_imul C d_F_notIn_5 ?_
  refine gw_ishl C d_F_notIn_6 ?_
  refine gw_iconst (v := (-1 : Int32)) C d_F_notIn_7 (by decide) ?_
  refine gw_ixor C d_F_notIn_8 ?_
  refine gw_iand C d_F_notIn_9 ?_
  exact gw_ireti C d_F_notIn_10 (wc ad cI cZ cC) hf
theorem c_F_notIn (hZ : gw_ZOK Z) {x0 : Int32} {x1 : Int32} {M : Mem} {r : Int32} {M' : Mem} (hf : f_F_notIn x0 x1 M = some (r, M')) : CW l y_F_notIn ws_F_notIn rm_F_notIn D vwCl (tysW cI cZ cC) Z [.int x0, .int x1] (wc ad cI cZ cC M) (some (.int r)) (wc ad cI cZ cC M') 0 0 :=
  CW.ofG hZ (by decide) rfl (Nat.le_of_ble_eq_true rfl) (fun _ _ _ _ _ _ _ _ C _ => g_F_notIn C hf)
abbrev b_F_addLeaf : ByteArray := prog_2_method_20_code
def y_F_addLeaf : MethodName := ⟨"NoneWords$Facts", "addLeaf", "(III)I"⟩
abbrev ws_F_addLeaf : List Cond := Cond.code y_F_addLeaf b_F_addLeaf 5 (some (FieldType.int)) :: TB
set_option maxRecDepth 100000 in
theorem tc_F_addLeaf : Cond.code y_F_addLeaf b_F_addLeaf 5 (some (FieldType.int)) ∈ TB := inTB 254 rfl rfl
theorem mv_F_addLeaf : Cond.instanceMethod y_F_addLeaf ∈ TB ∧ Cond.selects "NoneWords$Facts" y_F_addLeaf y_F_addLeaf ∈ TB ∧ Cond.initialized "NoneWords$Facts" ∈ TB ∧ Cond.code y_F_addLeaf b_F_addLeaf 5 (some (FieldType.int)) ∈ TB := ⟨inTB 252 (by decide +kernel) (by decide +kernel), inTB 253 (by decide +kernel) (by decide +kernel), inTB 66 (by decide +kernel) (by decide +kernel), tc_F_addLeaf⟩
theorem pd_F_addLeaf : y_F_addLeaf.cls = "NoneWords$Facts" ∧ y_F_addLeaf.cls ≠ "java/lang/invoke/MethodHandle" ∧ y_F_addLeaf.cls ≠ "java/lang/invoke/VarHandle" ∧ (parseMethodDescriptor y_F_addLeaf.desc).map (fun d => d.parameters.length) = some 3 := by decide +kernel
theorem d_F_addLeaf_0 : decode b_F_addLeaf 0 = .ok (.aload_n 0, 1) := by decide +kernel
theorem d_F_addLeaf_1 : decode b_F_addLeaf 1 = .ok (.iload_n 2, 1) := by decide +kernel
theorem d_F_addLeaf_2 : decode b_F_addLeaf 2 = .ok (.invokevirtual 69, 3) := by decide +kernel
theorem d_F_addLeaf_5 : decode b_F_addLeaf 5 = .ok (.ifCond .eq 12, 3) := by decide +kernel
theorem d_F_addLeaf_8 : decode b_F_addLeaf 8 = .ok (.aload_n 0, 1) := by decide +kernel
theorem d_F_addLeaf_9 : decode b_F_addLeaf 9 = .ok (.getfield 43, 3) := by decide +kernel
theorem d_F_addLeaf_12 : decode b_F_addLeaf 12 = .ok (.bipush 120, 2) := by decide +kernel
theorem d_F_addLeaf_14 : decode b_F_addLeaf 14 = .ok (.if_icmp .lt 5, 3) := by decide +kernel
theorem d_F_addLeaf_17 : decode b_F_addLeaf 17 = .ok (.iconst (-1), 1) := by decide +kernel
theorem d_F_addLeaf_18 : decode b_F_addLeaf 18 = .ok (.ireturn, 1) := by decide +kernel
theorem d_F_addLeaf_19 : decode b_F_addLeaf 19 = .ok (.iload_n 3, 1) := by decide +kernel
theorem d_F_addLeaf_20 : decode b_F_addLeaf 20 = .ok (.aload_n 0, 1) := by decide +kernel
theorem d_F_addLeaf_21 : decode b_F_addLeaf 21 = .ok (.iload_n 2, 1) := by decide +kernel
theorem d_F_addLeaf_22 : decode b_F_addLeaf 22 = .ok (.invokevirtual 72, 3) := by decide +kernel
theorem d_F_addLeaf_25 : decode b_F_addLeaf 25 = .ok (.iand, 1) := by decide +kernel
theorem d_F_addLeaf_26 : decode b_F_addLeaf 26 = .ok (.istore 4, 2) := by decide +kernel
theorem d_F_addLeaf_28 : decode b_F_addLeaf 28 = .ok (.aload_n 0, 1) := by decide +kernel
theorem d_F_addLeaf_29 : decode b_F_addLeaf 29 = .ok (.getfield 25, 3) := by decide +kernel
theorem d_F_addLeaf_32 : decode b_F_addLeaf 32 = .ok (.aload_n 0, 1) := by decide +kernel
theorem d_F_addLeaf_33 : decode b_F_addLeaf 33 = .ok (.getfield 43, 3) := by decide +kernel
theorem d_F_addLeaf_36 : decode b_F_addLeaf 36 = .ok (.iload_n 2, 1) := by decide +kernel
theorem d_F_addLeaf_37 : decode b_F_addLeaf 37 = .ok (.iastore, 1) := by decide +kernel
theorem d_F_addLeaf_38 : decode b_F_addLeaf 38 = .ok (.aload_n 0, 1) := by decide +kernel
theorem d_F_addLeaf_39 : decode b_F_addLeaf 39 = .ok (.getfield 28, 3) := by decide +kernel
theorem d_F_addLeaf_42 : decode b_F_addLeaf 42 = .ok (.aload_n 0, 1) := by decide +kernel
theorem d_F_addLeaf_43 : decode b_F_addLeaf 43 = .ok (.getfield 43, 3) := by decide +kernel
theorem d_F_addLeaf_46 : decode b_F_addLeaf 46 = .ok (.iload 4, 2) := by decide +kernel
theorem d_F_addLeaf_48 : decode b_F_addLeaf 48 = .ok (.iastore, 1) := by decide +kernel
theorem d_F_addLeaf_49 : decode b_F_addLeaf 49 = .ok (.aload_n 0, 1) := by decide +kernel
theorem d_F_addLeaf_50 : decode b_F_addLeaf 50 = .ok (.iload_n 1, 1) := by decide +kernel
theorem d_F_addLeaf_51 : decode b_F_addLeaf 51 = .ok (.iload_n 1, 1) := by decide +kernel
theorem d_F_addLeaf_52 : decode b_F_addLeaf 52 = .ok (.ifCond .ne 12, 3) := by decide +kernel
theorem d_F_addLeaf_55 : decode b_F_addLeaf 55 = .ok (.iload_n 2, 1) := by decide +kernel
theorem d_F_addLeaf_56 : decode b_F_addLeaf 56 = .ok (.iload 4, 2) := by decide +kernel
theorem d_F_addLeaf_58 : decode b_F_addLeaf 58 = .ok (.invokestatic 75, 3) := by decide +kernel
theorem d_F_addLeaf_61 : decode b_F_addLeaf 61 = .ok (.goto 9, 3) := by decide +kernel
theorem d_F_addLeaf_64 : decode b_F_addLeaf 64 = .ok (.iload_n 2, 1) := by decide +kernel
theorem d_F_addLeaf_65 : decode b_F_addLeaf 65 = .ok (.iload 4, 2) := by decide +kernel
theorem d_F_addLeaf_67 : decode b_F_addLeaf 67 = .ok (.invokestatic 79, 3) := by decide +kernel
theorem d_F_addLeaf_70 : decode b_F_addLeaf 70 = .ok (.invokevirtual 82, 3) := by decide +kernel
theorem d_F_addLeaf_73 : decode b_F_addLeaf 73 = .ok (.ireturn, 1) := by decide +kernel
abbrev rm_F_addLeaf : Room := { frames := 2, cells := 0, slots := 0, locals := 42 }
def f_F_addLeaf_70 (y0 : Int32) (y1 : Int32) (M : Mem) : Option (Int32 × Mem) :=
  ob (f_F_addNode y1 y0 M) fun r70 M70 => some (r70, M70)
set_option maxRecDepth 100000 in
theorem g_F_addLeaf_70 {r : Int32} {M' : Mem} (C : GC p s m args meth c b_F_addLeaf 5 (some (FieldType.int)) "NoneWords$Facts" TB D vwCl (tysW cI cZ cC) A Z) {y0 : Int32} {y1 : Int32} {M : Mem} (hf : f_F_addLeaf_70 y0 y1 M = some (r, M')) : GW p l e rm_F_addLeaf s m args below meth c (MQ below (QW D vwCl (tysW cI cZ cC) A (some (.int r)) (wc ad cI cZ cC M')) args s 0 0 A) D vwCl A 5 0 0 (wc ad cI cZ cC M) 70 [] [.int y0, .int y1, .ref (ad 1)] := by
  unfold f_F_addLeaf_70 at hf
  obtain ⟨r70, M70, hc70, hf⟩ := ob_some hf
  refine gw_callVr (rest := []) C 1 wcg_1 clg_0 (c_F_addNode C.2.2.2.2.2.2.2.2.2.2 hc70) (cwV 2 C.2.2.2.2.1 (gTB_V tw_270 mv_F_addNode) rfl rfl rfl pd_F_addNode ⟨Nat.le_of_ble_eq_true rfl, Nat.le_of_ble_eq_true rfl⟩) rfl rfl (Nat.le_of_ble_eq_true rfl) d_F_addLeaf_70 ⟨Nat.le_of_ble_eq_true rfl, Nat.le_of_ble_eq_true rfl⟩ ?_
  exact gw_ireti C d_F_addLeaf_73 (wc ad cI cZ cC) hf
def f_F_addLeaf (x1 : Int32) (x2 : Int32) (x3 : Int32) (M : Mem) : Option (Int32 × Mem) :=
  ob (f_F_hasName x2 M) fun r2 M2 => if r2 = 0 then some ((-1 : Int32), M2) else if (M2 1 10) < (120 : Int32) then ob (f_F_allVersions x2 M2) fun r22 M22 => gd (inb (M22 1 10) 120) (gd (inb ((ms M22 5 (M22 1 10).toNatClampNeg x2) 1 10) 120) (if x1 = 0 then ob (f_F_notIn x2 (x3 &&& r22) (ms (ms M22 5 (M22 1 10).toNatClampNeg x2) 6 ((ms M22 5 (M22 1 10).toNatClampNeg x2) 1 10).toNatClampNeg (x3 &&& r22))) fun r58 M58 => f_F_addLeaf_70 r58 x1 M58 else ob (f_F_wantedIn x2 (x3 &&& r22) (ms (ms M22 5 (M22 1 10).toNatClampNeg x2) 6 ((ms M22 5 (M22 1 10).toNatClampNeg x2) 1 10).toNatClampNeg (x3 &&& r22))) fun r67 M67 => f_F_addLeaf_70 r67 x1 M67)) else some ((-1 : Int32), M2)
set_option maxRecDepth 100000 in
theorem g_F_addLeaf {r : Int32} {M' : Mem} (C : GC p s m args meth c b_F_addLeaf 5 (some (FieldType.int)) "NoneWords$Facts" TB D vwCl (tysW cI cZ cC) A Z) {x1 : Int32} {x2 : Int32} {x3 : Int32} {M : Mem} (hf : f_F_addLeaf x1 x2 x3 M = some (r, M')) : GW p l e rm_F_addLeaf s m args below meth c (MQ below (QW D vwCl (tysW cI cZ cC) A (some (.int r)) (wc ad cI cZ cC M')) args s 0 0 A) D vwCl A 5 0 0 (wc ad cI cZ cC M) 0 [(0, .ref (ad 1)), (1, .int x1), (2, .int x2), (3, .int x3)] [] := by
  unfold f_F_addLeaf at hf
  refine gw_aload_n C 0 d_F_addLeaf_0 rfl rfl ?_
  refine gw_iload_n C 2 d_F_addLeaf_1 rfl rfl ?_
  obtain ⟨r2, M2, hc2, hf⟩ := ob_some hf
  refine gw_callVr (rest := []) C 1 wcg_1 clg_0 (c_F_hasName C.2.2.2.2.2.2.2.2.2.2 hc2) (cwV 1 C.2.2.2.2.1 (gTB_V tw_255 mv_F_hasName) rfl rfl rfl pd_F_hasName ⟨Nat.le_of_ble_eq_true rfl, Nat.le_of_ble_eq_true rfl⟩) rfl rfl (Nat.le_of_ble_eq_true rfl) d_F_addLeaf_2 ⟨Nat.le_of_ble_eq_true rfl, Nat.le_of_ble_eq_true rfl⟩ ?_
  refine gw_if_eq (tgt := 17) C d_F_addLeaf_5 (by decide) (fun c => ?_) (fun c => ?_)
  · have hf := (if_pos c).symm.trans hf
    refine gw_iconst (v := (-1 : Int32)) C d_F_addLeaf_17 (by decide) ?_
    exact gw_ireti C d_F_addLeaf_18 (wc ad cI cZ cC) hf
  · have hf := (if_neg c).symm.trans hf
    refine gw_aload_n C 0 d_F_addLeaf_8 rfl rfl ?_
    refine gw_get C in_F 1 wcg_1 clg_0 10 (by decide) tw_103 rfl rfl d_F_addLeaf_9 ?_
    refine gw_bipush (v := (120 : Int32)) C d_F_addLeaf_12 (by decide) ?_
    refine gw_icmp_lt (tgt := 19) C d_F_addLeaf_14 (by decide) (fun c => ?_) (fun c => ?_)
    · have hf := (if_pos c).symm.trans hf
      refine gw_iload_n C 3 d_F_addLeaf_19 rfl rfl ?_
      refine gw_aload_n C 0 d_F_addLeaf_20 rfl rfl ?_
      refine gw_iload_n C 2 d_F_addLeaf_21 rfl rfl ?_
      obtain ⟨r22, M22, hc22, hf⟩ := ob_some hf
      refine gw_callVr (rest := [.int x3]) C 1 wcg_1 clg_0 (c_F_allVersions C.2.2.2.2.2.2.2.2.2.2 hc22) (cwV 1 C.2.2.2.2.1 (gTB_V tw_259 mv_F_allVersions) rfl rfl rfl pd_F_allVersions ⟨Nat.le_of_ble_eq_true rfl, Nat.le_of_ble_eq_true rfl⟩) rfl rfl (Nat.le_of_ble_eq_true rfl) d_F_addLeaf_22 ⟨Nat.le_of_ble_eq_true rfl, Nat.le_of_ble_eq_true rfl⟩ ?_
      refine gw_iand C d_F_addLeaf_25 ?_
      refine gw_istore (lv' := [(4, .int (x3 &&& r22)), (0, .ref (ad 1)), (1, .int x1), (2, .int x2), (3, .int x3)]) C d_F_addLeaf_26 (by decide) rfl ?_
      refine gw_aload_n C 1 d_F_addLeaf_28 rfl rfl ?_
      refine gw_get C in_F 1 wcg_1 clg_0 4 (by decide) tw_97 rfl rfl d_F_addLeaf_29 ?_
      refine gw_aload_n C 1 d_F_addLeaf_32 rfl rfl ?_
      refine gw_get C in_F 1 wcg_1 clg_0 10 (by decide) tw_103 rfl rfl d_F_addLeaf_33 ?_
      refine gw_iload_n C 3 d_F_addLeaf_36 rfl rfl ?_
      obtain ⟨hb37, hf⟩ := gd_some hf
      refine gw_iast C 5 0 wcg_5 rfl hb37 d_F_addLeaf_37 wca_5 ?_
      refine gw_aload_n C 1 d_F_addLeaf_38 rfl rfl ?_
      refine gw_get C in_F 1 wcg_1 clg_0 5 (by decide) tw_98 rfl rfl d_F_addLeaf_39 ?_
      refine gw_aload_n C 1 d_F_addLeaf_42 rfl rfl ?_
      refine gw_get C in_F 1 wcg_1 clg_0 10 (by decide) tw_103 rfl rfl d_F_addLeaf_43 ?_
      refine gw_iload C 0 d_F_addLeaf_46 rfl ?_
      obtain ⟨hb48, hf⟩ := gd_some hf
      refine gw_iast C 6 0 wcg_6 rfl hb48 d_F_addLeaf_48 wca_6 ?_
      refine gw_aload_n C 1 d_F_addLeaf_49 rfl rfl ?_
      refine gw_iload_n C 2 d_F_addLeaf_50 rfl rfl ?_
      refine gw_iload_n C 2 d_F_addLeaf_51 rfl rfl ?_
      refine gw_if_ne (tgt := 64) C d_F_addLeaf_52 (by decide) (fun c => ?_) (fun c => ?_)
      · have hf := (if_neg c).symm.trans hf
        refine gw_iload_n C 3 d_F_addLeaf_64 rfl rfl ?_
        refine gw_iload C 0 d_F_addLeaf_65 rfl ?_
        obtain ⟨r67, M67, hc67, hf⟩ := ob_some hf
        refine gw_callSr (rest := [.int x1, .ref (ad 1)]) C (c_F_wantedIn C.2.2.2.2.2.2.2.2.2.2 hc67) (cwS 2 C.2.2.2.2.1 (gTB_S tw_267 mv_F_wantedIn) rfl rfl rfl pd_F_wantedIn ⟨Nat.le_of_ble_eq_true rfl, Nat.le_of_ble_eq_true rfl⟩) rfl rfl (Nat.le_of_ble_eq_true rfl) d_F_addLeaf_67 ⟨Nat.le_of_ble_eq_true rfl, Nat.le_of_ble_eq_true rfl⟩ ?_
        exact gw_sub [] rfl (g_F_addLeaf_70 C hf)
      · have hf := (if_pos c).symm.trans hf
        refine gw_iload_n C 3 d_F_addLeaf_55 rfl rfl ?_
        refine gw_iload C 0 d_F_addLeaf_56 rfl ?_
        obtain ⟨r58, M58, hc58, hf⟩ := ob_some hf
        refine gw_callSr (rest := [.int x1, .ref (ad 1)]) C (c_F_notIn C.2.2.2.2.2.2.2.2.2.2 hc58) (cwS 2 C.2.2.2.2.1 (gTB_S tw_263 mv_F_notIn) rfl rfl rfl pd_F_notIn ⟨Nat.le_of_ble_eq_true rfl, Nat.le_of_ble_eq_true rfl⟩) rfl rfl (Nat.le_of_ble_eq_true rfl) d_F_addLeaf_58 ⟨Nat.le_of_ble_eq_true rfl, Nat.le_of_ble_eq_true rfl⟩ ?_
        refine gw_goto (tgt := 70) C d_F_addLeaf_61 (by decide) ?_
        exact gw_sub [] rfl (g_F_addLeaf_70 C hf)
    · have hf := (if_neg c).symm.trans hf
      refine gw_iconst (v := (-1 : Int32)) C d_F_addLeaf_17 (by decide) ?_
      exact gw_ireti C d_F_addLeaf_18 (wc ad cI cZ cC) hf
theorem c_F_addLeaf (hZ : gw_ZOK Z) {x1 : Int32} {x2 : Int32} {x3 : Int32} {M : Mem} {r : Int32} {M' : Mem} (hf : f_F_addLeaf x1 x2 x3 M = some (r, M')) : CW l y_F_addLeaf ws_F_addLeaf rm_F_addLeaf D vwCl (tysW cI cZ cC) Z [.ref (ad 1), .int x1, .int x2, .int x3] (wc ad cI cZ cC M) (some (.int r)) (wc ad cI cZ cC M') 0 0 :=
  CW.ofG hZ (by decide) rfl (Nat.le_of_ble_eq_true rfl) (fun _ _ _ _ _ _ _ _ C _ => g_F_addLeaf C hf)
abbrev b_F_addPairLeaf : ByteArray := prog_2_method_21_code
def y_F_addPairLeaf : MethodName := ⟨"NoneWords$Facts", "addPairLeaf", "(IIIII)I"⟩
abbrev ws_F_addPairLeaf : List Cond := Cond.code y_F_addPairLeaf b_F_addPairLeaf 9 (some (FieldType.int)) :: TB
set_option maxRecDepth 100000 in
theorem tc_F_addPairLeaf : Cond.code y_F_addPairLeaf b_F_addPairLeaf 9 (some (FieldType.int)) ∈ TB := inTB 277 rfl rfl
theorem mv_F_addPairLeaf : Cond.instanceMethod y_F_addPairLeaf ∈ TB ∧ Cond.selects "NoneWords$Facts" y_F_addPairLeaf y_F_addPairLeaf ∈ TB ∧ Cond.initialized "NoneWords$Facts" ∈ TB ∧ Cond.code y_F_addPairLeaf b_F_addPairLeaf 9 (some (FieldType.int)) ∈ TB := ⟨inTB 275 (by decide +kernel) (by decide +kernel), inTB 276 (by decide +kernel) (by decide +kernel), inTB 66 (by decide +kernel) (by decide +kernel), tc_F_addPairLeaf⟩
theorem pd_F_addPairLeaf : y_F_addPairLeaf.cls = "NoneWords$Facts" ∧ y_F_addPairLeaf.cls ≠ "java/lang/invoke/MethodHandle" ∧ y_F_addPairLeaf.cls ≠ "java/lang/invoke/VarHandle" ∧ (parseMethodDescriptor y_F_addPairLeaf.desc).map (fun d => d.parameters.length) = some 5 := by decide +kernel
theorem d_F_addPairLeaf_0 : decode b_F_addPairLeaf 0 = .ok (.aload_n 0, 1) := by decide +kernel
theorem d_F_addPairLeaf_1 : decode b_F_addPairLeaf 1 = .ok (.iload_n 2, 1) := by decide +kernel
theorem d_F_addPairLeaf_2 : decode b_F_addPairLeaf 2 = .ok (.invokevirtual 69, 3) := by decide +kernel
theorem d_F_addPairLeaf_5 : decode b_F_addPairLeaf 5 = .ok (.ifCond .eq 27, 3) := by decide +kernel
theorem d_F_addPairLeaf_8 : decode b_F_addPairLeaf 8 = .ok (.aload_n 0, 1) := by decide +kernel
theorem d_F_addPairLeaf_9 : decode b_F_addPairLeaf 9 = .ok (.iload 4, 2) := by decide +kernel
theorem d_F_addPairLeaf_11 : decode b_F_addPairLeaf 11 = .ok (.invokevirtual 69, 3) := by decide +kernel
theorem d_F_addPairLeaf_14 : decode b_F_addPairLeaf 14 = .ok (.ifCond .eq 18, 3) := by decide +kernel
theorem d_F_addPairLeaf_17 : decode b_F_addPairLeaf 17 = .ok (.iload_n 2, 1) := by decide +kernel
theorem d_F_addPairLeaf_18 : decode b_F_addPairLeaf 18 = .ok (.iload 4, 2) := by decide +kernel
theorem d_F_addPairLeaf_20 : decode b_F_addPairLeaf 20 = .ok (.if_icmp .eq 12, 3) := by decide +kernel
theorem d_F_addPairLeaf_23 : decode b_F_addPairLeaf 23 = .ok (.aload_n 0, 1) := by decide +kernel
theorem d_F_addPairLeaf_24 : decode b_F_addPairLeaf 24 = .ok (.getfield 43, 3) := by decide +kernel
theorem d_F_addPairLeaf_27 : decode b_F_addPairLeaf 27 = .ok (.bipush 120, 2) := by decide +kernel
theorem d_F_addPairLeaf_29 : decode b_F_addPairLeaf 29 = .ok (.if_icmp .lt 5, 3) := by decide +kernel
theorem d_F_addPairLeaf_32 : decode b_F_addPairLeaf 32 = .ok (.iconst (-1), 1) := by decide +kernel
theorem d_F_addPairLeaf_33 : decode b_F_addPairLeaf 33 = .ok (.ireturn, 1) := by decide +kernel
theorem d_F_addPairLeaf_34 : decode b_F_addPairLeaf 34 = .ok (.iload_n 3, 1) := by decide +kernel
theorem d_F_addPairLeaf_35 : decode b_F_addPairLeaf 35 = .ok (.aload_n 0, 1) := by decide +kernel
theorem d_F_addPairLeaf_36 : decode b_F_addPairLeaf 36 = .ok (.iload_n 2, 1) := by decide +kernel
theorem d_F_addPairLeaf_37 : decode b_F_addPairLeaf 37 = .ok (.invokevirtual 72, 3) := by decide +kernel
theorem d_F_addPairLeaf_40 : decode b_F_addPairLeaf 40 = .ok (.iand, 1) := by decide +kernel
theorem d_F_addPairLeaf_41 : decode b_F_addPairLeaf 41 = .ok (.istore 6, 2) := by decide +kernel
theorem d_F_addPairLeaf_43 : decode b_F_addPairLeaf 43 = .ok (.iload 5, 2) := by decide +kernel
theorem d_F_addPairLeaf_45 : decode b_F_addPairLeaf 45 = .ok (.aload_n 0, 1) := by decide +kernel
theorem d_F_addPairLeaf_46 : decode b_F_addPairLeaf 46 = .ok (.iload 4, 2) := by decide +kernel
theorem d_F_addPairLeaf_48 : decode b_F_addPairLeaf 48 = .ok (.invokevirtual 72, 3) := by decide +kernel
theorem d_F_addPairLeaf_51 : decode b_F_addPairLeaf 51 = .ok (.iand, 1) := by decide +kernel
theorem d_F_addPairLeaf_52 : decode b_F_addPairLeaf 52 = .ok (.istore 7, 2) := by decide +kernel
theorem d_F_addPairLeaf_54 : decode b_F_addPairLeaf 54 = .ok (.aload_n 0, 1) := by decide +kernel
theorem d_F_addPairLeaf_55 : decode b_F_addPairLeaf 55 = .ok (.getfield 25, 3) := by decide +kernel
theorem d_F_addPairLeaf_58 : decode b_F_addPairLeaf 58 = .ok (.aload_n 0, 1) := by decide +kernel
theorem d_F_addPairLeaf_59 : decode b_F_addPairLeaf 59 = .ok (.getfield 43, 3) := by decide +kernel
theorem d_F_addPairLeaf_62 : decode b_F_addPairLeaf 62 = .ok (.iload_n 2, 1) := by decide +kernel
theorem d_F_addPairLeaf_63 : decode b_F_addPairLeaf 63 = .ok (.iastore, 1) := by decide +kernel
theorem d_F_addPairLeaf_64 : decode b_F_addPairLeaf 64 = .ok (.aload_n 0, 1) := by decide +kernel
theorem d_F_addPairLeaf_65 : decode b_F_addPairLeaf 65 = .ok (.getfield 28, 3) := by decide +kernel
theorem d_F_addPairLeaf_68 : decode b_F_addPairLeaf 68 = .ok (.aload_n 0, 1) := by decide +kernel
theorem d_F_addPairLeaf_69 : decode b_F_addPairLeaf 69 = .ok (.getfield 43, 3) := by decide +kernel
theorem d_F_addPairLeaf_72 : decode b_F_addPairLeaf 72 = .ok (.iload 6, 2) := by decide +kernel
theorem d_F_addPairLeaf_74 : decode b_F_addPairLeaf 74 = .ok (.iastore, 1) := by decide +kernel
theorem d_F_addPairLeaf_75 : decode b_F_addPairLeaf 75 = .ok (.aload_n 0, 1) := by decide +kernel
theorem d_F_addPairLeaf_76 : decode b_F_addPairLeaf 76 = .ok (.getfield 31, 3) := by decide +kernel
theorem d_F_addPairLeaf_79 : decode b_F_addPairLeaf 79 = .ok (.aload_n 0, 1) := by decide +kernel
theorem d_F_addPairLeaf_80 : decode b_F_addPairLeaf 80 = .ok (.getfield 43, 3) := by decide +kernel
theorem d_F_addPairLeaf_83 : decode b_F_addPairLeaf 83 = .ok (.iload 4, 2) := by decide +kernel
theorem d_F_addPairLeaf_85 : decode b_F_addPairLeaf 85 = .ok (.iastore, 1) := by decide +kernel
theorem d_F_addPairLeaf_86 : decode b_F_addPairLeaf 86 = .ok (.aload_n 0, 1) := by decide +kernel
theorem d_F_addPairLeaf_87 : decode b_F_addPairLeaf 87 = .ok (.getfield 34, 3) := by decide +kernel
theorem d_F_addPairLeaf_90 : decode b_F_addPairLeaf 90 = .ok (.aload_n 0, 1) := by decide +kernel
theorem d_F_addPairLeaf_91 : decode b_F_addPairLeaf 91 = .ok (.getfield 43, 3) := by decide +kernel
theorem d_F_addPairLeaf_94 : decode b_F_addPairLeaf 94 = .ok (.iload 7, 2) := by decide +kernel
theorem d_F_addPairLeaf_96 : decode b_F_addPairLeaf 96 = .ok (.iastore, 1) := by decide +kernel
theorem d_F_addPairLeaf_97 : decode b_F_addPairLeaf 97 = .ok (.iload_n 1, 1) := by decide +kernel
theorem d_F_addPairLeaf_98 : decode b_F_addPairLeaf 98 = .ok (.iconst 1, 1) := by decide +kernel
theorem d_F_addPairLeaf_99 : decode b_F_addPairLeaf 99 = .ok (.if_icmp .ne 13, 3) := by decide +kernel
theorem d_F_addPairLeaf_102 : decode b_F_addPairLeaf 102 = .ok (.iload 4, 2) := by decide +kernel
theorem d_F_addPairLeaf_104 : decode b_F_addPairLeaf 104 = .ok (.iload 7, 2) := by decide +kernel
theorem d_F_addPairLeaf_106 : decode b_F_addPairLeaf 106 = .ok (.invokestatic 75, 3) := by decide +kernel
theorem d_F_addPairLeaf_109 : decode b_F_addPairLeaf 109 = .ok (.goto 10, 3) := by decide +kernel
theorem d_F_addPairLeaf_112 : decode b_F_addPairLeaf 112 = .ok (.iload 4, 2) := by decide +kernel
theorem d_F_addPairLeaf_114 : decode b_F_addPairLeaf 114 = .ok (.iload 7, 2) := by decide +kernel
theorem d_F_addPairLeaf_116 : decode b_F_addPairLeaf 116 = .ok (.invokestatic 79, 3) := by decide +kernel
theorem d_F_addPairLeaf_119 : decode b_F_addPairLeaf 119 = .ok (.istore 8, 2) := by decide +kernel
theorem d_F_addPairLeaf_121 : decode b_F_addPairLeaf 121 = .ok (.aload_n 0, 1) := by decide +kernel
theorem d_F_addPairLeaf_122 : decode b_F_addPairLeaf 122 = .ok (.iload_n 1, 1) := by decide +kernel
theorem d_F_addPairLeaf_123 : decode b_F_addPairLeaf 123 = .ok (.iload_n 2, 1) := by decide +kernel
theorem d_F_addPairLeaf_124 : decode b_F_addPairLeaf 124 = .ok (.iload 6, 2) := by decide +kernel
theorem d_F_addPairLeaf_126 : decode b_F_addPairLeaf 126 = .ok (.invokestatic 79, 3) := by decide +kernel
theorem d_F_addPairLeaf_129 : decode b_F_addPairLeaf 129 = .ok (.iload 8, 2) := by decide +kernel
theorem d_F_addPairLeaf_131 : decode b_F_addPairLeaf 131 = .ok (.iand, 1) := by decide +kernel
theorem d_F_addPairLeaf_132 : decode b_F_addPairLeaf 132 = .ok (.invokevirtual 82, 3) := by decide +kernel
theorem d_F_addPairLeaf_135 : decode b_F_addPairLeaf 135 = .ok (.ireturn, 1) := by decide +kernel
abbrev rm_F_addPairLeaf : Room := { frames := 2, cells := 0, slots := 0, locals := 42 }
def f_F_addPairLeaf_119 (x1 : Int32) (x2 : Int32) (x6 : Int32) (y0 : Int32) (M : Mem) : Option (Int32 × Mem) :=
  ob (f_F_wantedIn x2 x6 M) fun r126 M126 => ob (f_F_addNode x1 (r126 &&& y0) M126) fun r132 M132 => some (r132, M132)
set_option maxRecDepth 100000 in
theorem g_F_addPairLeaf_119 {r : Int32} {M' : Mem} (C : GC p s m args meth c b_F_addPairLeaf 9 (some (FieldType.int)) "NoneWords$Facts" TB D vwCl (tysW cI cZ cC) A Z) {x1 : Int32} {x2 : Int32} {x6 : Int32} {y0 : Int32} {M : Mem} (hf : f_F_addPairLeaf_119 x1 x2 x6 y0 M = some (r, M')) : GW p l e rm_F_addPairLeaf s m args below meth c (MQ below (QW D vwCl (tysW cI cZ cC) A (some (.int r)) (wc ad cI cZ cC M')) args s 0 0 A) D vwCl A 9 0 0 (wc ad cI cZ cC M) 119 [(0, .ref (ad 1)), (1, .int x1), (2, .int x2), (6, .int x6)] [.int y0] := by
  unfold f_F_addPairLeaf_119 at hf
  refine gw_istore (lv' := [(8, .int y0), (0, .ref (ad 1)), (1, .int x1), (2, .int x2), (6, .int x6)]) C d_F_addPairLeaf_119 (by decide) rfl ?_
  refine gw_aload_n C 1 d_F_addPairLeaf_121 rfl rfl ?_
  refine gw_iload_n C 2 d_F_addPairLeaf_122 rfl rfl ?_
  refine gw_iload_n C 3 d_F_addPairLeaf_123 rfl rfl ?_
  refine gw_iload C 4 d_F_addPairLeaf_124 rfl ?_
  obtain ⟨r126, M126, hc126, hf⟩ := ob_some hf
  refine gw_callSr (rest := [.int x1, .ref (ad 1)]) C (c_F_wantedIn C.2.2.2.2.2.2.2.2.2.2 hc126) (cwS 2 C.2.2.2.2.1 (gTB_S tw_267 mv_F_wantedIn) rfl rfl rfl pd_F_wantedIn ⟨Nat.le_of_ble_eq_true rfl, Nat.le_of_ble_eq_true rfl⟩) rfl rfl (Nat.le_of_ble_eq_true rfl) d_F_addPairLeaf_126 ⟨Nat.le_of_ble_eq_true rfl, Nat.le_of_ble_eq_true rfl⟩ ?_
  refine gw_iload C 0 d_F_addPairLeaf_129 rfl ?_
  refine gw_iand C d_F_addPairLeaf_131 ?_
  obtain ⟨r132, M132, hc132, hf⟩ := ob_some hf
  refine gw_callVr (rest := []) C 1 wcg_1 clg_0 (c_F_addNode C.2.2.2.2.2.2.2.2.2.2 hc132) (cwV 2 C.2.2.2.2.1 (gTB_V tw_270 mv_F_addNode) rfl rfl rfl pd_F_addNode ⟨Nat.le_of_ble_eq_true rfl, Nat.le_of_ble_eq_true rfl⟩) rfl rfl (Nat.le_of_ble_eq_true rfl) d_F_addPairLeaf_132 ⟨Nat.le_of_ble_eq_true rfl, Nat.le_of_ble_eq_true rfl⟩ ?_
  exact gw_ireti C d_F_addPairLeaf_135 (wc ad cI cZ cC) hf
def f_F_addPairLeaf (x1 : Int32) (x2 : Int32) (x3 : Int32) (x4 : Int32) (x5 : Int32) (M : Mem) : Option (Int32 × Mem) :=
  ob (f_F_hasName x2 M) fun r2 M2 => if r2 = 0 then some ((-1 : Int32), M2) else ob (f_F_hasName x4 M2) fun r11 M11 => if r11 = 0 then some ((-1 : Int32), M11) else if x2 = x4 then some ((-1 : Int32), M11) else if (M11 1 10) < (120 : Int32) then ob (f_F_allVersions x2 M11) fun r37 M37 => ob (f_F_allVersions x4 M37) fun r48 M48 => gd (inb (M48 1 10) 120) (gd (inb ((ms M48 5 (M48 1 10).toNatClampNeg x2) 1 10) 120) (gd (inb ((ms (ms M48 5 (M48 1 10).toNatClampNeg x2) 6 ((ms M48 5 (M48 1 10).toNatClampNeg x2) 1 10).toNatClampNeg (x3 &&& r37)) 1 10) 120) (gd (inb ((ms (ms (ms M48 5 (M48 1 10).toNatClampNeg x2) 6 ((ms M48 5 (M48 1 10).toNatClampNeg x2) 1 10).toNatClampNeg (x3 &&& r37)) 7 ((ms (ms M48 5 (M48 1 10).toNatClampNeg x2) 6 ((ms M48 5 (M48 1 10).toNatClampNeg x2) 1 10).toNatClampNeg (x3 &&& r37)) 1 10).toNatClampNeg x4) 1 10) 120) (if x1 = (1 : Int32) then ob (f_F_notIn x4 (x5 &&& r48) (ms (ms (ms (ms M48 5 (M48 1 10).toNatClampNeg x2) 6 ((ms M48 5 (M48 1 10).toNatClampNeg x2) 1 10).toNatClampNeg (x3 &&& r37)) 7 ((ms (ms M48 5 (M48 1 10).toNatClampNeg x2) 6 ((ms M48 5 (M48 1 10).toNatClampNeg x2) 1 10).toNatClampNeg (x3 &&& r37)) 1 10).toNatClampNeg x4) 8 ((ms (ms (ms M48 5 (M48 1 10).toNatClampNeg x2) 6 ((ms M48 5 (M48 1 10).toNatClampNeg x2) 1 10).toNatClampNeg (x3 &&& r37)) 7 ((ms (ms M48 5 (M48 1 10).toNatClampNeg x2) 6 ((ms M48 5 (M48 1 10).toNatClampNeg x2) 1 10).toNatClampNeg (x3 &&& r37)) 1 10).toNatClampNeg x4) 1 10).toNatClampNeg (x5 &&& r48))) fun r106 M106 => f_F_addPairLeaf_119 x1 x2 (x3 &&& r37) r106 M106 else ob (f_F_wantedIn x4 (x5 &&& r48) (ms (ms (ms (ms M48 5 (M48 1 10).toNatClampNeg x2) 6 ((ms M48 5 (M48 1 10).toNatClampNeg x2) 1 10).toNatClampNeg (x3 &&& r37)) 7 ((ms (ms M48 5 (M48 1 10).toNatClampNeg x2) 6 ((ms M48 5 (M48 1 10).toNatClampNeg x2) 1 10).toNatClampNeg (x3 &&& r37)) 1 10).toNatClampNeg x4) 8 ((ms (ms (ms M48 5 (M48 1 10).toNatClampNeg x2) 6 ((ms M48 5 (M48 1 10).toNatClampNeg x2) 1 10).toNatClampNeg (x3 &&& r37)) 7 ((ms (ms M48 5 (M48 1 10).toNatClampNeg x2) 6 ((ms M48 5 (M48 1 10).toNatClampNeg x2) 1 10).toNatClampNeg (x3 &&& r37)) 1 10).toNatClampNeg x4) 1 10).toNatClampNeg (x5 &&& r48))) fun r116 M116 => f_F_addPairLeaf_119 x1 x2 (x3 &&& r37) r116 M116)))) else some ((-1 : Int32), M11)
set_option maxRecDepth 100000 in
theorem g_F_addPairLeaf {r : Int32} {M' : Mem} (C : GC p s m args meth c b_F_addPairLeaf 9 (some (FieldType.int)) "NoneWords$Facts" TB D vwCl (tysW cI cZ cC) A Z) {x1 : Int32} {x2 : Int32} {x3 : Int32} {x4 : Int32} {x5 : Int32} {M : Mem} (hf : f_F_addPairLeaf x1 x2 x3 x4 x5 M = some (r, M')) : GW p l e rm_F_addPairLeaf s m args below meth c (MQ below (QW D vwCl (tysW cI cZ cC) A (some (.int r)) (wc ad cI cZ cC M')) args s 0 0 A) D vwCl A 9 0 0 (wc ad cI cZ cC M) 0 [(0, .ref (ad 1)), (1, .int x1), (2, .int x2), (3, .int x3), (4, .int x4), (5, .int x5)] [] := by
  unfold f_F_addPairLeaf at hf
  refine gw_aload_n C 0 d_F_addPairLeaf_0 rfl rfl ?_
  refine gw_iload_n C 2 d_F_addPairLeaf_1 rfl rfl ?_
  obtain ⟨r2, M2, hc2, hf⟩ := ob_some hf
  refine gw_callVr (rest := []) C 1 wcg_1 clg_0 (c_F_hasName C.2.2.2.2.2.2.2.2.2.2 hc2) (cwV 1 C.2.2.2.2.1 (gTB_V tw_255 mv_F_hasName) rfl rfl rfl pd_F_hasName ⟨Nat.le_of_ble_eq_true rfl, Nat.le_of_ble_eq_true rfl⟩) rfl rfl (Nat.le_of_ble_eq_true rfl) d_F_addPairLeaf_2 ⟨Nat.le_of_ble_eq_true rfl, Nat.le_of_ble_eq_true rfl⟩ ?_
  refine gw_if_eq (tgt := 32) C d_F_addPairLeaf_5 (by decide) (fun c => ?_) (fun c => ?_)
  · have hf := (if_pos c).symm.trans hf
    refine gw_iconst (v := (-1 : Int32)) C d_F_addPairLeaf_32 (by decide) ?_
    exact gw_ireti C d_F_addPairLeaf_33 (wc ad cI cZ cC) hf
  · have hf := (if_neg c).symm.trans hf
    refine gw_aload_n C 0 d_F_addPairLeaf_8 rfl rfl ?_
    refine gw_iload C 4 d_F_addPairLeaf_9 rfl ?_
    obtain ⟨r11, M11, hc11, hf⟩ := ob_some hf
    refine gw_callVr (rest := []) C 1 wcg_1 clg_0 (c_F_hasName C.2.2.2.2.2.2.2.2.2.2 hc11) (cwV 1 C.2.2.2.2.1 (gTB_V tw_255 mv_F_hasName) rfl rfl rfl pd_F_hasName ⟨Nat.le_of_ble_eq_true rfl, Nat.le_of_ble_eq_true rfl⟩) rfl rfl (Nat.le_of_ble_eq_true rfl) d_F_addPairLeaf_11 ⟨Nat.le_of_ble_eq_true rfl, Nat.le_of_ble_eq_true rfl⟩ ?_
    refine gw_if_eq (tgt := 32) C d_F_addPairLeaf_14 (by decide) (fun c => ?_) (fun c => ?_)
    · have hf := (if_pos c).symm.trans hf
      refine gw_iconst (v := (-1 : Int32)) C d_F_addPairLeaf_32 (by decide) ?_
      exact gw_ireti C d_F_addPairLeaf_33 (wc ad cI cZ cC) hf
    · have hf := (if_neg c).symm.trans hf
      refine gw_iload_n C 2 d_F_addPairLeaf_17 rfl rfl ?_
      refine gw_iload C 4 d_F_addPairLeaf_18 rfl ?_
      refine gw_icmp_eq (tgt := 32) C d_F_addPairLeaf_20 (by decide) (fun c => ?_) (fun c => ?_)
      · have hf := (if_pos c).symm.trans hf
        refine gw_iconst (v := (-1 : Int32)) C d_F_addPairLeaf_32 (by decide) ?_
        exact gw_ireti C d_F_addPairLeaf_33 (wc ad cI cZ cC) hf
      · have hf := (if_neg c).symm.trans hf
        refine gw_aload_n C 0 d_F_addPairLeaf_23 rfl rfl ?_
        refine gw_get C in_F 1 wcg_1 clg_0 10 (by decide) tw_103 rfl rfl d_F_addPairLeaf_24 ?_
        refine gw_bipush (v := (120 : Int32)) C d_F_addPairLeaf_27 (by decide) ?_
        refine gw_icmp_lt (tgt := 34) C d_F_addPairLeaf_29 (by decide) (fun c => ?_) (fun c => ?_)
        · have hf := (if_pos c).symm.trans hf
          refine gw_iload_n C 3 d_F_addPairLeaf_34 rfl rfl ?_
          refine gw_aload_n C 0 d_F_addPairLeaf_35 rfl rfl ?_
          refine gw_iload_n C 2 d_F_addPairLeaf_36 rfl rfl ?_
          obtain ⟨r37, M37, hc37, hf⟩ := ob_some hf
          refine gw_callVr (rest := [.int x3]) C 1 wcg_1 clg_0 (c_F_allVersions C.2.2.2.2.2.2.2.2.2.2 hc37) (cwV 1 C.2.2.2.2.1 (gTB_V tw_259 mv_F_allVersions) rfl rfl rfl pd_F_allVersions ⟨Nat.le_of_ble_eq_true rfl, Nat.le_of_ble_eq_true rfl⟩) rfl rfl (Nat.le_of_ble_eq_true rfl) d_F_addPairLeaf_37 ⟨Nat.le_of_ble_eq_true rfl, Nat.le_of_ble_eq_true rfl⟩ ?_
          refine gw_iand C d_F_addPairLeaf_40 ?_
          refine gw_istore (lv' := [(6, .int (x3 &&& r37)), (0, .ref (ad 1)), (1, .int x1), (2, .int x2), (3, .int x3), (4, .int x4), (5, .int x5)]) C d_F_addPairLeaf_41 (by decide) rfl ?_
          refine gw_iload C 6 d_F_addPairLeaf_43 rfl ?_
          refine gw_aload_n C 1 d_F_addPairLeaf_45 rfl rfl ?_
          refine gw_iload C 5 d_F_addPairLeaf_46 rfl ?_
          obtain ⟨r48, M48, hc48, hf⟩ := ob_some hf
          refine gw_callVr (rest := [.int x5]) C 1 wcg_1 clg_0 (c_F_allVersions C.2.2.2.2.2.2.2.2.2.2 hc48) (cwV 1 C.2.2.2.2.1 (gTB_V tw_259 mv_F_allVersions) rfl rfl rfl pd_F_allVersions ⟨Nat.le_of_ble_eq_true rfl, Nat.le_of_ble_eq_true rfl⟩) rfl rfl (Nat.le_of_ble_eq_true rfl) d_F_addPairLeaf_48 ⟨Nat.le_of_ble_eq_true rfl, Nat.le_of_ble_eq_true rfl⟩ ?_
          refine gw_iand C d_F_addPairLeaf_51 ?_
          refine gw_istore (lv' := [(7, .int (x5 &&& r48)), (6, .int (x3 &&& r37)), (0, .ref (ad 1)), (1, .int x1), (2, .int x2), (3, .int x3), (4, .int x4), (5, .int x5)]) C d_F_addPairLeaf_52 (by decide) rfl ?_
          refine gw_aload_n C 2 d_F_addPairLeaf_54 rfl rfl ?_
          refine gw_get C in_F 1 wcg_1 clg_0 4 (by decide) tw_97 rfl rfl d_F_addPairLeaf_55 ?_
          refine gw_aload_n C 2 d_F_addPairLeaf_58 rfl rfl ?_
          refine gw_get C in_F 1 wcg_1 clg_0 10 (by decide) tw_103 rfl rfl d_F_addPairLeaf_59 ?_
          refine gw_iload_n C 4 d_F_addPairLeaf_62 rfl rfl ?_
          obtain ⟨hb63, hf⟩ := gd_some hf
          refine gw_iast C 5 0 wcg_5 rfl hb63 d_F_addPairLeaf_63 wca_5 ?_
          refine gw_aload_n C 2 d_F_addPairLeaf_64 rfl rfl ?_
          refine gw_get C in_F 1 wcg_1 clg_0 5 (by decide) tw_98 rfl rfl d_F_addPairLeaf_65 ?_
          refine gw_aload_n C 2 d_F_addPairLeaf_68 rfl rfl ?_
          refine gw_get C in_F 1 wcg_1 clg_0 10 (by decide) tw_103 rfl rfl d_F_addPairLeaf_69 ?_
          refine gw_iload C 1 d_F_addPairLeaf_72 rfl ?_
          obtain ⟨hb74, hf⟩ := gd_some hf
          refine gw_iast C 6 0 wcg_6 rfl hb74 d_F_addPairLeaf_74 wca_6 ?_
          refine gw_aload_n C 2 d_F_addPairLeaf_75 rfl rfl ?_
          refine gw_get C in_F 1 wcg_1 clg_0 6 (by decide) tw_99 rfl rfl d_F_addPairLeaf_76 ?_
          refine gw_aload_n C 2 d_F_addPairLeaf_79 rfl rfl ?_
          refine gw_get C in_F 1 wcg_1 clg_0 10 (by decide) tw_103 rfl rfl d_F_addPairLeaf_80 ?_
          refine gw_iload C 6 d_F_addPairLeaf_83 rfl ?_
          obtain ⟨hb85, hf⟩ := gd_some hf
          refine gw_iast C 7 0 wcg_7 rfl hb85 d_F_addPairLeaf_85 wca_7 ?_
          refine gw_aload_n C 2 d_F_addPairLeaf_86 rfl rfl ?_
          refine gw_get C in_F 1 wcg_1 clg_0 7 (by decide) tw_100 rfl rfl d_F_addPairLeaf_87 ?_
          refine gw_aload_n C 2 d_F_addPairLeaf_90 rfl rfl ?_
          refine gw_get C in_F 1 wcg_1 clg_0 10 (by decide) tw_103 rfl rfl d_F_addPairLeaf_91 ?_
          refine gw_iload C 0 d_F_addPairLeaf_94 rfl ?_
          obtain ⟨hb96, hf⟩ := gd_some hf
          refine gw_iast C 8 0 wcg_8 rfl hb96 d_F_addPairLeaf_96 wca_8 ?_
          refine gw_iload_n C 3 d_F_addPairLeaf_97 rfl rfl ?_
          refine gw_iconst (v := (1 : Int32)) C d_F_addPairLeaf_98 (by decide) ?_
          refine gw_icmp_ne (tgt := 112) C d_F_addPairLeaf_99 (by decide) (fun c => ?_) (fun c => ?_)
          · have hf := (if_neg c).symm.trans hf
            refine gw_iload C 6 d_F_addPairLeaf_112 rfl ?_
            refine gw_iload C 0 d_F_addPairLeaf_114 rfl ?_
            obtain ⟨r116, M116, hc116, hf⟩ := ob_some hf
            refine gw_callSr (rest := []) C (c_F_wantedIn C.2.2.2.2.2.2.2.2.2.2 hc116) (cwS 2 C.2.2.2.2.1 (gTB_S tw_267 mv_F_wantedIn) rfl rfl rfl pd_F_wantedIn ⟨Nat.le_of_ble_eq_true rfl, Nat.le_of_ble_eq_true rfl⟩) rfl rfl (Nat.le_of_ble_eq_true rfl) d_F_addPairLeaf_116 ⟨Nat.le_of_ble_eq_true rfl, Nat.le_of_ble_eq_true rfl⟩ ?_
            exact gw_sub [2, 3, 4, 1] rfl (g_F_addPairLeaf_119 C hf)
          · have hf := (if_pos c).symm.trans hf
            refine gw_iload C 6 d_F_addPairLeaf_102 rfl ?_
            refine gw_iload C 0 d_F_addPairLeaf_104 rfl ?_
            obtain ⟨r106, M106, hc106, hf⟩ := ob_some hf
            refine gw_callSr (rest := []) C (c_F_notIn C.2.2.2.2.2.2.2.2.2.2 hc106) (cwS 2 C.2.2.2.2.1 (gTB_S tw_263 mv_F_notIn) rfl rfl rfl pd_F_notIn ⟨Nat.le_of_ble_eq_true rfl, Nat.le_of_ble_eq_true rfl⟩) rfl rfl (Nat.le_of_ble_eq_true rfl) d_F_addPairLeaf_106 ⟨Nat.le_of_ble_eq_true rfl, Nat.le_of_ble_eq_true rfl⟩ ?_
            refine gw_goto (tgt := 119) C d_F_addPairLeaf_109 (by decide) ?_
            exact gw_sub [2, 3, 4, 1] rfl (g_F_addPairLeaf_119 C hf)
        · have hf := (if_neg c).symm.trans hf
          refine gw_iconst (v := (-1 : Int32)) C d_F_addPairLeaf_32 (by decide) ?_
          exact gw_ireti C d_F_addPairLeaf_33 (wc ad cI cZ cC) hf
theorem c_F_addPairLeaf (hZ : gw_ZOK Z) {x1 : Int32} {x2 : Int32} {x3 : Int32} {x4 : Int32} {x5 : Int32} {M : Mem} {r : Int32} {M' : Mem} (hf : f_F_addPairLeaf x1 x2 x3 x4 x5 M = some (r, M')) : CW l y_F_addPairLeaf ws_F_addPairLeaf rm_F_addPairLeaf D vwCl (tysW cI cZ cC) Z [.ref (ad 1), .int x1, .int x2, .int x3, .int x4, .int x5] (wc ad cI cZ cC M) (some (.int r)) (wc ad cI cZ cC M') 0 0 :=
  CW.ofG hZ (by decide) rfl (Nat.le_of_ble_eq_true rfl) (fun _ _ _ _ _ _ _ _ C _ => g_F_addPairLeaf C hf)
abbrev b_F_optionsOfTerm : ByteArray := prog_2_method_26_code
def y_F_optionsOfTerm : MethodName := ⟨"NoneWords$Facts", "optionsOfTerm", "(II)I"⟩
abbrev ws_F_optionsOfTerm : List Cond := Cond.code y_F_optionsOfTerm b_F_optionsOfTerm 3 (some (FieldType.int)) :: TB
set_option maxRecDepth 100000 in
theorem tc_F_optionsOfTerm : Cond.code y_F_optionsOfTerm b_F_optionsOfTerm 3 (some (FieldType.int)) ∈ TB := inTB 293 rfl rfl
theorem mv_F_optionsOfTerm : Cond.instanceMethod y_F_optionsOfTerm ∈ TB ∧ Cond.selects "NoneWords$Facts" y_F_optionsOfTerm y_F_optionsOfTerm ∈ TB ∧ Cond.initialized "NoneWords$Facts" ∈ TB ∧ Cond.code y_F_optionsOfTerm b_F_optionsOfTerm 3 (some (FieldType.int)) ∈ TB := ⟨inTB 291 (by decide +kernel) (by decide +kernel), inTB 292 (by decide +kernel) (by decide +kernel), inTB 66 (by decide +kernel) (by decide +kernel), tc_F_optionsOfTerm⟩
theorem pd_F_optionsOfTerm : y_F_optionsOfTerm.cls = "NoneWords$Facts" ∧ y_F_optionsOfTerm.cls ≠ "java/lang/invoke/MethodHandle" ∧ y_F_optionsOfTerm.cls ≠ "java/lang/invoke/VarHandle" ∧ (parseMethodDescriptor y_F_optionsOfTerm.desc).map (fun d => d.parameters.length) = some 2 := by decide +kernel
theorem d_F_optionsOfTerm_0 : decode b_F_optionsOfTerm 0 = .ok (.iload_n 1, 1) := by decide +kernel
theorem d_F_optionsOfTerm_1 : decode b_F_optionsOfTerm 1 = .ok (.ifCond .lt 23, 3) := by decide +kernel
theorem d_F_optionsOfTerm_4 : decode b_F_optionsOfTerm 4 = .ok (.iload_n 1, 1) := by decide +kernel
theorem d_F_optionsOfTerm_5 : decode b_F_optionsOfTerm 5 = .ok (.aload_n 0, 1) := by decide +kernel
theorem d_F_optionsOfTerm_6 : decode b_F_optionsOfTerm 6 = .ok (.getfield 43, 3) := by decide +kernel
theorem d_F_optionsOfTerm_9 : decode b_F_optionsOfTerm 9 = .ok (.if_icmp .ge 15, 3) := by decide +kernel
theorem d_F_optionsOfTerm_12 : decode b_F_optionsOfTerm 12 = .ok (.iload_n 2, 1) := by decide +kernel
theorem d_F_optionsOfTerm_13 : decode b_F_optionsOfTerm 13 = .ok (.ifCond .lt 11, 3) := by decide +kernel
theorem d_F_optionsOfTerm_16 : decode b_F_optionsOfTerm 16 = .ok (.iload_n 2, 1) := by decide +kernel
theorem d_F_optionsOfTerm_17 : decode b_F_optionsOfTerm 17 = .ok (.aload_n 0, 1) := by decide +kernel
theorem d_F_optionsOfTerm_18 : decode b_F_optionsOfTerm 18 = .ok (.getfield 15, 3) := by decide +kernel
theorem d_F_optionsOfTerm_21 : decode b_F_optionsOfTerm 21 = .ok (.if_icmp .lt 6, 3) := by decide +kernel
theorem d_F_optionsOfTerm_24 : decode b_F_optionsOfTerm 24 = .ok (.bipush 31, 2) := by decide +kernel
theorem d_F_optionsOfTerm_26 : decode b_F_optionsOfTerm 26 = .ok (.ireturn, 1) := by decide +kernel
theorem d_F_optionsOfTerm_27 : decode b_F_optionsOfTerm 27 = .ok (.aload_n 0, 1) := by decide +kernel
theorem d_F_optionsOfTerm_28 : decode b_F_optionsOfTerm 28 = .ok (.getfield 22, 3) := by decide +kernel
theorem d_F_optionsOfTerm_31 : decode b_F_optionsOfTerm 31 = .ok (.iload_n 1, 1) := by decide +kernel
theorem d_F_optionsOfTerm_32 : decode b_F_optionsOfTerm 32 = .ok (.iaload, 1) := by decide +kernel
theorem d_F_optionsOfTerm_33 : decode b_F_optionsOfTerm 33 = .ok (.iconst 5, 1) := by decide +kernel
theorem d_F_optionsOfTerm_34 : decode b_F_optionsOfTerm 34 = .ok (.iload_n 2, 1) := by decide +kernel
theorem d_F_optionsOfTerm_35 : decode b_F_optionsOfTerm 35 = .ok (.imul, 1) := by decide +kernel
theorem d_F_optionsOfTerm_36 : decode b_F_optionsOfTerm 36 = .ok (.ishr, 1) := by decide +kernel
theorem d_F_optionsOfTerm_37 : decode b_F_optionsOfTerm 37 = .ok (.bipush 31, 2) := by decide +kernel
theorem d_F_optionsOfTerm_39 : decode b_F_optionsOfTerm 39 = .ok (.iand, 1) := by decide +kernel
theorem d_F_optionsOfTerm_40 : decode b_F_optionsOfTerm 40 = .ok (.ireturn, 1) := by decide +kernel
abbrev rm_F_optionsOfTerm : Room := { frames := 0, cells := 0, slots := 0, locals := 0 }
def f_F_optionsOfTerm (x1 : Int32) (x2 : Int32) (M : Mem) : Option (Int32 × Mem) :=
  if x1 < 0 then some ((31 : Int32), M) else if (M 1 10) ≤ x1 then some ((31 : Int32), M) else if x2 < 0 then some ((31 : Int32), M) else if x2 < (M 1 1) then gd (inb x1 120) (some (((M 4 x1.toNatClampNeg) >>> (((5 : Int32) * x2) &&& 31)) &&& (31 : Int32), M)) else some ((31 : Int32), M)
set_option maxRecDepth 100000 in
theorem g_F_optionsOfTerm {r : Int32} {M' : Mem} (C : GC p s m args meth c b_F_optionsOfTerm 3 (some (FieldType.int)) "NoneWords$Facts" TB D vwCl (tysW cI cZ cC) A Z) {x1 : Int32} {x2 : Int32} {M : Mem} (hf : f_F_optionsOfTerm x1 x2 M = some (r, M')) : GW p l e rm_F_optionsOfTerm s m args below meth c (MQ below (QW D vwCl (tysW cI cZ cC) A (some (.int r)) (wc ad cI cZ cC M')) args s 0 0 A) D vwCl A 3 0 0 (wc ad cI cZ cC M) 0 [(0, .ref (ad 1)), (1, .int x1), (2, .int x2)] [] := by
  unfold f_F_optionsOfTerm at hf
  refine gw_iload_n C 1 d_F_optionsOfTerm_0 rfl rfl ?_
  refine gw_if_lt (tgt := 24) C d_F_optionsOfTerm_1 (by decide) (fun c => ?_) (fun c => ?_)
  · have hf := (if_pos c).symm.trans hf
    refine gw_bipush (v := (31 : Int32)) C d_F_optionsOfTerm_24 (by decide) ?_
    exact gw_ireti C d_F_optionsOfTerm_26 (wc ad cI cZ cC) hf
  · have hf := (if_neg c).symm.trans hf
    refine gw_iload_n C 1 d_F_optionsOfTerm_4 rfl rfl ?_
    refine gw_aload_n C 0 d_F_optionsOfTerm_5 rfl rfl ?_
    refine gw_get C in_F 1 wcg_1 clg_0 10 (by decide) tw_103 rfl rfl d_F_optionsOfTerm_6 ?_
    refine gw_icmp_ge (tgt := 24) C d_F_optionsOfTerm_9 (by decide) (fun c => ?_) (fun c => ?_)
    · have hf := (if_pos c).symm.trans hf
      refine gw_bipush (v := (31 : Int32)) C d_F_optionsOfTerm_24 (by decide) ?_
      exact gw_ireti C d_F_optionsOfTerm_26 (wc ad cI cZ cC) hf
    · have hf := (if_neg c).symm.trans hf
      refine gw_iload_n C 2 d_F_optionsOfTerm_12 rfl rfl ?_
      refine gw_if_lt (tgt := 24) C d_F_optionsOfTerm_13 (by decide) (fun c => ?_) (fun c => ?_)
      · have hf := (if_pos c).symm.trans hf
        refine gw_bipush (v := (31 : Int32)) C d_F_optionsOfTerm_24 (by decide) ?_
        exact gw_ireti C d_F_optionsOfTerm_26 (wc ad cI cZ cC) hf
      · have hf := (if_neg c).symm.trans hf
        refine gw_iload_n C 2 d_F_optionsOfTerm_16 rfl rfl ?_
        refine gw_aload_n C 0 d_F_optionsOfTerm_17 rfl rfl ?_
        refine gw_get C in_F 1 wcg_1 clg_0 1 (by decide) tw_94 rfl rfl d_F_optionsOfTerm_18 ?_
        refine gw_icmp_lt (tgt := 27) C d_F_optionsOfTerm_21 (by decide) (fun c => ?_) (fun c => ?_)
        · have hf := (if_pos c).symm.trans hf
          refine gw_aload_n C 0 d_F_optionsOfTerm_27 rfl rfl ?_
          refine gw_get C in_F 1 wcg_1 clg_0 3 (by decide) tw_96 rfl rfl d_F_optionsOfTerm_28 ?_
          refine gw_iload_n C 1 d_F_optionsOfTerm_31 rfl rfl ?_
          obtain ⟨hb32, hf⟩ := gd_some hf
          refine gw_iald C 4 0 wcg_4 rfl hb32 d_F_optionsOfTerm_32 ?_
          refine gw_iconst (v := (5 : Int32)) C d_F_optionsOfTerm_33 (by decide) ?_
          refine gw_iload_n C 2 d_F_optionsOfTerm_34 rfl rfl ?_
          refine gw_imul C d_F_optionsOfTerm_35 ?_
          refine gw_ishr C d_F_optionsOfTerm_36 ?_
          refine gw_bipush (v := (31 : Int32)) C d_F_optionsOfTerm_37 (by decide) ?_
          refine gw_iand C d_F_optionsOfTerm_39 ?_
          exact gw_ireti C d_F_optionsOfTerm_40 (wc ad cI cZ cC) hf
        · have hf := (if_neg c).symm.trans hf
          refine gw_bipush (v := (31 : Int32)) C d_F_optionsOfTerm_24 (by decide) ?_
          exact gw_ireti C d_F_optionsOfTerm_26 (wc ad cI cZ cC) hf
theorem c_F_optionsOfTerm (hZ : gw_ZOK Z) {x1 : Int32} {x2 : Int32} {M : Mem} {r : Int32} {M' : Mem} (hf : f_F_optionsOfTerm x1 x2 M = some (r, M')) : CW l y_F_optionsOfTerm ws_F_optionsOfTerm rm_F_optionsOfTerm D vwCl (tysW cI cZ cC) Z [.ref (ad 1), .int x1, .int x2] (wc ad cI cZ cC M) (some (.int r)) (wc ad cI cZ cC M') 0 0 :=
  CW.ofG hZ (by decide) rfl (Nat.le_of_ble_eq_true rfl) (fun _ _ _ _ _ _ _ _ C _ => g_F_optionsOfTerm C hf)
abbrev b_F_addJoin : ByteArray := prog_2_method_22_code
def y_F_addJoin : MethodName := ⟨"NoneWords$Facts", "addJoin", "(III)I"⟩
abbrev ws_F_addJoin : List Cond := Cond.code y_F_addJoin b_F_addJoin 7 (some (FieldType.int)) :: TB
set_option maxRecDepth 100000 in
theorem tc_F_addJoin : Cond.code y_F_addJoin b_F_addJoin 7 (some (FieldType.int)) ∈ TB := inTB 285 rfl rfl
theorem mv_F_addJoin : Cond.instanceMethod y_F_addJoin ∈ TB ∧ Cond.selects "NoneWords$Facts" y_F_addJoin y_F_addJoin ∈ TB ∧ Cond.initialized "NoneWords$Facts" ∈ TB ∧ Cond.code y_F_addJoin b_F_addJoin 7 (some (FieldType.int)) ∈ TB := ⟨inTB 283 (by decide +kernel) (by decide +kernel), inTB 284 (by decide +kernel) (by decide +kernel), inTB 66 (by decide +kernel) (by decide +kernel), tc_F_addJoin⟩
theorem pd_F_addJoin : y_F_addJoin.cls = "NoneWords$Facts" ∧ y_F_addJoin.cls ≠ "java/lang/invoke/MethodHandle" ∧ y_F_addJoin.cls ≠ "java/lang/invoke/VarHandle" ∧ (parseMethodDescriptor y_F_addJoin.desc).map (fun d => d.parameters.length) = some 3 := by decide +kernel
theorem d_F_addJoin_0 : decode b_F_addJoin 0 = .ok (.aload_n 0, 1) := by decide +kernel
theorem d_F_addJoin_1 : decode b_F_addJoin 1 = .ok (.iload_n 1, 1) := by decide +kernel
theorem d_F_addJoin_2 : decode b_F_addJoin 2 = .ok (.invokevirtual 52, 3) := by decide +kernel
theorem d_F_addJoin_5 : decode b_F_addJoin 5 = .ok (.ifCond .eq 28, 3) := by decide +kernel
theorem d_F_addJoin_8 : decode b_F_addJoin 8 = .ok (.aload_n 0, 1) := by decide +kernel
theorem d_F_addJoin_9 : decode b_F_addJoin 9 = .ok (.iload_n 2, 1) := by decide +kernel
theorem d_F_addJoin_10 : decode b_F_addJoin 10 = .ok (.invokevirtual 52, 3) := by decide +kernel
theorem d_F_addJoin_13 : decode b_F_addJoin 13 = .ok (.ifCond .eq 20, 3) := by decide +kernel
theorem d_F_addJoin_16 : decode b_F_addJoin 16 = .ok (.aload_n 0, 1) := by decide +kernel
theorem d_F_addJoin_17 : decode b_F_addJoin 17 = .ok (.iload_n 3, 1) := by decide +kernel
theorem d_F_addJoin_18 : decode b_F_addJoin 18 = .ok (.invokevirtual 69, 3) := by decide +kernel
theorem d_F_addJoin_21 : decode b_F_addJoin 21 = .ok (.ifCond .eq 12, 3) := by decide +kernel
theorem d_F_addJoin_24 : decode b_F_addJoin 24 = .ok (.aload_n 0, 1) := by decide +kernel
theorem d_F_addJoin_25 : decode b_F_addJoin 25 = .ok (.getfield 43, 3) := by decide +kernel
theorem d_F_addJoin_28 : decode b_F_addJoin 28 = .ok (.bipush 120, 2) := by decide +kernel
theorem d_F_addJoin_30 : decode b_F_addJoin 30 = .ok (.if_icmp .lt 5, 3) := by decide +kernel
theorem d_F_addJoin_33 : decode b_F_addJoin 33 = .ok (.iconst (-1), 1) := by decide +kernel
theorem d_F_addJoin_34 : decode b_F_addJoin 34 = .ok (.ireturn, 1) := by decide +kernel
theorem d_F_addJoin_35 : decode b_F_addJoin 35 = .ok (.aload_n 0, 1) := by decide +kernel
theorem d_F_addJoin_36 : decode b_F_addJoin 36 = .ok (.iload_n 1, 1) := by decide +kernel
theorem d_F_addJoin_37 : decode b_F_addJoin 37 = .ok (.iload_n 3, 1) := by decide +kernel
theorem d_F_addJoin_38 : decode b_F_addJoin 38 = .ok (.invokevirtual 85, 3) := by decide +kernel
theorem d_F_addJoin_41 : decode b_F_addJoin 41 = .ok (.bipush 31, 2) := by decide +kernel
theorem d_F_addJoin_43 : decode b_F_addJoin 43 = .ok (.if_icmp .eq 14, 3) := by decide +kernel
theorem d_F_addJoin_46 : decode b_F_addJoin 46 = .ok (.aload_n 0, 1) := by decide +kernel
theorem d_F_addJoin_47 : decode b_F_addJoin 47 = .ok (.iload_n 2, 1) := by decide +kernel
theorem d_F_addJoin_48 : decode b_F_addJoin 48 = .ok (.iload_n 3, 1) := by decide +kernel
theorem d_F_addJoin_49 : decode b_F_addJoin 49 = .ok (.invokevirtual 85, 3) := by decide +kernel
theorem d_F_addJoin_52 : decode b_F_addJoin 52 = .ok (.bipush 31, 2) := by decide +kernel
theorem d_F_addJoin_54 : decode b_F_addJoin 54 = .ok (.if_icmp .ne 5, 3) := by decide +kernel
theorem d_F_addJoin_57 : decode b_F_addJoin 57 = .ok (.iconst (-1), 1) := by decide +kernel
theorem d_F_addJoin_58 : decode b_F_addJoin 58 = .ok (.ireturn, 1) := by decide +kernel
theorem d_F_addJoin_59 : decode b_F_addJoin 59 = .ok (.aload_n 0, 1) := by decide +kernel
theorem d_F_addJoin_60 : decode b_F_addJoin 60 = .ok (.getfield 37, 3) := by decide +kernel
theorem d_F_addJoin_63 : decode b_F_addJoin 63 = .ok (.aload_n 0, 1) := by decide +kernel
theorem d_F_addJoin_64 : decode b_F_addJoin 64 = .ok (.getfield 43, 3) := by decide +kernel
theorem d_F_addJoin_67 : decode b_F_addJoin 67 = .ok (.iload_n 1, 1) := by decide +kernel
theorem d_F_addJoin_68 : decode b_F_addJoin 68 = .ok (.iastore, 1) := by decide +kernel
theorem d_F_addJoin_69 : decode b_F_addJoin 69 = .ok (.aload_n 0, 1) := by decide +kernel
theorem d_F_addJoin_70 : decode b_F_addJoin 70 = .ok (.getfield 40, 3) := by decide +kernel
theorem d_F_addJoin_73 : decode b_F_addJoin 73 = .ok (.aload_n 0, 1) := by decide +kernel
theorem d_F_addJoin_74 : decode b_F_addJoin 74 = .ok (.getfield 43, 3) := by decide +kernel
theorem d_F_addJoin_77 : decode b_F_addJoin 77 = .ok (.iload_n 2, 1) := by decide +kernel
theorem d_F_addJoin_78 : decode b_F_addJoin 78 = .ok (.iastore, 1) := by decide +kernel
theorem d_F_addJoin_79 : decode b_F_addJoin 79 = .ok (.bipush 31, 2) := by decide +kernel
theorem d_F_addJoin_81 : decode b_F_addJoin 81 = .ok (.iconst 5, 1) := by decide +kernel
theorem d_F_addJoin_82 : decode b_F_addJoin 82 = .ok (.iload_n 3, 1) := by decide +kernel
theorem d_F_addJoin_83 : decode b_F_addJoin 83 = .ok (.imul, 1) := by decide +kernel
theorem d_F_addJoin_84 : decode b_F_addJoin 84 = .ok (.ishl, 1) := by decide +kernel
theorem d_F_addJoin_85 : decode b_F_addJoin 85 = .ok (.istore 4, 2) := by decide +kernel
theorem d_F_addJoin_87 : decode b_F_addJoin 87 = .ok (.aload_n 0, 1) := by decide +kernel
theorem d_F_addJoin_88 : decode b_F_addJoin 88 = .ok (.getfield 22, 3) := by decide +kernel
theorem d_F_addJoin_91 : decode b_F_addJoin 91 = .ok (.iload_n 1, 1) := by decide +kernel
theorem d_F_addJoin_92 : decode b_F_addJoin 92 = .ok (.iaload, 1) := by decide +kernel
theorem d_F_addJoin_93 : decode b_F_addJoin 93 = .ok (.aload_n 0, 1) := by decide +kernel
theorem d_F_addJoin_94 : decode b_F_addJoin 94 = .ok (.getfield 22, 3) := by decide +kernel
theorem d_F_addJoin_97 : decode b_F_addJoin 97 = .ok (.iload_n 2, 1) := by decide +kernel
theorem d_F_addJoin_98 : decode b_F_addJoin 98 = .ok (.iaload, 1) := by decide +kernel
theorem d_F_addJoin_99 : decode b_F_addJoin 99 = .ok (.ior, 1) := by decide +kernel
theorem d_F_addJoin_100 : decode b_F_addJoin 100 = .ok (.iload 4, 2) := by decide +kernel
theorem d_F_addJoin_102 : decode b_F_addJoin 102 = .ok (.iand, 1) := by decide +kernel
theorem d_F_addJoin_103 : decode b_F_addJoin 103 = .ok (.istore 5, 2) := by decide +kernel
theorem d_F_addJoin_105 : decode b_F_addJoin 105 = .ok (.aload_n 0, 1) := by decide +kernel
theorem d_F_addJoin_106 : decode b_F_addJoin 106 = .ok (.getfield 22, 3) := by decide +kernel
theorem d_F_addJoin_109 : decode b_F_addJoin 109 = .ok (.iload_n 1, 1) := by decide +kernel
theorem d_F_addJoin_110 : decode b_F_addJoin 110 = .ok (.iaload, 1) := by decide +kernel
theorem d_F_addJoin_111 : decode b_F_addJoin 111 = .ok (.aload_n 0, 1) := by decide +kernel
theorem d_F_addJoin_112 : decode b_F_addJoin 112 = .ok (.getfield 22, 3) := by decide +kernel
theorem d_F_addJoin_115 : decode b_F_addJoin 115 = .ok (.iload_n 2, 1) := by decide +kernel
theorem d_F_addJoin_116 : decode b_F_addJoin 116 = .ok (.iaload, 1) := by decide +kernel
theorem d_F_addJoin_117 : decode b_F_addJoin 117 = .ok (.iand, 1) := by decide +kernel
theorem d_F_addJoin_118 : decode b_F_addJoin 118 = .ok (.iload 4, 2) := by decide +kernel
theorem d_F_addJoin_120 : decode b_F_addJoin 120 = .ok (.iconst (-1), 1) := by decide +kernel
theorem d_F_addJoin_121 : decode b_F_addJoin 121 = .ok (.ixor, 1) := by decide +kernel
theorem d_F_addJoin_122 : decode b_F_addJoin 122 = .ok (.iand, 1) := by decide +kernel
theorem d_F_addJoin_123 : decode b_F_addJoin 123 = .ok (.istore 6, 2) := by decide +kernel
theorem d_F_addJoin_125 : decode b_F_addJoin 125 = .ok (.aload_n 0, 1) := by decide +kernel
theorem d_F_addJoin_126 : decode b_F_addJoin 126 = .ok (.iconst 4, 1) := by decide +kernel
theorem d_F_addJoin_127 : decode b_F_addJoin 127 = .ok (.iload 5, 2) := by decide +kernel
theorem d_F_addJoin_129 : decode b_F_addJoin 129 = .ok (.iload 6, 2) := by decide +kernel
theorem d_F_addJoin_131 : decode b_F_addJoin 131 = .ok (.ior, 1) := by decide +kernel
theorem d_F_addJoin_132 : decode b_F_addJoin 132 = .ok (.invokevirtual 82, 3) := by decide +kernel
theorem d_F_addJoin_135 : decode b_F_addJoin 135 = .ok (.ireturn, 1) := by decide +kernel
abbrev rm_F_addJoin : Room := { frames := 1, cells := 0, slots := 0, locals := 22 }
def f_F_addJoin (x1 : Int32) (x2 : Int32) (x3 : Int32) (M : Mem) : Option (Int32 × Mem) :=
  ob (f_F_hasNode x1 M) fun r2 M2 => if r2 = 0 then some ((-1 : Int32), M2) else ob (f_F_hasNode x2 M2) fun r10 M10 => if r10 = 0 then some ((-1 : Int32), M10) else ob (f_F_hasName x3 M10) fun r18 M18 => if r18 = 0 then some ((-1 : Int32), M18) else if (M18 1 10) < (120 : Int32) then ob (f_F_optionsOfTerm x1 x3 M18) fun r38 M38 => if r38 = (31 : Int32) then some ((-1 : Int32), M38) else ob (f_F_optionsOfTerm x2 x3 M38) fun r49 M49 => if r49 = (31 : Int32) then some ((-1 : Int32), M49) else gd (inb (M49 1 10) 120) (gd (inb ((ms M49 9 (M49 1 10).toNatClampNeg x1) 1 10) 120) (gd (inb x1 120) (gd (inb x2 120) (gd (inb x1 120) (gd (inb x2 120) (ob (f_F_addNode (4 : Int32) (((((ms (ms M49 9 (M49 1 10).toNatClampNeg x1) 10 ((ms M49 9 (M49 1 10).toNatClampNeg x1) 1 10).toNatClampNeg x2) 4 x1.toNatClampNeg) ||| ((ms (ms M49 9 (M49 1 10).toNatClampNeg x1) 10 ((ms M49 9 (M49 1 10).toNatClampNeg x1) 1 10).toNatClampNeg x2) 4 x2.toNatClampNeg)) &&& ((31 : Int32) <<< (((5 : Int32) * x3) &&& 31))) ||| ((((ms (ms M49 9 (M49 1 10).toNatClampNeg x1) 10 ((ms M49 9 (M49 1 10).toNatClampNeg x1) 1 10).toNatClampNeg x2) 4 x1.toNatClampNeg) &&& ((ms (ms M49 9 (M49 1 10).toNatClampNeg x1) 10 ((ms M49 9 (M49 1 10).toNatClampNeg x1) 1 10).toNatClampNeg x2) 4 x2.toNatClampNeg)) &&& (((31 : Int32) <<< (((5 : Int32) * x3) &&& 31)) ^^^ (-1 : Int32)))) (ms (ms M49 9 (M49 1 10).toNatClampNeg x1) 10 ((ms M49 9 (M49 1 10).toNatClampNeg x1) 1 10).toNatClampNeg x2)) fun r132 M132 => some (r132, M132))))))) else some ((-1 : Int32), M18)
set_option maxRecDepth 100000 in
theorem g_F_addJoin {r : Int32} {M' : Mem} (C : GC p s m args meth c b_F_addJoin 7 (some (FieldType.int)) "NoneWords$Facts" TB D vwCl (tysW cI cZ cC) A Z) {x1 : Int32} {x2 : Int32} {x3 : Int32} {M : Mem} (hf : f_F_addJoin x1 x2 x3 M = some (r, M')) : GW p l e rm_F_addJoin s m args below meth c (MQ below (QW D vwCl (tysW cI cZ cC) A (some (.int r)) (wc ad cI cZ cC M')) args s 0 0 A) D vwCl A 7 0 0 (wc ad cI cZ cC M) 0 [(0, .ref (ad 1)), (1, .int x1), (2, .int x2), (3, .int x3)] [] := by
  unfold f_F_addJoin at hf
  refine gw_aload_n C 0 d_F_addJoin_0 rfl rfl ?_
  refine gw_iload_n C 1 d_F_addJoin_1 rfl rfl ?_
  obtain ⟨r2, M2, hc2, hf⟩ := ob_some hf
  refine gw_callVr (rest := []) C 1 wcg_1 clg_0 (c_F_hasNode C.2.2.2.2.2.2.2.2.2.2 hc2) (cwV 1 C.2.2.2.2.1 (gTB_V tw_286 mv_F_hasNode) rfl rfl rfl pd_F_hasNode ⟨Nat.le_of_ble_eq_true rfl, Nat.le_of_ble_eq_true rfl⟩) rfl rfl (Nat.le_of_ble_eq_true rfl) d_F_addJoin_2 ⟨Nat.le_of_ble_eq_true rfl, Nat.le_of_ble_eq_true rfl⟩ ?_
  refine gw_if_eq (tgt := 33) C d_F_addJoin_5 (by decide) (fun c => ?_) (fun c => ?_)
  · have hf := (if_pos c).symm.trans hf
    refine gw_iconst (v := (-1 : Int32)) C d_F_addJoin_33 (by decide) ?_
    exact gw_ireti C d_F_addJoin_34 (wc ad cI cZ cC) hf
  · have hf := (if_neg c).symm.trans hf
    refine gw_aload_n C 0 d_F_addJoin_8 rfl rfl ?_
    refine gw_iload_n C 2 d_F_addJoin_9 rfl rfl ?_
    obtain ⟨r10, M10, hc10, hf⟩ := ob_some hf
    refine gw_callVr (rest := []) C 1 wcg_1 clg_0 (c_F_hasNode C.2.2.2.2.2.2.2.2.2.2 hc10) (cwV 1 C.2.2.2.2.1 (gTB_V tw_286 mv_F_hasNode) rfl rfl rfl pd_F_hasNode ⟨Nat.le_of_ble_eq_true rfl, Nat.le_of_ble_eq_true rfl⟩) rfl rfl (Nat.le_of_ble_eq_true rfl) d_F_addJoin_10 ⟨Nat.le_of_ble_eq_true rfl, Nat.le_of_ble_eq_true rfl⟩ ?_
    refine gw_if_eq (tgt := 33) C d_F_addJoin_13 (by decide) (fun c => ?_) (fun c => ?_)
    · have hf := (if_pos c).symm.trans hf
      refine gw_iconst (v := (-1 : Int32)) C d_F_addJoin_33 (by decide) ?_
      exact gw_ireti C d_F_addJoin_34 (wc ad cI cZ cC) hf
    · have hf := (if_neg c).symm.trans hf
      refine gw_aload_n C 0 d_F_addJoin_16 rfl rfl ?_
      refine gw_iload_n C 3 d_F_addJoin_17 rfl rfl ?_
      obtain ⟨r18, M18, hc18, hf⟩ := ob_some hf
      refine gw_callVr (rest := []) C 1 wcg_1 clg_0 (c_F_hasName C.2.2.2.2.2.2.2.2.2.2 hc18) (cwV 1 C.2.2.2.2.1 (gTB_V tw_255 mv_F_hasName) rfl rfl rfl pd_F_hasName ⟨Nat.le_of_ble_eq_true rfl, Nat.le_of_ble_eq_true rfl⟩) rfl rfl (Nat.le_of_ble_eq_true rfl) d_F_addJoin_18 ⟨Nat.le_of_ble_eq_true rfl, Nat.le_of_ble_eq_true rfl⟩ ?_
      refine gw_if_eq (tgt := 33) C d_F_addJoin_21 (by decide) (fun c => ?_) (fun c => ?_)
      · have hf := (if_pos c).symm.trans hf
        refine gw_iconst (v := (-1 : Int32)) C d_F_addJoin_33 (by decide) ?_
        exact gw_ireti C d_F_addJoin_34 (wc ad cI cZ cC) hf
      · have hf := (if_neg c).symm.trans hf
        refine gw_aload_n C 0 d_F_addJoin_24 rfl rfl ?_
        refine gw_get C in_F 1 wcg_1 clg_0 10 (by decide) tw_103 rfl rfl d_F_addJoin_25 ?_
        refine gw_bipush (v := (120 : Int32)) C d_F_addJoin_28 (by decide) ?_
        refine gw_icmp_lt (tgt := 35) C d_F_addJoin_30 (by decide) (fun c => ?_) (fun c => ?_)
        · have hf := (if_pos c).symm.trans hf
          refine gw_aload_n C 0 d_F_addJoin_35 rfl rfl ?_
          refine gw_iload_n C 1 d_F_addJoin_36 rfl rfl ?_
          refine gw_iload_n C 3 d_F_addJoin_37 rfl rfl ?_
          obtain ⟨r38, M38, hc38, hf⟩ := ob_some hf
          refine gw_callVr (rest := []) C 1 wcg_1 clg_0 (c_F_optionsOfTerm C.2.2.2.2.2.2.2.2.2.2 hc38) (cwV 2 C.2.2.2.2.1 (gTB_V tw_290 mv_F_optionsOfTerm) rfl rfl rfl pd_F_optionsOfTerm ⟨Nat.le_of_ble_eq_true rfl, Nat.le_of_ble_eq_true rfl⟩) rfl rfl (Nat.le_of_ble_eq_true rfl) d_F_addJoin_38 ⟨Nat.le_of_ble_eq_true rfl, Nat.le_of_ble_eq_true rfl⟩ ?_
          refine gw_bipush (v := (31 : Int32)) C d_F_addJoin_41 (by decide) ?_
          refine gw_icmp_eq (tgt := 57) C d_F_addJoin_43 (by decide) (fun c => ?_) (fun c => ?_)
          · have hf := (if_pos c).symm.trans hf
            refine gw_iconst (v := (-1 : Int32)) C d_F_addJoin_57 (by decide) ?_
            exact gw_ireti C d_F_addJoin_58 (wc ad cI cZ cC) hf
          · have hf := (if_neg c).symm.trans hf
            refine gw_aload_n C 0 d_F_addJoin_46 rfl rfl ?_
            refine gw_iload_n C 2 d_F_addJoin_47 rfl rfl ?_
            refine gw_iload_n C 3 d_F_addJoin_48 rfl rfl ?_
            obtain ⟨r49, M49, hc49, hf⟩ := ob_some hf
            refine gw_callVr (rest := []) C 1 wcg_1 clg_0 (c_F_optionsOfTerm C.2.2.2.2.2.2.2.2.2.2 hc49) (cwV 2 C.2.2.2.2.1 (gTB_V tw_290 mv_F_optionsOfTerm) rfl rfl rfl pd_F_optionsOfTerm ⟨Nat.le_of_ble_eq_true rfl, Nat.le_of_ble_eq_true rfl⟩) rfl rfl (Nat.le_of_ble_eq_true rfl) d_F_addJoin_49 ⟨Nat.le_of_ble_eq_true rfl, Nat.le_of_ble_eq_true rfl⟩ ?_
            refine gw_bipush (v := (31 : Int32)) C d_F_addJoin_52 (by decide) ?_
            refine gw_icmp_ne (tgt := 59) C d_F_addJoin_54 (by decide) (fun c => ?_) (fun c => ?_)
            · have hf := (if_neg c).symm.trans hf
              refine gw_aload_n C 0 d_F_addJoin_59 rfl rfl ?_
              refine gw_get C in_F 1 wcg_1 clg_0 8 (by decide) tw_101 rfl rfl d_F_addJoin_60 ?_
              refine gw_aload_n C 0 d_F_addJoin_63 rfl rfl ?_
              refine gw_get C in_F 1 wcg_1 clg_0 10 (by decide) tw_103 rfl rfl d_F_addJoin_64 ?_
              refine gw_iload_n C 1 d_F_addJoin_67 rfl rfl ?_
              obtain ⟨hb68, hf⟩ := gd_some hf
              refine gw_iast C 9 0 wcg_9 rfl hb68 d_F_addJoin_68 wca_9 ?_
              refine gw_aload_n C 0 d_F_addJoin_69 rfl rfl ?_
              refine gw_get C in_F 1 wcg_1 clg_0 9 (by decide) tw_102 rfl rfl d_F_addJoin_70 ?_
              refine gw_aload_n C 0 d_F_addJoin_73 rfl rfl ?_
              refine gw_get C in_F 1 wcg_1 clg_0 10 (by decide) tw_103 rfl rfl d_F_addJoin_74 ?_
              refine gw_iload_n C 2 d_F_addJoin_77 rfl rfl ?_
              obtain ⟨hb78, hf⟩ := gd_some hf
              refine gw_iast C 10 0 wcg_10 rfl hb78 d_F_addJoin_78 wca_10 ?_
              refine gw_bipush (v := (31 : Int32)) C d_F_addJoin_79 (by decide) ?_
              refine gw_iconst (v := (5 : Int32)) C d_F_addJoin_81 (by decide) ?_
              refine gw_iload_n C 3 d_F_addJoin_82 rfl rfl ?_
              refine gw_imul C d_F_addJoin_83 ?_
              refine gw_ishl C d_F_addJoin_84 ?_
              refine gw_istore (lv' := [(4, .int ((31 : Int32) <<< (((5 : Int32) * x3) &&& 31))), (0, .ref (ad 1)), (1, .int x1), (2, .int x2), (3, .int x3)]) C d_F_addJoin_85 (by decide) rfl ?_
              refine gw_aload_n C 1 d_F_addJoin_87 rfl rfl ?_
              refine gw_get C in_F 1 wcg_1 clg_0 3 (by decide) tw_96 rfl rfl d_F_addJoin_88 ?_
              refine gw_iload_n C 2 d_F_addJoin_91 rfl rfl ?_
              obtain ⟨hb92, hf⟩ := gd_some hf
              refine gw_iald C 4 0 wcg_4 rfl hb92 d_F_addJoin_92 ?_
              refine gw_aload_n C 1 d_F_addJoin_93 rfl rfl ?_
              refine gw_get C in_F 1 wcg_1 clg_0 3 (by decide) tw_96 rfl rfl d_F_addJoin_94 ?_
              refine gw_iload_n C 3 d_F_addJoin_97 rfl rfl ?_
              obtain ⟨hb98, hf⟩ := gd_some hf
              refine gw_iald C 4 0 wcg_4 rfl hb98 d_F_addJoin_98 ?_
              refine gw_ior C d_F_addJoin_99 ?_
              refine gw_iload C 0 d_F_addJoin_100 rfl ?_
              refine gw_iand C d_F_addJoin_102 ?_
              refine gw_istore (lv' := [(5, .int ((((ms (ms M49 9 (M49 1 10).toNatClampNeg x1) 10 ((ms M49 9 (M49 1 10).toNatClampNeg x1) 1 10).toNatClampNeg x2) 4 x1.toNatClampNeg) ||| ((ms (ms M49 9 (M49 1 10).toNatClampNeg x1) 10 ((ms M49 9 (M49 1 10).toNatClampNeg x1) 1 10).toNatClampNeg x2) 4 x2.toNatClampNeg)) &&& ((31 : Int32) <<< (((5 : Int32) * x3) &&& 31)))), (4, .int ((31 : Int32) <<< (((5 : Int32) * x3) &&& 31))), (0, .ref (ad 1)), (1, .int x1), (2, .int x2), (3, .int x3)]) C d_F_addJoin_103 (by decide) rfl ?_
              refine gw_aload_n C 2 d_F_addJoin_105 rfl rfl ?_
              refine gw_get C in_F 1 wcg_1 clg_0 3 (by decide) tw_96 rfl rfl d_F_addJoin_106 ?_
              refine gw_iload_n C 3 d_F_addJoin_109 rfl rfl ?_
              obtain ⟨hb110, hf⟩ := gd_some hf
              refine gw_iald C 4 0 wcg_4 rfl hb110 d_F_addJoin_110 ?_
              refine gw_aload_n C 2 d_F_addJoin_111 rfl rfl ?_
              refine gw_get C in_F 1 wcg_1 clg_0 3 (by decide) tw_96 rfl rfl d_F_addJoin_112 ?_
              refine gw_iload_n C 4 d_F_addJoin_115 rfl rfl ?_
              obtain ⟨hb116, hf⟩ := gd_some hf
              refine gw_iald C 4 0 wcg_4 rfl hb116 d_F_addJoin_116 ?_
              refine gw_iand C d_F_addJoin_117 ?_
              refine gw_iload C 1 d_F_addJoin_118 rfl ?_
              refine gw_iconst (v := (-1 : Int32)) C d_F_addJoin_120 (by decide) ?_
              refine gw_ixor C d_F_addJoin_121 ?_
              refine gw_iand C d_F_addJoin_122 ?_
              refine gw_istore (lv' := [(6, .int ((((ms (ms M49 9 (M49 1 10).toNatClampNeg x1) 10 ((ms M49 9 (M49 1 10).toNatClampNeg x1) 1 10).toNatClampNeg x2) 4 x1.toNatClampNeg) &&& ((ms (ms M49 9 (M49 1 10).toNatClampNeg x1) 10 ((ms M49 9 (M49 1 10).toNatClampNeg x1) 1 10).toNatClampNeg x2) 4 x2.toNatClampNeg)) &&& (((31 : Int32) <<< (((5 : Int32) * x3) &&& 31)) ^^^ (-1 : Int32)))), (5, .int ((((ms (ms M49 9 (M49 1 10).toNatClampNeg x1) 10 ((ms M49 9 (M49 1 10).toNatClampNeg x1) 1 10).toNatClampNeg x2) 4 x1.toNatClampNeg) ||| ((ms (ms M49 9 (M49 1 10).toNatClampNeg x1) 10 ((ms M49 9 (M49 1 10).toNatClampNeg x1) 1 10).toNatClampNeg x2) 4 x2.toNatClampNeg)) &&& ((31 : Int32) <<< (((5 : Int32) * x3) &&& 31)))), (4, .int ((31 : Int32) <<< (((5 : Int32) * x3) &&& 31))), (0, .ref (ad 1)), (1, .int x1), (2, .int x2), (3, .int x3)]) C d_F_addJoin_123 (by decide) rfl ?_
              refine gw_aload_n C 3 d_F_addJoin_125 rfl rfl ?_
              refine gw_iconst (v := (4 : Int32)) C d_F_addJoin_126 (by decide) ?_
              refine gw_iload C 1 d_F_addJoin_127 rfl ?_
              refine gw_iload C 0 d_F_addJoin_129 rfl ?_
              refine gw_ior C d_F_addJoin_131 ?_
              obtain ⟨r132, M132, hc132, hf⟩ := ob_some hf
              refine gw_callVr (rest := []) C 1 wcg_1 clg_0 (c_F_addNode C.2.2.2.2.2.2.2.2.2.2 hc132) (cwV 2 C.2.2.2.2.1 (gTB_V tw_270 mv_F_addNode) rfl rfl rfl pd_F_addNode ⟨Nat.le_of_ble_eq_true rfl, Nat.le_of_ble_eq_true rfl⟩) rfl rfl (Nat.le_of_ble_eq_true rfl) d_F_addJoin_132 ⟨Nat.le_of_ble_eq_true rfl, Nat.le_of_ble_eq_true rfl⟩ ?_
              exact gw_ireti C d_F_addJoin_135 (wc ad cI cZ cC) hf
            · have hf := (if_pos c).symm.trans hf
              refine gw_iconst (v := (-1 : Int32)) C d_F_addJoin_57 (by decide) ?_
              exact gw_ireti C d_F_addJoin_58 (wc ad cI cZ cC) hf
        · have hf := (if_neg c).symm.trans hf
          refine gw_iconst (v := (-1 : Int32)) C d_F_addJoin_33 (by decide) ?_
          exact gw_ireti C d_F_addJoin_34 (wc ad cI cZ cC) hf
theorem c_F_addJoin (hZ : gw_ZOK Z) {x1 : Int32} {x2 : Int32} {x3 : Int32} {M : Mem} {r : Int32} {M' : Mem} (hf : f_F_addJoin x1 x2 x3 M = some (r, M')) : CW l y_F_addJoin ws_F_addJoin rm_F_addJoin D vwCl (tysW cI cZ cC) Z [.ref (ad 1), .int x1, .int x2, .int x3] (wc ad cI cZ cC M) (some (.int r)) (wc ad cI cZ cC M') 0 0 :=
  CW.ofG hZ (by decide) rfl (Nat.le_of_ble_eq_true rfl) (fun _ _ _ _ _ _ _ _ C _ => g_F_addJoin C hf)
abbrev b_F_hasTermOf : ByteArray := prog_2_method_27_code
def y_F_hasTermOf : MethodName := ⟨"NoneWords$Facts", "hasTermOf", "(IIZ)Z"⟩
abbrev ws_F_hasTermOf : List Cond := Cond.code y_F_hasTermOf b_F_hasTermOf 6 (some (FieldType.boolean)) :: TB
set_option maxRecDepth 100000 in
theorem tc_F_hasTermOf : Cond.code y_F_hasTermOf b_F_hasTermOf 6 (some (FieldType.boolean)) ∈ TB := inTB 306 rfl rfl
theorem mv_F_hasTermOf : Cond.instanceMethod y_F_hasTermOf ∈ TB ∧ Cond.selects "NoneWords$Facts" y_F_hasTermOf y_F_hasTermOf ∈ TB ∧ Cond.initialized "NoneWords$Facts" ∈ TB ∧ Cond.code y_F_hasTermOf b_F_hasTermOf 6 (some (FieldType.boolean)) ∈ TB := ⟨inTB 304 (by decide +kernel) (by decide +kernel), inTB 305 (by decide +kernel) (by decide +kernel), inTB 66 (by decide +kernel) (by decide +kernel), tc_F_hasTermOf⟩
theorem pd_F_hasTermOf : y_F_hasTermOf.cls = "NoneWords$Facts" ∧ y_F_hasTermOf.cls ≠ "java/lang/invoke/MethodHandle" ∧ y_F_hasTermOf.cls ≠ "java/lang/invoke/VarHandle" ∧ (parseMethodDescriptor y_F_hasTermOf.desc).map (fun d => d.parameters.length) = some 3 := by decide +kernel
theorem d_F_hasTermOf_0 : decode b_F_hasTermOf 0 = .ok (.aload_n 0, 1) := by decide +kernel
theorem d_F_hasTermOf_1 : decode b_F_hasTermOf 1 = .ok (.iload_n 1, 1) := by decide +kernel
theorem d_F_hasTermOf_2 : decode b_F_hasTermOf 2 = .ok (.iload_n 2, 1) := by decide +kernel
theorem d_F_hasTermOf_3 : decode b_F_hasTermOf 3 = .ok (.invokevirtual 85, 3) := by decide +kernel
theorem d_F_hasTermOf_6 : decode b_F_hasTermOf 6 = .ok (.istore 4, 2) := by decide +kernel
theorem d_F_hasTermOf_8 : decode b_F_hasTermOf 8 = .ok (.iload 4, 2) := by decide +kernel
theorem d_F_hasTermOf_10 : decode b_F_hasTermOf 10 = .ok (.bipush 16, 2) := by decide +kernel
theorem d_F_hasTermOf_12 : decode b_F_hasTermOf 12 = .ok (.iand, 1) := by decide +kernel
theorem d_F_hasTermOf_13 : decode b_F_hasTermOf 13 = .ok (.ifCond .ne 7, 3) := by decide +kernel
theorem d_F_hasTermOf_16 : decode b_F_hasTermOf 16 = .ok (.iconst 1, 1) := by decide +kernel
theorem d_F_hasTermOf_17 : decode b_F_hasTermOf 17 = .ok (.goto 4, 3) := by decide +kernel
theorem d_F_hasTermOf_20 : decode b_F_hasTermOf 20 = .ok (.iconst 0, 1) := by decide +kernel
theorem d_F_hasTermOf_21 : decode b_F_hasTermOf 21 = .ok (.istore 5, 2) := by decide +kernel
theorem d_F_hasTermOf_23 : decode b_F_hasTermOf 23 = .ok (.iload 4, 2) := by decide +kernel
theorem d_F_hasTermOf_25 : decode b_F_hasTermOf 25 = .ok (.bipush 31, 2) := by decide +kernel
theorem d_F_hasTermOf_27 : decode b_F_hasTermOf 27 = .ok (.if_icmp .eq 13, 3) := by decide +kernel
theorem d_F_hasTermOf_30 : decode b_F_hasTermOf 30 = .ok (.iload 5, 2) := by decide +kernel
theorem d_F_hasTermOf_32 : decode b_F_hasTermOf 32 = .ok (.iload_n 3, 1) := by decide +kernel
theorem d_F_hasTermOf_33 : decode b_F_hasTermOf 33 = .ok (.if_icmp .ne 7, 3) := by decide +kernel
theorem d_F_hasTermOf_36 : decode b_F_hasTermOf 36 = .ok (.iconst 1, 1) := by decide +kernel
theorem d_F_hasTermOf_37 : decode b_F_hasTermOf 37 = .ok (.goto 4, 3) := by decide +kernel
theorem d_F_hasTermOf_40 : decode b_F_hasTermOf 40 = .ok (.iconst 0, 1) := by decide +kernel
theorem d_F_hasTermOf_41 : decode b_F_hasTermOf 41 = .ok (.ireturn, 1) := by decide +kernel
abbrev rm_F_hasTermOf : Room := { frames := 1, cells := 0, slots := 0, locals := 22 }
def f_F_hasTermOf_21 (x3 : Int32) (x4 : Int32) (y0 : Int32) (M : Mem) : Option (Int32 × Mem) :=
  if x4 = (31 : Int32) then some ((0 : Int32), M) else if y0 = x3 then some ((1 : Int32), M) else some ((0 : Int32), M)
set_option maxRecDepth 100000 in
theorem g_F_hasTermOf_21 {r : Int32} {M' : Mem} (C : GC p s m args meth c b_F_hasTermOf 6 (some (FieldType.boolean)) "NoneWords$Facts" TB D vwCl (tysW cI cZ cC) A Z) {x3 : Int32} {x4 : Int32} {y0 : Int32} {M : Mem} (hf : f_F_hasTermOf_21 x3 x4 y0 M = some (r, M')) : GW p l e rm_F_hasTermOf s m args below meth c (MQ below (QW D vwCl (tysW cI cZ cC) A (some (.int r)) (wc ad cI cZ cC M')) args s 0 0 A) D vwCl A 6 0 0 (wc ad cI cZ cC M) 21 [(3, .int x3), (4, .int x4)] [.int y0] := by
  unfold f_F_hasTermOf_21 at hf
  refine gw_istore (lv' := [(5, .int y0), (3, .int x3), (4, .int x4)]) C d_F_hasTermOf_21 (by decide) rfl ?_
  refine gw_iload C 2 d_F_hasTermOf_23 rfl ?_
  refine gw_bipush (v := (31 : Int32)) C d_F_hasTermOf_25 (by decide) ?_
  refine gw_icmp_eq (tgt := 40) C d_F_hasTermOf_27 (by decide) (fun c => ?_) (fun c => ?_)
  · have hf := (if_pos c).symm.trans hf
    refine gw_iconst (v := (0 : Int32)) C d_F_hasTermOf_40 (by decide) ?_
    exact gw_zreti C d_F_hasTermOf_41 (wc ad cI cZ cC) (by decide) hf
  · have hf := (if_neg c).symm.trans hf
    refine gw_iload C 0 d_F_hasTermOf_30 rfl ?_
    refine gw_iload_n C 1 d_F_hasTermOf_32 rfl rfl ?_
    refine gw_icmp_ne (tgt := 40) C d_F_hasTermOf_33 (by decide) (fun c => ?_) (fun c => ?_)
    · have hf := (if_neg c).symm.trans hf
      refine gw_iconst (v := (0 : Int32)) C d_F_hasTermOf_40 (by decide) ?_
      exact gw_zreti C d_F_hasTermOf_41 (wc ad cI cZ cC) (by decide) hf
    · have hf := (if_pos c).symm.trans hf
      refine gw_iconst (v := (1 : Int32)) C d_F_hasTermOf_36 (by decide) ?_
      refine gw_goto (tgt := 41) C d_F_hasTermOf_37 (by decide) ?_
      exact gw_zreti C d_F_hasTermOf_41 (wc ad cI cZ cC) (by decide) hf
def f_F_hasTermOf (x1 : Int32) (x2 : Int32) (x3 : Int32) (M : Mem) : Option (Int32 × Mem) :=
  ob (f_F_optionsOfTerm x1 x2 M) fun r3 M3 => if (r3 &&& (16 : Int32)) = 0 then f_F_hasTermOf_21 x3 r3 (1 : Int32) M3 else f_F_hasTermOf_21 x3 r3 (0 : Int32) M3
set_option maxRecDepth 100000 in
theorem g_F_hasTermOf {r : Int32} {M' : Mem} (C : GC p s m args meth c b_F_hasTermOf 6 (some (FieldType.boolean)) "NoneWords$Facts" TB D vwCl (tysW cI cZ cC) A Z) {x1 : Int32} {x2 : Int32} {x3 : Int32} {M : Mem} (hf : f_F_hasTermOf x1 x2 x3 M = some (r, M')) : GW p l e rm_F_hasTermOf s m args below meth c (MQ below (QW D vwCl (tysW cI cZ cC) A (some (.int r)) (wc ad cI cZ cC M')) args s 0 0 A) D vwCl A 6 0 0 (wc ad cI cZ cC M) 0 [(0, .ref (ad 1)), (1, .int x1), (2, .int x2), (3, .int x3)] [] := by
  unfold f_F_hasTermOf at hf
  refine gw_aload_n C 0 d_F_hasTermOf_0 rfl rfl ?_
  refine gw_iload_n C 1 d_F_hasTermOf_1 rfl rfl ?_
  refine gw_iload_n C 2 d_F_hasTermOf_2 rfl rfl ?_
  obtain ⟨r3, M3, hc3, hf⟩ := ob_some hf
  refine gw_callVr (rest := []) C 1 wcg_1 clg_0 (c_F_optionsOfTerm C.2.2.2.2.2.2.2.2.2.2 hc3) (cwV 2 C.2.2.2.2.1 (gTB_V tw_290 mv_F_optionsOfTerm) rfl rfl rfl pd_F_optionsOfTerm ⟨Nat.le_of_ble_eq_true rfl, Nat.le_of_ble_eq_true rfl⟩) rfl rfl (Nat.le_of_ble_eq_true rfl) d_F_hasTermOf_3 ⟨Nat.le_of_ble_eq_true rfl, Nat.le_of_ble_eq_true rfl⟩ ?_
  refine gw_istore (lv' := [(4, .int r3), (0, .ref (ad 1)), (1, .int x1), (2, .int x2), (3, .int x3)]) C d_F_hasTermOf_6 (by decide) rfl ?_
  refine gw_iload C 0 d_F_hasTermOf_8 rfl ?_
  refine gw_bipush (v := (16 : Int32)) C d_F_hasTermOf_10 (by decide) ?_
  refine gw_iand C d_F_hasTermOf_12 ?_
  refine gw_if_ne (tgt := 20) C d_F_hasTermOf_13 (by decide) (fun c => ?_) (fun c => ?_)
  · have hf := (if_neg c).symm.trans hf
    refine gw_iconst (v := (0 : Int32)) C d_F_hasTermOf_20 (by decide) ?_
    exact gw_sub [4, 0] rfl (g_F_hasTermOf_21 C hf)
  · have hf := (if_pos c).symm.trans hf
    refine gw_iconst (v := (1 : Int32)) C d_F_hasTermOf_16 (by decide) ?_
    refine gw_goto (tgt := 21) C d_F_hasTermOf_17 (by decide) ?_
    exact gw_sub [4, 0] rfl (g_F_hasTermOf_21 C hf)
theorem c_F_hasTermOf (hZ : gw_ZOK Z) {x1 : Int32} {x2 : Int32} {x3 : Int32} {M : Mem} {r : Int32} {M' : Mem} (hf : f_F_hasTermOf x1 x2 x3 M = some (r, M')) : CW l y_F_hasTermOf ws_F_hasTermOf rm_F_hasTermOf D vwCl (tysW cI cZ cC) Z [.ref (ad 1), .int x1, .int x2, .int x3] (wc ad cI cZ cC M) (some (.int r)) (wc ad cI cZ cC M') 0 0 :=
  CW.ofG hZ (by decide) rfl (Nat.le_of_ble_eq_true rfl) (fun _ _ _ _ _ _ _ _ C _ => g_F_hasTermOf C hf)
abbrev b_F_setOfTerm : ByteArray := prog_2_method_28_code
def y_F_setOfTerm : MethodName := ⟨"NoneWords$Facts", "setOfTerm", "(II)I"⟩
abbrev ws_F_setOfTerm : List Cond := Cond.code y_F_setOfTerm b_F_setOfTerm 4 (some (FieldType.int)) :: TB
set_option maxRecDepth 100000 in
theorem tc_F_setOfTerm : Cond.code y_F_setOfTerm b_F_setOfTerm 4 (some (FieldType.int)) ∈ TB := inTB 318 rfl rfl
theorem mv_F_setOfTerm : Cond.instanceMethod y_F_setOfTerm ∈ TB ∧ Cond.selects "NoneWords$Facts" y_F_setOfTerm y_F_setOfTerm ∈ TB ∧ Cond.initialized "NoneWords$Facts" ∈ TB ∧ Cond.code y_F_setOfTerm b_F_setOfTerm 4 (some (FieldType.int)) ∈ TB := ⟨inTB 316 (by decide +kernel) (by decide +kernel), inTB 317 (by decide +kernel) (by decide +kernel), inTB 66 (by decide +kernel) (by decide +kernel), tc_F_setOfTerm⟩
theorem pd_F_setOfTerm : y_F_setOfTerm.cls = "NoneWords$Facts" ∧ y_F_setOfTerm.cls ≠ "java/lang/invoke/MethodHandle" ∧ y_F_setOfTerm.cls ≠ "java/lang/invoke/VarHandle" ∧ (parseMethodDescriptor y_F_setOfTerm.desc).map (fun d => d.parameters.length) = some 2 := by decide +kernel
theorem d_F_setOfTerm_0 : decode b_F_setOfTerm 0 = .ok (.aload_n 0, 1) := by decide +kernel
theorem d_F_setOfTerm_1 : decode b_F_setOfTerm 1 = .ok (.iload_n 1, 1) := by decide +kernel
theorem d_F_setOfTerm_2 : decode b_F_setOfTerm 2 = .ok (.iload_n 2, 1) := by decide +kernel
theorem d_F_setOfTerm_3 : decode b_F_setOfTerm 3 = .ok (.invokevirtual 85, 3) := by decide +kernel
theorem d_F_setOfTerm_6 : decode b_F_setOfTerm 6 = .ok (.istore_n 3, 1) := by decide +kernel
theorem d_F_setOfTerm_7 : decode b_F_setOfTerm 7 = .ok (.iload_n 3, 1) := by decide +kernel
theorem d_F_setOfTerm_8 : decode b_F_setOfTerm 8 = .ok (.bipush 16, 2) := by decide +kernel
theorem d_F_setOfTerm_10 : decode b_F_setOfTerm 10 = .ok (.iand, 1) := by decide +kernel
theorem d_F_setOfTerm_11 : decode b_F_setOfTerm 11 = .ok (.ifCond .ne 7, 3) := by decide +kernel
theorem d_F_setOfTerm_14 : decode b_F_setOfTerm 14 = .ok (.iload_n 3, 1) := by decide +kernel
theorem d_F_setOfTerm_15 : decode b_F_setOfTerm 15 = .ok (.goto 9, 3) := by decide +kernel
theorem d_F_setOfTerm_18 : decode b_F_setOfTerm 18 = .ok (.bipush 31, 2) := by decide +kernel
theorem d_F_setOfTerm_20 : decode b_F_setOfTerm 20 = .ok (.iload_n 3, 1) := by decide +kernel
theorem d_F_setOfTerm_21 : decode b_F_setOfTerm 21 = .ok (.iconst (-1), 1) := by decide +kernel
theorem d_F_setOfTerm_22 : decode b_F_setOfTerm 22 = .ok (.ixor, 1) := by decide +kernel
theorem d_F_setOfTerm_23 : decode b_F_setOfTerm 23 = .ok (.iand, 1) := by decide +kernel
theorem d_F_setOfTerm_24 : decode b_F_setOfTerm 24 = .ok (.ireturn, 1) := by decide +kernel
abbrev rm_F_setOfTerm : Room := { frames := 1, cells := 0, slots := 0, locals := 22 }
def f_F_setOfTerm (x1 : Int32) (x2 : Int32) (M : Mem) : Option (Int32 × Mem) :=
  ob (f_F_optionsOfTerm x1 x2 M) fun r3 M3 => if (r3 &&& (16 : Int32)) = 0 then some (r3, M3) else some ((31 : Int32) &&& (r3 ^^^ (-1 : Int32)), M3)
set_option maxRecDepth 100000 in
theorem g_F_setOfTerm {r : Int32} {M' : Mem} (C : GC p s m args meth c b_F_setOfTerm 4 (some (FieldType.int)) "NoneWords$Facts" TB D vwCl (tysW cI cZ cC) A Z) {x1 : Int32} {x2 : Int32} {M : Mem} (hf : f_F_setOfTerm x1 x2 M = some (r, M')) : GW p l e rm_F_setOfTerm s m args below meth c (MQ below (QW D vwCl (tysW cI cZ cC) A (some (.int r)) (wc ad cI cZ cC M')) args s 0 0 A) D vwCl A 4 0 0 (wc ad cI cZ cC M) 0 [(0, .ref (ad 1)), (1, .int x1), (2, .int x2)] [] := by
  unfold f_F_setOfTerm at hf
  refine gw_aload_n C 0 d_F_setOfTerm_0 rfl rfl ?_
  refine gw_iload_n C 1 d_F_setOfTerm_1 rfl rfl ?_
  refine gw_iload_n C 2 d_F_setOfTerm_2 rfl rfl ?_
  obtain ⟨r3, M3, hc3, hf⟩ := ob_some hf
  refine gw_callVr (rest := []) C 1 wcg_1 clg_0 (c_F_optionsOfTerm C.2.2.2.2.2.2.2.2.2.2 hc3) (cwV 2 C.2.2.2.2.1 (gTB_V tw_290 mv_F_optionsOfTerm) rfl rfl rfl pd_F_optionsOfTerm ⟨Nat.le_of_ble_eq_true rfl, Nat.le_of_ble_eq_true rfl⟩) rfl rfl (Nat.le_of_ble_eq_true rfl) d_F_setOfTerm_3 ⟨Nat.le_of_ble_eq_true rfl, Nat.le_of_ble_eq_true rfl⟩ ?_
  refine gw_istore_n (lv' := [(3, .int r3), (0, .ref (ad 1)), (1, .int x1), (2, .int x2)]) C d_F_setOfTerm_6 rfl (by decide) rfl ?_
  refine gw_iload_n C 0 d_F_setOfTerm_7 rfl rfl ?_
  refine gw_bipush (v := (16 : Int32)) C d_F_setOfTerm_8 (by decide) ?_
  refine gw_iand C d_F_setOfTerm_10 ?_
  refine gw_if_ne (tgt := 18) C d_F_setOfTerm_11 (by decide) (fun c => ?_) (fun c => ?_)
  · have hf := (if_neg c).symm.trans hf
    refine gw_bipush (v := (31 : Int32)) C d_F_setOfTerm_18 (by decide) ?_
    refine gw_iload_n C 0 d_F_setOfTerm_20 rfl rfl ?_
    refine gw_iconst (v := (-1 : Int32)) C d_F_setOfTerm_21 (by decide) ?_
    refine gw_ixor C d_F_setOfTerm_22 ?_
    refine gw_iand C d_F_setOfTerm_23 ?_
    exact gw_ireti C d_F_setOfTerm_24 (wc ad cI cZ cC) hf
  · have hf := (if_pos c).symm.trans hf
    refine gw_iload_n C 0 d_F_setOfTerm_14 rfl rfl ?_
    refine gw_goto (tgt := 24) C d_F_setOfTerm_15 (by decide) ?_
    exact gw_ireti C d_F_setOfTerm_24 (wc ad cI cZ cC) hf
theorem c_F_setOfTerm (hZ : gw_ZOK Z) {x1 : Int32} {x2 : Int32} {M : Mem} {r : Int32} {M' : Mem} (hf : f_F_setOfTerm x1 x2 M = some (r, M')) : CW l y_F_setOfTerm ws_F_setOfTerm rm_F_setOfTerm D vwCl (tysW cI cZ cC) Z [.ref (ad 1), .int x1, .int x2] (wc ad cI cZ cC M) (some (.int r)) (wc ad cI cZ cC M') 0 0 :=
  CW.ofG hZ (by decide) rfl (Nat.le_of_ble_eq_true rfl) (fun _ _ _ _ _ _ _ _ C _ => g_F_setOfTerm C hf)
abbrev b_F_countTerms : ByteArray := prog_2_method_29_code
def y_F_countTerms : MethodName := ⟨"NoneWords$Facts", "countTerms", "(IZ)I"⟩
abbrev ws_F_countTerms : List Cond := Cond.code y_F_countTerms b_F_countTerms 5 (some (FieldType.int)) :: TB
set_option maxRecDepth 100000 in
theorem tc_F_countTerms : Cond.code y_F_countTerms b_F_countTerms 5 (some (FieldType.int)) ∈ TB := inTB 302 rfl rfl
theorem mv_F_countTerms : Cond.instanceMethod y_F_countTerms ∈ TB ∧ Cond.selects "NoneWords$Facts" y_F_countTerms y_F_countTerms ∈ TB ∧ Cond.initialized "NoneWords$Facts" ∈ TB ∧ Cond.code y_F_countTerms b_F_countTerms 5 (some (FieldType.int)) ∈ TB := ⟨inTB 300 (by decide +kernel) (by decide +kernel), inTB 301 (by decide +kernel) (by decide +kernel), inTB 66 (by decide +kernel) (by decide +kernel), tc_F_countTerms⟩
theorem pd_F_countTerms : y_F_countTerms.cls = "NoneWords$Facts" ∧ y_F_countTerms.cls ≠ "java/lang/invoke/MethodHandle" ∧ y_F_countTerms.cls ≠ "java/lang/invoke/VarHandle" ∧ (parseMethodDescriptor y_F_countTerms.desc).map (fun d => d.parameters.length) = some 2 := by decide +kernel
theorem d_F_countTerms_0 : decode b_F_countTerms 0 = .ok (.iconst 0, 1) := by decide +kernel
theorem d_F_countTerms_1 : decode b_F_countTerms 1 = .ok (.istore_n 3, 1) := by decide +kernel
theorem d_F_countTerms_2 : decode b_F_countTerms 2 = .ok (.iconst 0, 1) := by decide +kernel
theorem d_F_countTerms_3 : decode b_F_countTerms 3 = .ok (.istore 4, 2) := by decide +kernel
theorem d_F_countTerms_5 : decode b_F_countTerms 5 = .ok (.iload 4, 2) := by decide +kernel
theorem d_F_countTerms_7 : decode b_F_countTerms 7 = .ok (.aload_n 0, 1) := by decide +kernel
theorem d_F_countTerms_8 : decode b_F_countTerms 8 = .ok (.getfield 15, 3) := by decide +kernel
theorem d_F_countTerms_11 : decode b_F_countTerms 11 = .ok (.if_icmp .ge 23, 3) := by decide +kernel
theorem d_F_countTerms_14 : decode b_F_countTerms 14 = .ok (.aload_n 0, 1) := by decide +kernel
theorem d_F_countTerms_15 : decode b_F_countTerms 15 = .ok (.iload_n 1, 1) := by decide +kernel
theorem d_F_countTerms_16 : decode b_F_countTerms 16 = .ok (.iload 4, 2) := by decide +kernel
theorem d_F_countTerms_18 : decode b_F_countTerms 18 = .ok (.iload_n 2, 1) := by decide +kernel
theorem d_F_countTerms_19 : decode b_F_countTerms 19 = .ok (.invokevirtual 89, 3) := by decide +kernel
theorem d_F_countTerms_22 : decode b_F_countTerms 22 = .ok (.ifCond .eq 6, 3) := by decide +kernel
theorem d_F_countTerms_25 : decode b_F_countTerms 25 = .ok (.iinc 3 1, 3) := by decide +kernel
theorem d_F_countTerms_28 : decode b_F_countTerms 28 = .ok (.iinc 4 1, 3) := by decide +kernel
theorem d_F_countTerms_31 : decode b_F_countTerms 31 = .ok (.goto (-26), 3) := by decide +kernel
theorem d_F_countTerms_34 : decode b_F_countTerms 34 = .ok (.iload_n 3, 1) := by decide +kernel
theorem d_F_countTerms_35 : decode b_F_countTerms 35 = .ok (.ireturn, 1) := by decide +kernel
abbrev rm_F_countTerms : Room := { frames := 2, cells := 0, slots := 0, locals := 47 }
def f_F_countTerms_5 : Nat → Int32 → Int32 → Int32 → Int32 → Mem → Option (Int32 × Mem)
  | 0, _, _, _, _, _ => none
  | n + 1, x1, x2, x3, x4, M => if (M 1 1) ≤ x4 then some (x3, M) else ob (f_F_hasTermOf x1 x4 x2 M) fun r19 M19 => if r19 = 0 then (f_F_countTerms_5 n) x1 x2 x3 (x4 + (1 : Int32)) M19 else (f_F_countTerms_5 n) x1 x2 (x3 + (1 : Int32)) (x4 + (1 : Int32)) M19
set_option maxRecDepth 100000 in
theorem g_F_countTerms_5 {r : Int32} {M' : Mem} (C : GC p s m args meth c b_F_countTerms 5 (some (FieldType.int)) "NoneWords$Facts" TB D vwCl (tysW cI cZ cC) A Z) : ∀ (n : Nat) (x1 : Int32) (x2 : Int32) (x3 : Int32) (x4 : Int32) (M : Mem), f_F_countTerms_5 n x1 x2 x3 x4 M = some (r, M') → GW p l e rm_F_countTerms s m args below meth c (MQ below (QW D vwCl (tysW cI cZ cC) A (some (.int r)) (wc ad cI cZ cC M')) args s 0 0 A) D vwCl A 5 0 0 (wc ad cI cZ cC M) 5 [(0, .ref (ad 1)), (1, .int x1), (2, .int x2), (3, .int x3), (4, .int x4)] [] := by
  intro n
  induction n with
  | zero => intro _ _ _ _ _ hf; cases hf
  | succ n ih =>
    intro x1 x2 x3 x4 M hf
    rw [f_F_countTerms_5] at hf
    refine gw_iload C 4 d_F_countTerms_5 rfl ?_
    refine gw_aload_n C 0 d_F_countTerms_7 rfl rfl ?_
    refine gw_get C in_F 1 wcg_1 clg_0 1 (by decide) tw_94 rfl rfl d_F_countTerms_8 ?_
    refine gw_icmp_ge (tgt := 34) C d_F_countTerms_11 (by decide) (fun c => ?_) (fun c => ?_)
    · have hf := (if_pos c).symm.trans hf
      refine gw_iload_n C 3 d_F_countTerms_34 rfl rfl ?_
      exact gw_ireti C d_F_countTerms_35 (wc ad cI cZ cC) hf
    · have hf := (if_neg c).symm.trans hf
      refine gw_aload_n C 0 d_F_countTerms_14 rfl rfl ?_
      refine gw_iload_n C 1 d_F_countTerms_15 rfl rfl ?_
      refine gw_iload C 4 d_F_countTerms_16 rfl ?_
      refine gw_iload_n C 2 d_F_countTerms_18 rfl rfl ?_
      obtain ⟨r19, M19, hc19, hf⟩ := ob_some hf
      refine gw_callVr (rest := []) C 1 wcg_1 clg_0 (c_F_hasTermOf C.2.2.2.2.2.2.2.2.2.2 hc19) (cwV 3 C.2.2.2.2.1 (gTB_V tw_303 mv_F_hasTermOf) rfl rfl rfl pd_F_hasTermOf ⟨Nat.le_of_ble_eq_true rfl, Nat.le_of_ble_eq_true rfl⟩) rfl rfl (Nat.le_of_ble_eq_true rfl) d_F_countTerms_19 ⟨Nat.le_of_ble_eq_true rfl, Nat.le_of_ble_eq_true rfl⟩ ?_
      refine gw_if_eq (tgt := 28) C d_F_countTerms_22 (by decide) (fun c => ?_) (fun c => ?_)
      · have hf := (if_pos c).symm.trans hf
        refine gw_iinc (v := x4 + (1 : Int32)) (lv' := [(4, .int (x4 + (1 : Int32))), (0, .ref (ad 1)), (1, .int x1), (2, .int x2), (3, .int x3)]) C 4 d_F_countTerms_28 rfl rfl (by decide) rfl ?_
        refine gw_goto (tgt := 5) C d_F_countTerms_31 (by decide) ?_
        exact gw_sub [1, 2, 3, 4, 0] rfl (ih _ _ _ _ _ hf)
      · have hf := (if_neg c).symm.trans hf
        refine gw_iinc (v := x3 + (1 : Int32)) (lv' := [(3, .int (x3 + (1 : Int32))), (0, .ref (ad 1)), (1, .int x1), (2, .int x2), (4, .int x4)]) C 3 d_F_countTerms_25 rfl rfl (by decide) rfl ?_
        refine gw_iinc (v := x4 + (1 : Int32)) (lv' := [(4, .int (x4 + (1 : Int32))), (3, .int (x3 + (1 : Int32))), (0, .ref (ad 1)), (1, .int x1), (2, .int x2)]) C 4 d_F_countTerms_28 rfl rfl (by decide) rfl ?_
        refine gw_goto (tgt := 5) C d_F_countTerms_31 (by decide) ?_
        exact gw_sub [2, 3, 4, 1, 0] rfl (ih _ _ _ _ _ hf)
def f_F_countTerms (x1 : Int32) (x2 : Int32) (M : Mem) : Option (Int32 × Mem) :=
  f_F_countTerms_5 100000 x1 x2 (0 : Int32) (0 : Int32) M
set_option maxRecDepth 100000 in
theorem g_F_countTerms {r : Int32} {M' : Mem} (C : GC p s m args meth c b_F_countTerms 5 (some (FieldType.int)) "NoneWords$Facts" TB D vwCl (tysW cI cZ cC) A Z) {x1 : Int32} {x2 : Int32} {M : Mem} (hf : f_F_countTerms x1 x2 M = some (r, M')) : GW p l e rm_F_countTerms s m args below meth c (MQ below (QW D vwCl (tysW cI cZ cC) A (some (.int r)) (wc ad cI cZ cC M')) args s 0 0 A) D vwCl A 5 0 0 (wc ad cI cZ cC M) 0 [(0, .ref (ad 1)), (1, .int x1), (2, .int x2)] [] := by
  unfold f_F_countTerms at hf
  refine gw_iconst (v := (0 : Int32)) C d_F_countTerms_0 (by decide) ?_
  refine gw_istore_n (lv' := [(3, .int (0 : Int32)), (0, .ref (ad 1)), (1, .int x1), (2, .int x2)]) C d_F_countTerms_1 rfl (by decide) rfl ?_
  refine gw_iconst (v := (0 : Int32)) C d_F_countTerms_2 (by decide) ?_
  refine gw_istore (lv' := [(4, .int (0 : Int32)), (3, .int (0 : Int32)), (0, .ref (ad 1)), (1, .int x1), (2, .int x2)]) C d_F_countTerms_3 (by decide) rfl ?_
  exact gw_sub [2, 3, 4, 1, 0] rfl (g_F_countTerms_5 C _ _ _ _ _ _ hf)
theorem c_F_countTerms (hZ : gw_ZOK Z) {x1 : Int32} {x2 : Int32} {M : Mem} {r : Int32} {M' : Mem} (hf : f_F_countTerms x1 x2 M = some (r, M')) : CW l y_F_countTerms ws_F_countTerms rm_F_countTerms D vwCl (tysW cI cZ cC) Z [.ref (ad 1), .int x1, .int x2] (wc ad cI cZ cC M) (some (.int r)) (wc ad cI cZ cC M') 0 0 :=
  CW.ofG hZ (by decide) rfl (Nat.le_of_ble_eq_true rfl) (fun _ _ _ _ _ _ _ _ C _ => g_F_countTerms C hf)
abbrev b_F_nameOfTerm : ByteArray := prog_2_method_30_code
def y_F_nameOfTerm : MethodName := ⟨"NoneWords$Facts", "nameOfTerm", "(II)I"⟩
abbrev ws_F_nameOfTerm : List Cond := Cond.code y_F_nameOfTerm b_F_nameOfTerm 5 (some (FieldType.int)) :: TB
set_option maxRecDepth 100000 in
theorem tc_F_nameOfTerm : Cond.code y_F_nameOfTerm b_F_nameOfTerm 5 (some (FieldType.int)) ∈ TB := inTB 314 rfl rfl
theorem mv_F_nameOfTerm : Cond.instanceMethod y_F_nameOfTerm ∈ TB ∧ Cond.selects "NoneWords$Facts" y_F_nameOfTerm y_F_nameOfTerm ∈ TB ∧ Cond.initialized "NoneWords$Facts" ∈ TB ∧ Cond.code y_F_nameOfTerm b_F_nameOfTerm 5 (some (FieldType.int)) ∈ TB := ⟨inTB 312 (by decide +kernel) (by decide +kernel), inTB 313 (by decide +kernel) (by decide +kernel), inTB 66 (by decide +kernel) (by decide +kernel), tc_F_nameOfTerm⟩
theorem pd_F_nameOfTerm : y_F_nameOfTerm.cls = "NoneWords$Facts" ∧ y_F_nameOfTerm.cls ≠ "java/lang/invoke/MethodHandle" ∧ y_F_nameOfTerm.cls ≠ "java/lang/invoke/VarHandle" ∧ (parseMethodDescriptor y_F_nameOfTerm.desc).map (fun d => d.parameters.length) = some 2 := by decide +kernel
theorem d_F_nameOfTerm_0 : decode b_F_nameOfTerm 0 = .ok (.iconst 0, 1) := by decide +kernel
theorem d_F_nameOfTerm_1 : decode b_F_nameOfTerm 1 = .ok (.istore_n 3, 1) := by decide +kernel
theorem d_F_nameOfTerm_2 : decode b_F_nameOfTerm 2 = .ok (.iconst 0, 1) := by decide +kernel
theorem d_F_nameOfTerm_3 : decode b_F_nameOfTerm 3 = .ok (.istore 4, 2) := by decide +kernel
theorem d_F_nameOfTerm_5 : decode b_F_nameOfTerm 5 = .ok (.iload 4, 2) := by decide +kernel
theorem d_F_nameOfTerm_7 : decode b_F_nameOfTerm 7 = .ok (.aload_n 0, 1) := by decide +kernel
theorem d_F_nameOfTerm_8 : decode b_F_nameOfTerm 8 = .ok (.getfield 15, 3) := by decide +kernel
theorem d_F_nameOfTerm_11 : decode b_F_nameOfTerm 11 = .ok (.if_icmp .ge 32, 3) := by decide +kernel
theorem d_F_nameOfTerm_14 : decode b_F_nameOfTerm 14 = .ok (.aload_n 0, 1) := by decide +kernel
theorem d_F_nameOfTerm_15 : decode b_F_nameOfTerm 15 = .ok (.iload_n 1, 1) := by decide +kernel
theorem d_F_nameOfTerm_16 : decode b_F_nameOfTerm 16 = .ok (.iload 4, 2) := by decide +kernel
theorem d_F_nameOfTerm_18 : decode b_F_nameOfTerm 18 = .ok (.invokevirtual 85, 3) := by decide +kernel
theorem d_F_nameOfTerm_21 : decode b_F_nameOfTerm 21 = .ok (.bipush 31, 2) := by decide +kernel
theorem d_F_nameOfTerm_23 : decode b_F_nameOfTerm 23 = .ok (.if_icmp .eq 14, 3) := by decide +kernel
theorem d_F_nameOfTerm_26 : decode b_F_nameOfTerm 26 = .ok (.iload_n 3, 1) := by decide +kernel
theorem d_F_nameOfTerm_27 : decode b_F_nameOfTerm 27 = .ok (.iload_n 2, 1) := by decide +kernel
theorem d_F_nameOfTerm_28 : decode b_F_nameOfTerm 28 = .ok (.if_icmp .ne 6, 3) := by decide +kernel
theorem d_F_nameOfTerm_31 : decode b_F_nameOfTerm 31 = .ok (.iload 4, 2) := by decide +kernel
theorem d_F_nameOfTerm_33 : decode b_F_nameOfTerm 33 = .ok (.ireturn, 1) := by decide +kernel
theorem d_F_nameOfTerm_34 : decode b_F_nameOfTerm 34 = .ok (.iinc 3 1, 3) := by decide +kernel
theorem d_F_nameOfTerm_37 : decode b_F_nameOfTerm 37 = .ok (.iinc 4 1, 3) := by decide +kernel
theorem d_F_nameOfTerm_40 : decode b_F_nameOfTerm 40 = .ok (.goto (-35), 3) := by decide +kernel
theorem d_F_nameOfTerm_43 : decode b_F_nameOfTerm 43 = .ok (.iconst (-1), 1) := by decide +kernel
theorem d_F_nameOfTerm_44 : decode b_F_nameOfTerm 44 = .ok (.ireturn, 1) := by decide +kernel
abbrev rm_F_nameOfTerm : Room := { frames := 1, cells := 0, slots := 0, locals := 22 }
def f_F_nameOfTerm_5 : Nat → Int32 → Int32 → Int32 → Int32 → Mem → Option (Int32 × Mem)
  | 0, _, _, _, _, _ => none
  | n + 1, x1, x2, x3, x4, M => if (M 1 1) ≤ x4 then some ((-1 : Int32), M) else ob (f_F_optionsOfTerm x1 x4 M) fun r18 M18 => if r18 = (31 : Int32) then (f_F_nameOfTerm_5 n) x1 x2 x3 (x4 + (1 : Int32)) M18 else if x3 = x2 then some (x4, M18) else (f_F_nameOfTerm_5 n) x1 x2 (x3 + (1 : Int32)) (x4 + (1 : Int32)) M18
set_option maxRecDepth 100000 in
theorem g_F_nameOfTerm_5 {r : Int32} {M' : Mem} (C : GC p s m args meth c b_F_nameOfTerm 5 (some (FieldType.int)) "NoneWords$Facts" TB D vwCl (tysW cI cZ cC) A Z) : ∀ (n : Nat) (x1 : Int32) (x2 : Int32) (x3 : Int32) (x4 : Int32) (M : Mem), f_F_nameOfTerm_5 n x1 x2 x3 x4 M = some (r, M') → GW p l e rm_F_nameOfTerm s m args below meth c (MQ below (QW D vwCl (tysW cI cZ cC) A (some (.int r)) (wc ad cI cZ cC M')) args s 0 0 A) D vwCl A 5 0 0 (wc ad cI cZ cC M) 5 [(0, .ref (ad 1)), (1, .int x1), (2, .int x2), (3, .int x3), (4, .int x4)] [] := by
  intro n
  induction n with
  | zero => intro _ _ _ _ _ hf; cases hf
  | succ n ih =>
    intro x1 x2 x3 x4 M hf
    rw [f_F_nameOfTerm_5] at hf
    refine gw_iload C 4 d_F_nameOfTerm_5 rfl ?_
    refine gw_aload_n C 0 d_F_nameOfTerm_7 rfl rfl ?_
    refine gw_get C in_F 1 wcg_1 clg_0 1 (by decide) tw_94 rfl rfl d_F_nameOfTerm_8 ?_
    refine gw_icmp_ge (tgt := 43) C d_F_nameOfTerm_11 (by decide) (fun c => ?_) (fun c => ?_)
    · have hf := (if_pos c).symm.trans hf
      refine gw_iconst (v := (-1 : Int32)) C d_F_nameOfTerm_43 (by decide) ?_
      exact gw_ireti C d_F_nameOfTerm_44 (wc ad cI cZ cC) hf
    · have hf := (if_neg c).symm.trans hf
      refine gw_aload_n C 0 d_F_nameOfTerm_14 rfl rfl ?_
      refine gw_iload_n C 1 d_F_nameOfTerm_15 rfl rfl ?_
      refine gw_iload C 4 d_F_nameOfTerm_16 rfl ?_
      obtain ⟨r18, M18, hc18, hf⟩ := ob_some hf
      refine gw_callVr (rest := []) C 1 wcg_1 clg_0 (c_F_optionsOfTerm C.2.2.2.2.2.2.2.2.2.2 hc18) (cwV 2 C.2.2.2.2.1 (gTB_V tw_290 mv_F_optionsOfTerm) rfl rfl rfl pd_F_optionsOfTerm ⟨Nat.le_of_ble_eq_true rfl, Nat.le_of_ble_eq_true rfl⟩) rfl rfl (Nat.le_of_ble_eq_true rfl) d_F_nameOfTerm_18 ⟨Nat.le_of_ble_eq_true rfl, Nat.le_of_ble_eq_true rfl⟩ ?_
      refine gw_bipush (v := (31 : Int32)) C d_F_nameOfTerm_21 (by decide) ?_
      refine gw_icmp_eq (tgt := 37) C d_F_nameOfTerm_23 (by decide) (fun c => ?_) (fun c => ?_)
      · have hf := (if_pos c).symm.trans hf
        refine gw_iinc (v := x4 + (1 : Int32)) (lv' := [(4, .int (x4 + (1 : Int32))), (0, .ref (ad 1)), (1, .int x1), (2, .int x2), (3, .int x3)]) C 4 d_F_nameOfTerm_37 rfl rfl (by decide) rfl ?_
        refine gw_goto (tgt := 5) C d_F_nameOfTerm_40 (by decide) ?_
        exact gw_sub [1, 2, 3, 4, 0] rfl (ih _ _ _ _ _ hf)
      · have hf := (if_neg c).symm.trans hf
        refine gw_iload_n C 3 d_F_nameOfTerm_26 rfl rfl ?_
        refine gw_iload_n C 2 d_F_nameOfTerm_27 rfl rfl ?_
        refine gw_icmp_ne (tgt := 34) C d_F_nameOfTerm_28 (by decide) (fun c => ?_) (fun c => ?_)
        · have hf := (if_neg c).symm.trans hf
          refine gw_iinc (v := x3 + (1 : Int32)) (lv' := [(3, .int (x3 + (1 : Int32))), (0, .ref (ad 1)), (1, .int x1), (2, .int x2), (4, .int x4)]) C 3 d_F_nameOfTerm_34 rfl rfl (by decide) rfl ?_
          refine gw_iinc (v := x4 + (1 : Int32)) (lv' := [(4, .int (x4 + (1 : Int32))), (3, .int (x3 + (1 : Int32))), (0, .ref (ad 1)), (1, .int x1), (2, .int x2)]) C 4 d_F_nameOfTerm_37 rfl rfl (by decide) rfl ?_
          refine gw_goto (tgt := 5) C d_F_nameOfTerm_40 (by decide) ?_
          exact gw_sub [2, 3, 4, 1, 0] rfl (ih _ _ _ _ _ hf)
        · have hf := (if_pos c).symm.trans hf
          refine gw_iload C 4 d_F_nameOfTerm_31 rfl ?_
          exact gw_ireti C d_F_nameOfTerm_33 (wc ad cI cZ cC) hf
def f_F_nameOfTerm (x1 : Int32) (x2 : Int32) (M : Mem) : Option (Int32 × Mem) :=
  f_F_nameOfTerm_5 100000 x1 x2 (0 : Int32) (0 : Int32) M
set_option maxRecDepth 100000 in
theorem g_F_nameOfTerm {r : Int32} {M' : Mem} (C : GC p s m args meth c b_F_nameOfTerm 5 (some (FieldType.int)) "NoneWords$Facts" TB D vwCl (tysW cI cZ cC) A Z) {x1 : Int32} {x2 : Int32} {M : Mem} (hf : f_F_nameOfTerm x1 x2 M = some (r, M')) : GW p l e rm_F_nameOfTerm s m args below meth c (MQ below (QW D vwCl (tysW cI cZ cC) A (some (.int r)) (wc ad cI cZ cC M')) args s 0 0 A) D vwCl A 5 0 0 (wc ad cI cZ cC M) 0 [(0, .ref (ad 1)), (1, .int x1), (2, .int x2)] [] := by
  unfold f_F_nameOfTerm at hf
  refine gw_iconst (v := (0 : Int32)) C d_F_nameOfTerm_0 (by decide) ?_
  refine gw_istore_n (lv' := [(3, .int (0 : Int32)), (0, .ref (ad 1)), (1, .int x1), (2, .int x2)]) C d_F_nameOfTerm_1 rfl (by decide) rfl ?_
  refine gw_iconst (v := (0 : Int32)) C d_F_nameOfTerm_2 (by decide) ?_
  refine gw_istore (lv' := [(4, .int (0 : Int32)), (3, .int (0 : Int32)), (0, .ref (ad 1)), (1, .int x1), (2, .int x2)]) C d_F_nameOfTerm_3 (by decide) rfl ?_
  exact gw_sub [2, 3, 4, 1, 0] rfl (g_F_nameOfTerm_5 C _ _ _ _ _ _ hf)
theorem c_F_nameOfTerm (hZ : gw_ZOK Z) {x1 : Int32} {x2 : Int32} {M : Mem} {r : Int32} {M' : Mem} (hf : f_F_nameOfTerm x1 x2 M = some (r, M')) : CW l y_F_nameOfTerm ws_F_nameOfTerm rm_F_nameOfTerm D vwCl (tysW cI cZ cC) Z [.ref (ad 1), .int x1, .int x2] (wc ad cI cZ cC M) (some (.int r)) (wc ad cI cZ cC M') 0 0 :=
  CW.ofG hZ (by decide) rfl (Nat.le_of_ble_eq_true rfl) (fun _ _ _ _ _ _ _ _ C _ => g_F_nameOfTerm C hf)
end FACTS
