def wk (ad : Nat → Nat) (cI cZ cC : ClassId) (M : Mem) : va_W := [(ad 0, .inr (5, [.int (M 0 0), .ref (ad 1), .int (M 0 2), .int (M 0 3), .ref (ad 2), .ref (ad 3), .ref (ad 4), .ref (ad 5), .ref (ad 6), .ref (ad 7), .ref (ad 8), .ref (ad 9), .ref (ad 10), .ref (ad 11), .ref (ad 12), .ref (ad 13), .int (M 0 16), .int (M 0 17), .int (M 0 18), .ref (ad 14), .ref (ad 15), .ref (ad 16), .ref (ad 17), .int (M 0 23), .ref (ad 18), .ref (ad 19), .ref (ad 20), .int (M 0 27)])),
  (ad 1, .inl (cI, 5, .inl (M 1))),
  (ad 2, .inl (cI, 120, .inl (M 2))),
  (ad 3, .inl (cI, 120, .inl (M 3))),
  (ad 4, .inl (cI, 120, .inl (M 4))),
  (ad 5, .inl (cI, 120, .inl (M 5))),
  (ad 6, .inl (cI, 120, .inl (M 6))),
  (ad 7, .inl (cZ, 600, .inl (M 7))),
  (ad 8, .inl (cZ, 3000, .inl (M 8))),
  (ad 9, .inl (cI, 60000, .inl (M 9))),
  (ad 10, .inl (cI, 400, .inl (M 10))),
  (ad 11, .inl (cI, 400, .inl (M 11))),
  (ad 12, .inl (cI, 120, .inl (M 12))),
  (ad 13, .inl (cI, 120, .inl (M 13))),
  (ad 14, .inl (cZ, 120, .inl (M 14))),
  (ad 15, .inl (cI, 130, .inl (M 15))),
  (ad 16, .inl (cI, 130, .inl (M 16))),
  (ad 17, .inl (cI, 130, .inl (M 17))),
  (ad 18, .inl (cI, 5, .inl (M 18))),
  (ad 19, .inl (cZ, 120, .inl (M 19))),
  (ad 20, .inl (cI, 120, .inl (M 20)))]
theorem wkg_0 {ad : Nat → Nat} {cI cZ cC : ClassId} {M : Mem} : (wk ad cI cZ cC M)[0]? = some (ad 0, .inr (5, [.int (M 0 0), .ref (ad 1), .int (M 0 2), .int (M 0 3), .ref (ad 2), .ref (ad 3), .ref (ad 4), .ref (ad 5), .ref (ad 6), .ref (ad 7), .ref (ad 8), .ref (ad 9), .ref (ad 10), .ref (ad 11), .ref (ad 12), .ref (ad 13), .int (M 0 16), .int (M 0 17), .int (M 0 18), .ref (ad 14), .ref (ad 15), .ref (ad 16), .ref (ad 17), .int (M 0 23), .ref (ad 18), .ref (ad 19), .ref (ad 20), .int (M 0 27)])) := rfl
theorem wkf_0_0 {ad : Nat → Nat} {cI cZ cC : ClassId} {M : Mem} {x : Int32} : (wk ad cI cZ cC M).set 0 (ad 0, .inr (5, ([.int (M 0 0), .ref (ad 1), .int (M 0 2), .int (M 0 3), .ref (ad 2), .ref (ad 3), .ref (ad 4), .ref (ad 5), .ref (ad 6), .ref (ad 7), .ref (ad 8), .ref (ad 9), .ref (ad 10), .ref (ad 11), .ref (ad 12), .ref (ad 13), .int (M 0 16), .int (M 0 17), .int (M 0 18), .ref (ad 14), .ref (ad 15), .ref (ad 16), .ref (ad 17), .int (M 0 23), .ref (ad 18), .ref (ad 19), .ref (ad 20), .int (M 0 27)] : List Value).set 0 (.int x))) = wk ad cI cZ cC (ms M 0 0 x) := rfl
theorem wkf_0_2 {ad : Nat → Nat} {cI cZ cC : ClassId} {M : Mem} {x : Int32} : (wk ad cI cZ cC M).set 0 (ad 0, .inr (5, ([.int (M 0 0), .ref (ad 1), .int (M 0 2), .int (M 0 3), .ref (ad 2), .ref (ad 3), .ref (ad 4), .ref (ad 5), .ref (ad 6), .ref (ad 7), .ref (ad 8), .ref (ad 9), .ref (ad 10), .ref (ad 11), .ref (ad 12), .ref (ad 13), .int (M 0 16), .int (M 0 17), .int (M 0 18), .ref (ad 14), .ref (ad 15), .ref (ad 16), .ref (ad 17), .int (M 0 23), .ref (ad 18), .ref (ad 19), .ref (ad 20), .int (M 0 27)] : List Value).set 2 (.int x))) = wk ad cI cZ cC (ms M 0 2 x) := rfl
theorem wkf_0_3 {ad : Nat → Nat} {cI cZ cC : ClassId} {M : Mem} {x : Int32} : (wk ad cI cZ cC M).set 0 (ad 0, .inr (5, ([.int (M 0 0), .ref (ad 1), .int (M 0 2), .int (M 0 3), .ref (ad 2), .ref (ad 3), .ref (ad 4), .ref (ad 5), .ref (ad 6), .ref (ad 7), .ref (ad 8), .ref (ad 9), .ref (ad 10), .ref (ad 11), .ref (ad 12), .ref (ad 13), .int (M 0 16), .int (M 0 17), .int (M 0 18), .ref (ad 14), .ref (ad 15), .ref (ad 16), .ref (ad 17), .int (M 0 23), .ref (ad 18), .ref (ad 19), .ref (ad 20), .int (M 0 27)] : List Value).set 3 (.int x))) = wk ad cI cZ cC (ms M 0 3 x) := rfl
theorem wkf_0_16 {ad : Nat → Nat} {cI cZ cC : ClassId} {M : Mem} {x : Int32} : (wk ad cI cZ cC M).set 0 (ad 0, .inr (5, ([.int (M 0 0), .ref (ad 1), .int (M 0 2), .int (M 0 3), .ref (ad 2), .ref (ad 3), .ref (ad 4), .ref (ad 5), .ref (ad 6), .ref (ad 7), .ref (ad 8), .ref (ad 9), .ref (ad 10), .ref (ad 11), .ref (ad 12), .ref (ad 13), .int (M 0 16), .int (M 0 17), .int (M 0 18), .ref (ad 14), .ref (ad 15), .ref (ad 16), .ref (ad 17), .int (M 0 23), .ref (ad 18), .ref (ad 19), .ref (ad 20), .int (M 0 27)] : List Value).set 16 (.int x))) = wk ad cI cZ cC (ms M 0 16 x) := rfl
theorem wkf_0_17 {ad : Nat → Nat} {cI cZ cC : ClassId} {M : Mem} {x : Int32} : (wk ad cI cZ cC M).set 0 (ad 0, .inr (5, ([.int (M 0 0), .ref (ad 1), .int (M 0 2), .int (M 0 3), .ref (ad 2), .ref (ad 3), .ref (ad 4), .ref (ad 5), .ref (ad 6), .ref (ad 7), .ref (ad 8), .ref (ad 9), .ref (ad 10), .ref (ad 11), .ref (ad 12), .ref (ad 13), .int (M 0 16), .int (M 0 17), .int (M 0 18), .ref (ad 14), .ref (ad 15), .ref (ad 16), .ref (ad 17), .int (M 0 23), .ref (ad 18), .ref (ad 19), .ref (ad 20), .int (M 0 27)] : List Value).set 17 (.int x))) = wk ad cI cZ cC (ms M 0 17 x) := rfl
theorem wkf_0_18 {ad : Nat → Nat} {cI cZ cC : ClassId} {M : Mem} {x : Int32} : (wk ad cI cZ cC M).set 0 (ad 0, .inr (5, ([.int (M 0 0), .ref (ad 1), .int (M 0 2), .int (M 0 3), .ref (ad 2), .ref (ad 3), .ref (ad 4), .ref (ad 5), .ref (ad 6), .ref (ad 7), .ref (ad 8), .ref (ad 9), .ref (ad 10), .ref (ad 11), .ref (ad 12), .ref (ad 13), .int (M 0 16), .int (M 0 17), .int (M 0 18), .ref (ad 14), .ref (ad 15), .ref (ad 16), .ref (ad 17), .int (M 0 23), .ref (ad 18), .ref (ad 19), .ref (ad 20), .int (M 0 27)] : List Value).set 18 (.int x))) = wk ad cI cZ cC (ms M 0 18 x) := rfl
theorem wkf_0_23 {ad : Nat → Nat} {cI cZ cC : ClassId} {M : Mem} {x : Int32} : (wk ad cI cZ cC M).set 0 (ad 0, .inr (5, ([.int (M 0 0), .ref (ad 1), .int (M 0 2), .int (M 0 3), .ref (ad 2), .ref (ad 3), .ref (ad 4), .ref (ad 5), .ref (ad 6), .ref (ad 7), .ref (ad 8), .ref (ad 9), .ref (ad 10), .ref (ad 11), .ref (ad 12), .ref (ad 13), .int (M 0 16), .int (M 0 17), .int (M 0 18), .ref (ad 14), .ref (ad 15), .ref (ad 16), .ref (ad 17), .int (M 0 23), .ref (ad 18), .ref (ad 19), .ref (ad 20), .int (M 0 27)] : List Value).set 23 (.int x))) = wk ad cI cZ cC (ms M 0 23 x) := rfl
theorem wkf_0_27 {ad : Nat → Nat} {cI cZ cC : ClassId} {M : Mem} {x : Int32} : (wk ad cI cZ cC M).set 0 (ad 0, .inr (5, ([.int (M 0 0), .ref (ad 1), .int (M 0 2), .int (M 0 3), .ref (ad 2), .ref (ad 3), .ref (ad 4), .ref (ad 5), .ref (ad 6), .ref (ad 7), .ref (ad 8), .ref (ad 9), .ref (ad 10), .ref (ad 11), .ref (ad 12), .ref (ad 13), .int (M 0 16), .int (M 0 17), .int (M 0 18), .ref (ad 14), .ref (ad 15), .ref (ad 16), .ref (ad 17), .int (M 0 23), .ref (ad 18), .ref (ad 19), .ref (ad 20), .int (M 0 27)] : List Value).set 27 (.int x))) = wk ad cI cZ cC (ms M 0 27 x) := rfl
theorem wkg_1 {ad : Nat → Nat} {cI cZ cC : ClassId} {M : Mem} : (wk ad cI cZ cC M)[1]? = some (ad 1, .inl (cI, 5, .inl (M 1))) := rfl
theorem wka_1 {ad : Nat → Nat} {cI cZ cC : ClassId} {M : Mem} {i : Nat} {x : Int32} : (wk ad cI cZ cC M).set 1 (ad 1, .inl (cI, 5, .inl (upd (M 1) i x))) = wk ad cI cZ cC (ms M 1 i x) := rfl
theorem wkz_1 {ad : Nat → Nat} {cI cZ cC : ClassId} {M : Mem} {x : Int32} : (wk ad cI cZ cC M).set 1 (ad 1, .inl (cI, 5, .inl (fun j => if j < 5 then x else M 1 j))) = wk ad cI cZ cC (mf M 1 5 x) := rfl
theorem wkg_2 {ad : Nat → Nat} {cI cZ cC : ClassId} {M : Mem} : (wk ad cI cZ cC M)[2]? = some (ad 2, .inl (cI, 120, .inl (M 2))) := rfl
theorem wka_2 {ad : Nat → Nat} {cI cZ cC : ClassId} {M : Mem} {i : Nat} {x : Int32} : (wk ad cI cZ cC M).set 2 (ad 2, .inl (cI, 120, .inl (upd (M 2) i x))) = wk ad cI cZ cC (ms M 2 i x) := rfl
theorem wkz_2 {ad : Nat → Nat} {cI cZ cC : ClassId} {M : Mem} {x : Int32} : (wk ad cI cZ cC M).set 2 (ad 2, .inl (cI, 120, .inl (fun j => if j < 120 then x else M 2 j))) = wk ad cI cZ cC (mf M 2 120 x) := rfl
theorem wkg_3 {ad : Nat → Nat} {cI cZ cC : ClassId} {M : Mem} : (wk ad cI cZ cC M)[3]? = some (ad 3, .inl (cI, 120, .inl (M 3))) := rfl
theorem wka_3 {ad : Nat → Nat} {cI cZ cC : ClassId} {M : Mem} {i : Nat} {x : Int32} : (wk ad cI cZ cC M).set 3 (ad 3, .inl (cI, 120, .inl (upd (M 3) i x))) = wk ad cI cZ cC (ms M 3 i x) := rfl
theorem wkz_3 {ad : Nat → Nat} {cI cZ cC : ClassId} {M : Mem} {x : Int32} : (wk ad cI cZ cC M).set 3 (ad 3, .inl (cI, 120, .inl (fun j => if j < 120 then x else M 3 j))) = wk ad cI cZ cC (mf M 3 120 x) := rfl
theorem wkg_4 {ad : Nat → Nat} {cI cZ cC : ClassId} {M : Mem} : (wk ad cI cZ cC M)[4]? = some (ad 4, .inl (cI, 120, .inl (M 4))) := rfl
theorem wka_4 {ad : Nat → Nat} {cI cZ cC : ClassId} {M : Mem} {i : Nat} {x : Int32} : (wk ad cI cZ cC M).set 4 (ad 4, .inl (cI, 120, .inl (upd (M 4) i x))) = wk ad cI cZ cC (ms M 4 i x) := rfl
theorem wkz_4 {ad : Nat → Nat} {cI cZ cC : ClassId} {M : Mem} {x : Int32} : (wk ad cI cZ cC M).set 4 (ad 4, .inl (cI, 120, .inl (fun j => if j < 120 then x else M 4 j))) = wk ad cI cZ cC (mf M 4 120 x) := rfl
theorem wkg_5 {ad : Nat → Nat} {cI cZ cC : ClassId} {M : Mem} : (wk ad cI cZ cC M)[5]? = some (ad 5, .inl (cI, 120, .inl (M 5))) := rfl
theorem wka_5 {ad : Nat → Nat} {cI cZ cC : ClassId} {M : Mem} {i : Nat} {x : Int32} : (wk ad cI cZ cC M).set 5 (ad 5, .inl (cI, 120, .inl (upd (M 5) i x))) = wk ad cI cZ cC (ms M 5 i x) := rfl
theorem wkz_5 {ad : Nat → Nat} {cI cZ cC : ClassId} {M : Mem} {x : Int32} : (wk ad cI cZ cC M).set 5 (ad 5, .inl (cI, 120, .inl (fun j => if j < 120 then x else M 5 j))) = wk ad cI cZ cC (mf M 5 120 x) := rfl
theorem wkg_6 {ad : Nat → Nat} {cI cZ cC : ClassId} {M : Mem} : (wk ad cI cZ cC M)[6]? = some (ad 6, .inl (cI, 120, .inl (M 6))) := rfl
theorem wka_6 {ad : Nat → Nat} {cI cZ cC : ClassId} {M : Mem} {i : Nat} {x : Int32} : (wk ad cI cZ cC M).set 6 (ad 6, .inl (cI, 120, .inl (upd (M 6) i x))) = wk ad cI cZ cC (ms M 6 i x) := rfl
theorem wkz_6 {ad : Nat → Nat} {cI cZ cC : ClassId} {M : Mem} {x : Int32} : (wk ad cI cZ cC M).set 6 (ad 6, .inl (cI, 120, .inl (fun j => if j < 120 then x else M 6 j))) = wk ad cI cZ cC (mf M 6 120 x) := rfl
theorem wkg_7 {ad : Nat → Nat} {cI cZ cC : ClassId} {M : Mem} : (wk ad cI cZ cC M)[7]? = some (ad 7, .inl (cZ, 600, .inl (M 7))) := rfl
theorem wka_7 {ad : Nat → Nat} {cI cZ cC : ClassId} {M : Mem} {i : Nat} {x : Int32} : (wk ad cI cZ cC M).set 7 (ad 7, .inl (cZ, 600, .inl (upd (M 7) i x))) = wk ad cI cZ cC (ms M 7 i x) := rfl
theorem wkg_8 {ad : Nat → Nat} {cI cZ cC : ClassId} {M : Mem} : (wk ad cI cZ cC M)[8]? = some (ad 8, .inl (cZ, 3000, .inl (M 8))) := rfl
theorem wka_8 {ad : Nat → Nat} {cI cZ cC : ClassId} {M : Mem} {i : Nat} {x : Int32} : (wk ad cI cZ cC M).set 8 (ad 8, .inl (cZ, 3000, .inl (upd (M 8) i x))) = wk ad cI cZ cC (ms M 8 i x) := rfl
theorem wkg_9 {ad : Nat → Nat} {cI cZ cC : ClassId} {M : Mem} : (wk ad cI cZ cC M)[9]? = some (ad 9, .inl (cI, 60000, .inl (M 9))) := rfl
theorem wka_9 {ad : Nat → Nat} {cI cZ cC : ClassId} {M : Mem} {i : Nat} {x : Int32} : (wk ad cI cZ cC M).set 9 (ad 9, .inl (cI, 60000, .inl (upd (M 9) i x))) = wk ad cI cZ cC (ms M 9 i x) := rfl
theorem wkz_9 {ad : Nat → Nat} {cI cZ cC : ClassId} {M : Mem} {x : Int32} : (wk ad cI cZ cC M).set 9 (ad 9, .inl (cI, 60000, .inl (fun j => if j < 60000 then x else M 9 j))) = wk ad cI cZ cC (mf M 9 60000 x) := rfl
theorem wkg_10 {ad : Nat → Nat} {cI cZ cC : ClassId} {M : Mem} : (wk ad cI cZ cC M)[10]? = some (ad 10, .inl (cI, 400, .inl (M 10))) := rfl
theorem wka_10 {ad : Nat → Nat} {cI cZ cC : ClassId} {M : Mem} {i : Nat} {x : Int32} : (wk ad cI cZ cC M).set 10 (ad 10, .inl (cI, 400, .inl (upd (M 10) i x))) = wk ad cI cZ cC (ms M 10 i x) := rfl
theorem wkz_10 {ad : Nat → Nat} {cI cZ cC : ClassId} {M : Mem} {x : Int32} : (wk ad cI cZ cC M).set 10 (ad 10, .inl (cI, 400, .inl (fun j => if j < 400 then x else M 10 j))) = wk ad cI cZ cC (mf M 10 400 x) := rfl
theorem wkg_11 {ad : Nat → Nat} {cI cZ cC : ClassId} {M : Mem} : (wk ad cI cZ cC M)[11]? = some (ad 11, .inl (cI, 400, .inl (M 11))) := rfl
theorem wka_11 {ad : Nat → Nat} {cI cZ cC : ClassId} {M : Mem} {i : Nat} {x : Int32} : (wk ad cI cZ cC M).set 11 (ad 11, .inl (cI, 400, .inl (upd (M 11) i x))) = wk ad cI cZ cC (ms M 11 i x) := rfl
theorem wkz_11 {ad : Nat → Nat} {cI cZ cC : ClassId} {M : Mem} {x : Int32} : (wk ad cI cZ cC M).set 11 (ad 11, .inl (cI, 400, .inl (fun j => if j < 400 then x else M 11 j))) = wk ad cI cZ cC (mf M 11 400 x) := rfl
theorem wkg_12 {ad : Nat → Nat} {cI cZ cC : ClassId} {M : Mem} : (wk ad cI cZ cC M)[12]? = some (ad 12, .inl (cI, 120, .inl (M 12))) := rfl
theorem wka_12 {ad : Nat → Nat} {cI cZ cC : ClassId} {M : Mem} {i : Nat} {x : Int32} : (wk ad cI cZ cC M).set 12 (ad 12, .inl (cI, 120, .inl (upd (M 12) i x))) = wk ad cI cZ cC (ms M 12 i x) := rfl
theorem wkz_12 {ad : Nat → Nat} {cI cZ cC : ClassId} {M : Mem} {x : Int32} : (wk ad cI cZ cC M).set 12 (ad 12, .inl (cI, 120, .inl (fun j => if j < 120 then x else M 12 j))) = wk ad cI cZ cC (mf M 12 120 x) := rfl
theorem wkg_13 {ad : Nat → Nat} {cI cZ cC : ClassId} {M : Mem} : (wk ad cI cZ cC M)[13]? = some (ad 13, .inl (cI, 120, .inl (M 13))) := rfl
theorem wka_13 {ad : Nat → Nat} {cI cZ cC : ClassId} {M : Mem} {i : Nat} {x : Int32} : (wk ad cI cZ cC M).set 13 (ad 13, .inl (cI, 120, .inl (upd (M 13) i x))) = wk ad cI cZ cC (ms M 13 i x) := rfl
theorem wkz_13 {ad : Nat → Nat} {cI cZ cC : ClassId} {M : Mem} {x : Int32} : (wk ad cI cZ cC M).set 13 (ad 13, .inl (cI, 120, .inl (fun j => if j < 120 then x else M 13 j))) = wk ad cI cZ cC (mf M 13 120 x) := rfl
theorem wkg_14 {ad : Nat → Nat} {cI cZ cC : ClassId} {M : Mem} : (wk ad cI cZ cC M)[14]? = some (ad 14, .inl (cZ, 120, .inl (M 14))) := rfl
theorem wka_14 {ad : Nat → Nat} {cI cZ cC : ClassId} {M : Mem} {i : Nat} {x : Int32} : (wk ad cI cZ cC M).set 14 (ad 14, .inl (cZ, 120, .inl (upd (M 14) i x))) = wk ad cI cZ cC (ms M 14 i x) := rfl
theorem wkg_15 {ad : Nat → Nat} {cI cZ cC : ClassId} {M : Mem} : (wk ad cI cZ cC M)[15]? = some (ad 15, .inl (cI, 130, .inl (M 15))) := rfl
theorem wka_15 {ad : Nat → Nat} {cI cZ cC : ClassId} {M : Mem} {i : Nat} {x : Int32} : (wk ad cI cZ cC M).set 15 (ad 15, .inl (cI, 130, .inl (upd (M 15) i x))) = wk ad cI cZ cC (ms M 15 i x) := rfl
theorem wkz_15 {ad : Nat → Nat} {cI cZ cC : ClassId} {M : Mem} {x : Int32} : (wk ad cI cZ cC M).set 15 (ad 15, .inl (cI, 130, .inl (fun j => if j < 130 then x else M 15 j))) = wk ad cI cZ cC (mf M 15 130 x) := rfl
theorem wkg_16 {ad : Nat → Nat} {cI cZ cC : ClassId} {M : Mem} : (wk ad cI cZ cC M)[16]? = some (ad 16, .inl (cI, 130, .inl (M 16))) := rfl
theorem wka_16 {ad : Nat → Nat} {cI cZ cC : ClassId} {M : Mem} {i : Nat} {x : Int32} : (wk ad cI cZ cC M).set 16 (ad 16, .inl (cI, 130, .inl (upd (M 16) i x))) = wk ad cI cZ cC (ms M 16 i x) := rfl
theorem wkz_16 {ad : Nat → Nat} {cI cZ cC : ClassId} {M : Mem} {x : Int32} : (wk ad cI cZ cC M).set 16 (ad 16, .inl (cI, 130, .inl (fun j => if j < 130 then x else M 16 j))) = wk ad cI cZ cC (mf M 16 130 x) := rfl
theorem wkg_17 {ad : Nat → Nat} {cI cZ cC : ClassId} {M : Mem} : (wk ad cI cZ cC M)[17]? = some (ad 17, .inl (cI, 130, .inl (M 17))) := rfl
theorem wka_17 {ad : Nat → Nat} {cI cZ cC : ClassId} {M : Mem} {i : Nat} {x : Int32} : (wk ad cI cZ cC M).set 17 (ad 17, .inl (cI, 130, .inl (upd (M 17) i x))) = wk ad cI cZ cC (ms M 17 i x) := rfl
theorem wkz_17 {ad : Nat → Nat} {cI cZ cC : ClassId} {M : Mem} {x : Int32} : (wk ad cI cZ cC M).set 17 (ad 17, .inl (cI, 130, .inl (fun j => if j < 130 then x else M 17 j))) = wk ad cI cZ cC (mf M 17 130 x) := rfl
theorem wkg_18 {ad : Nat → Nat} {cI cZ cC : ClassId} {M : Mem} : (wk ad cI cZ cC M)[18]? = some (ad 18, .inl (cI, 5, .inl (M 18))) := rfl
theorem wka_18 {ad : Nat → Nat} {cI cZ cC : ClassId} {M : Mem} {i : Nat} {x : Int32} : (wk ad cI cZ cC M).set 18 (ad 18, .inl (cI, 5, .inl (upd (M 18) i x))) = wk ad cI cZ cC (ms M 18 i x) := rfl
theorem wkz_18 {ad : Nat → Nat} {cI cZ cC : ClassId} {M : Mem} {x : Int32} : (wk ad cI cZ cC M).set 18 (ad 18, .inl (cI, 5, .inl (fun j => if j < 5 then x else M 18 j))) = wk ad cI cZ cC (mf M 18 5 x) := rfl
theorem wkg_19 {ad : Nat → Nat} {cI cZ cC : ClassId} {M : Mem} : (wk ad cI cZ cC M)[19]? = some (ad 19, .inl (cZ, 120, .inl (M 19))) := rfl
theorem wka_19 {ad : Nat → Nat} {cI cZ cC : ClassId} {M : Mem} {i : Nat} {x : Int32} : (wk ad cI cZ cC M).set 19 (ad 19, .inl (cZ, 120, .inl (upd (M 19) i x))) = wk ad cI cZ cC (ms M 19 i x) := rfl
theorem wkg_20 {ad : Nat → Nat} {cI cZ cC : ClassId} {M : Mem} : (wk ad cI cZ cC M)[20]? = some (ad 20, .inl (cI, 120, .inl (M 20))) := rfl
theorem wka_20 {ad : Nat → Nat} {cI cZ cC : ClassId} {M : Mem} {i : Nat} {x : Int32} : (wk ad cI cZ cC M).set 20 (ad 20, .inl (cI, 120, .inl (upd (M 20) i x))) = wk ad cI cZ cC (ms M 20 i x) := rfl
theorem wkz_20 {ad : Nat → Nat} {cI cZ cC : ClassId} {M : Mem} {x : Int32} : (wk ad cI cZ cC M).set 20 (ad 20, .inl (cI, 120, .inl (fun j => if j < 120 then x else M 20 j))) = wk ad cI cZ cC (mf M 20 120 x) := rfl
theorem tw_688 : Cond.fieldLink "NoneWordsModel" 76 "NoneWordsModel" "names" "I" ∈ TB := inTB 688 (by decide +kernel) (by decide +kernel)
theorem tw_689 : Cond.fieldLink "NoneWordsModel" 79 "NoneWordsModel" "nodes" "I" ∈ TB := inTB 689 (by decide +kernel) (by decide +kernel)
theorem tw_686 : Cond.fieldLink "NoneWordsModel" 72 "NoneWordsModel" "code" "I" ∈ TB := inTB 686 (by decide +kernel) (by decide +kernel)
theorem tw_687 : Cond.fieldLink "NoneWordsModel" 7 "NoneWordsModel" "versions" "[I" ∈ TB := inTB 687 (by decide +kernel) (by decide +kernel)
theorem tw_696 : Cond.fieldLink "NoneWordsModel" 32 "NoneWordsModel" "says" "[Z" ∈ TB := inTB 696 (by decide +kernel) (by decide +kernel)
theorem tw_787 : Cond.methodLink "NoneWordsModel" 82 ⟨"NoneWordsModel", "place", "(II)I"⟩ ∈ TB := inTB 787 (by decide +kernel) (by decide +kernel)
theorem tw_695 : Cond.fieldLink "NoneWordsModel" 28 "NoneWordsModel" "has" "[Z" ∈ TB := inTB 695 (by decide +kernel) (by decide +kernel)
theorem tw_806 : Cond.methodLink "NoneWordsModel" 86 ⟨"NoneWordsModel", "isSaid", "(III)Z"⟩ ∈ TB := inTB 806 (by decide +kernel) (by decide +kernel)
theorem tw_798 : Cond.methodLink "NoneWordsModel" 90 ⟨"NoneWordsModel", "tell", "(IIIZ)V"⟩ ∈ TB := inTB 798 (by decide +kernel) (by decide +kernel)
theorem tw_802 : Cond.methodLink "NoneWordsModel" 94 ⟨"NoneWordsModel", "keep", "(II)V"⟩ ∈ TB := inTB 802 (by decide +kernel) (by decide +kernel)
theorem tw_794 : Cond.methodLink "NoneWordsModel" 108 ⟨"NoneWordsModel", "make", "(IIZ)V"⟩ ∈ TB := inTB 794 (by decide +kernel) (by decide +kernel)
theorem tw_693 : Cond.fieldLink "NoneWordsModel" 22 "NoneWordsModel" "two" "[I" ∈ TB := inTB 693 (by decide +kernel) (by decide +kernel)
theorem tw_694 : Cond.fieldLink "NoneWordsModel" 25 "NoneWordsModel" "twoSet" "[I" ∈ TB := inTB 694 (by decide +kernel) (by decide +kernel)
theorem tw_790 : Cond.methodLink "NoneWordsModel" 105 ⟨"NoneWordsModel", "there", "(II)I"⟩ ∈ TB := inTB 790 (by decide +kernel) (by decide +kernel)
theorem tw_783 : Cond.methodLink "NoneWordsModel" 102 ⟨"NoneWordsModel", "clear", "()V"⟩ ∈ TB := inTB 783 (by decide +kernel) (by decide +kernel)
theorem tw_690 : Cond.fieldLink "NoneWordsModel" 13 "NoneWordsModel" "kind" "[I" ∈ TB := inTB 690 (by decide +kernel) (by decide +kernel)
theorem tw_691 : Cond.fieldLink "NoneWordsModel" 16 "NoneWordsModel" "one" "[I" ∈ TB := inTB 691 (by decide +kernel) (by decide +kernel)
theorem tw_692 : Cond.fieldLink "NoneWordsModel" 19 "NoneWordsModel" "oneSet" "[I" ∈ TB := inTB 692 (by decide +kernel) (by decide +kernel)
theorem tw_779 : Cond.methodLink "NoneWordsModel" 98 ⟨"NoneWordsModel", "isName", "(I)Z"⟩ ∈ TB := inTB 779 (by decide +kernel) (by decide +kernel)
theorem tw_814 : Cond.methodLink "NoneWordsModel" 112 ⟨"NoneWordsModel", "isNode", "(I)Z"⟩ ∈ TB := inTB 814 (by decide +kernel) (by decide +kernel)
theorem tw_834 : Cond.methodLink "NoneWordsModel" 115 ⟨"NoneWordsModel", "isWanted", "(II)Z"⟩ ∈ TB := inTB 834 (by decide +kernel) (by decide +kernel)
theorem tw_822 : Cond.methodLink "NoneWordsModel" 119 ⟨"NoneWordsModel", "count", "(I)I"⟩ ∈ TB := inTB 822 (by decide +kernel) (by decide +kernel)
theorem tw_830 : Cond.methodLink "NoneWordsModel" 123 ⟨"NoneWordsModel", "setOf", "(II)I"⟩ ∈ TB := inTB 830 (by decide +kernel) (by decide +kernel)
section MODEL1
variable {p : Program} {l : Launch} {e : Env} {s : State} {m : MethodId} {args : Array Value} {below : List Frame} {meth : Method} {c : Code} {D : va_G} {A : Nat → Prop} {Z : gw_Z} {ad : Nat → Nat} {cI cZ cC : ClassId}
abbrev b_K_isName : ByteArray := prog_7_method_3_code
def y_K_isName : MethodName := ⟨"NoneWordsModel", "isName", "(I)Z"⟩
abbrev ws_K_isName : List Cond := Cond.code y_K_isName b_K_isName 2 (some (FieldType.boolean)) :: TB
set_option maxRecDepth 100000 in
theorem tc_K_isName : Cond.code y_K_isName b_K_isName 2 (some (FieldType.boolean)) ∈ TB := inTB 782 rfl rfl
theorem mv_K_isName : Cond.instanceMethod y_K_isName ∈ TB ∧ Cond.selects "NoneWordsModel" y_K_isName y_K_isName ∈ TB ∧ Cond.initialized "NoneWordsModel" ∈ TB ∧ Cond.code y_K_isName b_K_isName 2 (some (FieldType.boolean)) ∈ TB := ⟨inTB 781 (by decide +kernel) (by decide +kernel), inTB 26 (by decide +kernel) (by decide +kernel), inTB 71 (by decide +kernel) (by decide +kernel), tc_K_isName⟩
theorem pd_K_isName : y_K_isName.cls = "NoneWordsModel" ∧ y_K_isName.cls ≠ "java/lang/invoke/MethodHandle" ∧ y_K_isName.cls ≠ "java/lang/invoke/VarHandle" ∧ (parseMethodDescriptor y_K_isName.desc).map (fun d => d.parameters.length) = some 1 := by decide +kernel
theorem d_K_isName_0 : decode b_K_isName 0 = .ok (.iload_n 1, 1) := by decide +kernel
theorem d_K_isName_1 : decode b_K_isName 1 = .ok (.ifCond .lt 15, 3) := by decide +kernel
theorem d_K_isName_4 : decode b_K_isName 4 = .ok (.iload_n 1, 1) := by decide +kernel
theorem d_K_isName_5 : decode b_K_isName 5 = .ok (.aload_n 0, 1) := by decide +kernel
theorem d_K_isName_6 : decode b_K_isName 6 = .ok (.getfield 76, 3) := by decide +kernel
theorem d_K_isName_9 : decode b_K_isName 9 = .ok (.if_icmp .ge 7, 3) := by decide +kernel
theorem d_K_isName_12 : decode b_K_isName 12 = .ok (.iconst 1, 1) := by decide +kernel
theorem d_K_isName_13 : decode b_K_isName 13 = .ok (.goto 4, 3) := by decide +kernel
theorem d_K_isName_16 : decode b_K_isName 16 = .ok (.iconst 0, 1) := by decide +kernel
theorem d_K_isName_17 : decode b_K_isName 17 = .ok (.ireturn, 1) := by decide +kernel
abbrev rm_K_isName : Room := { frames := 0, cells := 0, slots := 0, locals := 0 }
def f_K_isName (x1 : Int32) (M : Mem) : Option (Int32 × Mem) :=
  if x1 < 0 then some ((0 : Int32), M) else if (M 0 2) ≤ x1 then some ((0 : Int32), M) else some ((1 : Int32), M)
set_option maxRecDepth 100000 in
theorem g_K_isName {r : Int32} {M' : Mem} (C : GC p s m args meth c b_K_isName 2 (some (FieldType.boolean)) "NoneWordsModel" TB D vwCl (tysW cI cZ cC) A Z) {x1 : Int32} {M : Mem} (hf : f_K_isName x1 M = some (r, M')) : GW p l e rm_K_isName s m args below meth c (MQ below (QW D vwCl (tysW cI cZ cC) A (some (.int r)) (wk ad cI cZ cC M')) args s 0 0 A) D vwCl A 2 0 0 (wk ad cI cZ cC M) 0 [(0, .ref (ad 0)), (1, .int x1)] [] := by
  unfold f_K_isName at hf
  refine gw_iload_n C 1 d_K_isName_0 rfl rfl ?_
  refine gw_if_lt (tgt := 16) C d_K_isName_1 (by decide) (fun c => ?_) (fun c => ?_)
  · have hf := (if_pos c).symm.trans hf
    refine gw_iconst (v := (0 : Int32)) C d_K_isName_16 (by decide) ?_
    exact gw_zreti C d_K_isName_17 (wk ad cI cZ cC) (by decide) hf
  · have hf := (if_neg c).symm.trans hf
    refine gw_iload_n C 1 d_K_isName_4 rfl rfl ?_
    refine gw_aload_n C 0 d_K_isName_5 rfl rfl ?_
    refine gw_get C in_K 0 wkg_0 clg_5 2 (by decide) tw_688 rfl rfl d_K_isName_6 ?_
    refine gw_icmp_ge (tgt := 16) C d_K_isName_9 (by decide) (fun c => ?_) (fun c => ?_)
    · have hf := (if_pos c).symm.trans hf
      refine gw_iconst (v := (0 : Int32)) C d_K_isName_16 (by decide) ?_
      exact gw_zreti C d_K_isName_17 (wk ad cI cZ cC) (by decide) hf
    · have hf := (if_neg c).symm.trans hf
      refine gw_iconst (v := (1 : Int32)) C d_K_isName_12 (by decide) ?_
      refine gw_goto (tgt := 17) C d_K_isName_13 (by decide) ?_
      exact gw_zreti C d_K_isName_17 (wk ad cI cZ cC) (by decide) hf
theorem c_K_isName (hZ : gw_ZOK Z) {x1 : Int32} {M : Mem} {r : Int32} {M' : Mem} (hf : f_K_isName x1 M = some (r, M')) : CW l y_K_isName ws_K_isName rm_K_isName D vwCl (tysW cI cZ cC) Z [.ref (ad 0), .int x1] (wk ad cI cZ cC M) (some (.int r)) (wk ad cI cZ cC M') 0 0 :=
  CW.ofG hZ (by decide) rfl (Nat.le_of_ble_eq_true rfl) (fun _ _ _ _ _ _ _ _ C _ => g_K_isName C hf)
abbrev b_K_isNode : ByteArray := prog_7_method_4_code
def y_K_isNode : MethodName := ⟨"NoneWordsModel", "isNode", "(I)Z"⟩
abbrev ws_K_isNode : List Cond := Cond.code y_K_isNode b_K_isNode 2 (some (FieldType.boolean)) :: TB
set_option maxRecDepth 100000 in
theorem tc_K_isNode : Cond.code y_K_isNode b_K_isNode 2 (some (FieldType.boolean)) ∈ TB := inTB 817 rfl rfl
theorem mv_K_isNode : Cond.instanceMethod y_K_isNode ∈ TB ∧ Cond.selects "NoneWordsModel" y_K_isNode y_K_isNode ∈ TB ∧ Cond.initialized "NoneWordsModel" ∈ TB ∧ Cond.code y_K_isNode b_K_isNode 2 (some (FieldType.boolean)) ∈ TB := ⟨inTB 816 (by decide +kernel) (by decide +kernel), inTB 33 (by decide +kernel) (by decide +kernel), inTB 71 (by decide +kernel) (by decide +kernel), tc_K_isNode⟩
theorem pd_K_isNode : y_K_isNode.cls = "NoneWordsModel" ∧ y_K_isNode.cls ≠ "java/lang/invoke/MethodHandle" ∧ y_K_isNode.cls ≠ "java/lang/invoke/VarHandle" ∧ (parseMethodDescriptor y_K_isNode.desc).map (fun d => d.parameters.length) = some 1 := by decide +kernel
theorem d_K_isNode_0 : decode b_K_isNode 0 = .ok (.iload_n 1, 1) := by decide +kernel
theorem d_K_isNode_1 : decode b_K_isNode 1 = .ok (.ifCond .lt 15, 3) := by decide +kernel
theorem d_K_isNode_4 : decode b_K_isNode 4 = .ok (.iload_n 1, 1) := by decide +kernel
theorem d_K_isNode_5 : decode b_K_isNode 5 = .ok (.aload_n 0, 1) := by decide +kernel
theorem d_K_isNode_6 : decode b_K_isNode 6 = .ok (.getfield 79, 3) := by decide +kernel
theorem d_K_isNode_9 : decode b_K_isNode 9 = .ok (.if_icmp .ge 7, 3) := by decide +kernel
theorem d_K_isNode_12 : decode b_K_isNode 12 = .ok (.iconst 1, 1) := by decide +kernel
theorem d_K_isNode_13 : decode b_K_isNode 13 = .ok (.goto 4, 3) := by decide +kernel
theorem d_K_isNode_16 : decode b_K_isNode 16 = .ok (.iconst 0, 1) := by decide +kernel
theorem d_K_isNode_17 : decode b_K_isNode 17 = .ok (.ireturn, 1) := by decide +kernel
abbrev rm_K_isNode : Room := { frames := 0, cells := 0, slots := 0, locals := 0 }
def f_K_isNode (x1 : Int32) (M : Mem) : Option (Int32 × Mem) :=
  if x1 < 0 then some ((0 : Int32), M) else if (M 0 3) ≤ x1 then some ((0 : Int32), M) else some ((1 : Int32), M)
set_option maxRecDepth 100000 in
theorem g_K_isNode {r : Int32} {M' : Mem} (C : GC p s m args meth c b_K_isNode 2 (some (FieldType.boolean)) "NoneWordsModel" TB D vwCl (tysW cI cZ cC) A Z) {x1 : Int32} {M : Mem} (hf : f_K_isNode x1 M = some (r, M')) : GW p l e rm_K_isNode s m args below meth c (MQ below (QW D vwCl (tysW cI cZ cC) A (some (.int r)) (wk ad cI cZ cC M')) args s 0 0 A) D vwCl A 2 0 0 (wk ad cI cZ cC M) 0 [(0, .ref (ad 0)), (1, .int x1)] [] := by
  unfold f_K_isNode at hf
  refine gw_iload_n C 1 d_K_isNode_0 rfl rfl ?_
  refine gw_if_lt (tgt := 16) C d_K_isNode_1 (by decide) (fun c => ?_) (fun c => ?_)
  · have hf := (if_pos c).symm.trans hf
    refine gw_iconst (v := (0 : Int32)) C d_K_isNode_16 (by decide) ?_
    exact gw_zreti C d_K_isNode_17 (wk ad cI cZ cC) (by decide) hf
  · have hf := (if_neg c).symm.trans hf
    refine gw_iload_n C 1 d_K_isNode_4 rfl rfl ?_
    refine gw_aload_n C 0 d_K_isNode_5 rfl rfl ?_
    refine gw_get C in_K 0 wkg_0 clg_5 3 (by decide) tw_689 rfl rfl d_K_isNode_6 ?_
    refine gw_icmp_ge (tgt := 16) C d_K_isNode_9 (by decide) (fun c => ?_) (fun c => ?_)
    · have hf := (if_pos c).symm.trans hf
      refine gw_iconst (v := (0 : Int32)) C d_K_isNode_16 (by decide) ?_
      exact gw_zreti C d_K_isNode_17 (wk ad cI cZ cC) (by decide) hf
    · have hf := (if_neg c).symm.trans hf
      refine gw_iconst (v := (1 : Int32)) C d_K_isNode_12 (by decide) ?_
      refine gw_goto (tgt := 17) C d_K_isNode_13 (by decide) ?_
      exact gw_zreti C d_K_isNode_17 (wk ad cI cZ cC) (by decide) hf
theorem c_K_isNode (hZ : gw_ZOK Z) {x1 : Int32} {M : Mem} {r : Int32} {M' : Mem} (hf : f_K_isNode x1 M = some (r, M')) : CW l y_K_isNode ws_K_isNode rm_K_isNode D vwCl (tysW cI cZ cC) Z [.ref (ad 0), .int x1] (wk ad cI cZ cC M) (some (.int r)) (wk ad cI cZ cC M') 0 0 :=
  CW.ofG hZ (by decide) rfl (Nat.le_of_ble_eq_true rfl) (fun _ _ _ _ _ _ _ _ C _ => g_K_isNode C hf)
abbrev b_K_name : ByteArray := prog_7_method_5_code
def y_K_name : MethodName := ⟨"NoneWordsModel", "name", "(I)I"⟩
abbrev ws_K_name : List Cond := Cond.code y_K_name b_K_name 2 (some (FieldType.int)) :: TB
set_option maxRecDepth 100000 in
theorem tc_K_name : Cond.code y_K_name b_K_name 2 (some (FieldType.int)) ∈ TB := inTB 774 rfl rfl
theorem mv_K_name : Cond.instanceMethod y_K_name ∈ TB ∧ Cond.selects "NoneWordsModel" y_K_name y_K_name ∈ TB ∧ Cond.initialized "NoneWordsModel" ∈ TB ∧ Cond.code y_K_name b_K_name 2 (some (FieldType.int)) ∈ TB := ⟨inTB 772 (by decide +kernel) (by decide +kernel), inTB 773 (by decide +kernel) (by decide +kernel), inTB 71 (by decide +kernel) (by decide +kernel), tc_K_name⟩
theorem pd_K_name : y_K_name.cls = "NoneWordsModel" ∧ y_K_name.cls ≠ "java/lang/invoke/MethodHandle" ∧ y_K_name.cls ≠ "java/lang/invoke/VarHandle" ∧ (parseMethodDescriptor y_K_name.desc).map (fun d => d.parameters.length) = some 1 := by decide +kernel
theorem d_K_name_0 : decode b_K_name 0 = .ok (.aload_n 0, 1) := by decide +kernel
theorem d_K_name_1 : decode b_K_name 1 = .ok (.iconst 0, 1) := by decide +kernel
theorem d_K_name_2 : decode b_K_name 2 = .ok (.putfield 72, 3) := by decide +kernel
theorem d_K_name_5 : decode b_K_name 5 = .ok (.aload_n 0, 1) := by decide +kernel
theorem d_K_name_6 : decode b_K_name 6 = .ok (.getfield 76, 3) := by decide +kernel
theorem d_K_name_9 : decode b_K_name 9 = .ok (.iconst 5, 1) := by decide +kernel
theorem d_K_name_10 : decode b_K_name 10 = .ok (.if_icmp .eq 12, 3) := by decide +kernel
theorem d_K_name_13 : decode b_K_name 13 = .ok (.iload_n 1, 1) := by decide +kernel
theorem d_K_name_14 : decode b_K_name 14 = .ok (.ifCond .lt 8, 3) := by decide +kernel
theorem d_K_name_17 : decode b_K_name 17 = .ok (.iload_n 1, 1) := by decide +kernel
theorem d_K_name_18 : decode b_K_name 18 = .ok (.iconst 4, 1) := by decide +kernel
theorem d_K_name_19 : decode b_K_name 19 = .ok (.if_icmp .le 5, 3) := by decide +kernel
theorem d_K_name_22 : decode b_K_name 22 = .ok (.iconst (-1), 1) := by decide +kernel
theorem d_K_name_23 : decode b_K_name 23 = .ok (.ireturn, 1) := by decide +kernel
theorem d_K_name_24 : decode b_K_name 24 = .ok (.aload_n 0, 1) := by decide +kernel
theorem d_K_name_25 : decode b_K_name 25 = .ok (.getfield 7, 3) := by decide +kernel
theorem d_K_name_28 : decode b_K_name 28 = .ok (.aload_n 0, 1) := by decide +kernel
theorem d_K_name_29 : decode b_K_name 29 = .ok (.getfield 76, 3) := by decide +kernel
theorem d_K_name_32 : decode b_K_name 32 = .ok (.iload_n 1, 1) := by decide +kernel
theorem d_K_name_33 : decode b_K_name 33 = .ok (.iastore, 1) := by decide +kernel
theorem d_K_name_34 : decode b_K_name 34 = .ok (.aload_n 0, 1) := by decide +kernel
theorem d_K_name_35 : decode b_K_name 35 = .ok (.dup, 1) := by decide +kernel
theorem d_K_name_36 : decode b_K_name 36 = .ok (.getfield 76, 3) := by decide +kernel
theorem d_K_name_39 : decode b_K_name 39 = .ok (.iconst 1, 1) := by decide +kernel
theorem d_K_name_40 : decode b_K_name 40 = .ok (.iadd, 1) := by decide +kernel
theorem d_K_name_41 : decode b_K_name 41 = .ok (.putfield 76, 3) := by decide +kernel
theorem d_K_name_44 : decode b_K_name 44 = .ok (.aload_n 0, 1) := by decide +kernel
theorem d_K_name_45 : decode b_K_name 45 = .ok (.getfield 76, 3) := by decide +kernel
theorem d_K_name_48 : decode b_K_name 48 = .ok (.iconst 1, 1) := by decide +kernel
theorem d_K_name_49 : decode b_K_name 49 = .ok (.isub, 1) := by decide +kernel
theorem d_K_name_50 : decode b_K_name 50 = .ok (.ireturn, 1) := by decide +kernel
abbrev rm_K_name : Room := { frames := 0, cells := 0, slots := 0, locals := 0 }
def f_K_name (x1 : Int32) (M : Mem) : Option (Int32 × Mem) :=
  if ((ms M 0 0 (0 : Int32)) 0 2) = (5 : Int32) then some ((-1 : Int32), ms M 0 0 (0 : Int32)) else if x1 < 0 then some ((-1 : Int32), ms M 0 0 (0 : Int32)) else if x1 ≤ (4 : Int32) then gd (inb ((ms M 0 0 (0 : Int32)) 0 2) 5) (some (((ms (ms (ms M 0 0 (0 : Int32)) 1 ((ms M 0 0 (0 : Int32)) 0 2).toNatClampNeg x1) 0 2 (((ms (ms M 0 0 (0 : Int32)) 1 ((ms M 0 0 (0 : Int32)) 0 2).toNatClampNeg x1) 0 2) + (1 : Int32))) 0 2) - (1 : Int32), ms (ms (ms M 0 0 (0 : Int32)) 1 ((ms M 0 0 (0 : Int32)) 0 2).toNatClampNeg x1) 0 2 (((ms (ms M 0 0 (0 : Int32)) 1 ((ms M 0 0 (0 : Int32)) 0 2).toNatClampNeg x1) 0 2) + (1 : Int32)))) else some ((-1 : Int32), ms M 0 0 (0 : Int32))
set_option maxRecDepth 100000 in
theorem g_K_name {r : Int32} {M' : Mem} (C : GC p s m args meth c b_K_name 2 (some (FieldType.int)) "NoneWordsModel" TB D vwCl (tysW cI cZ cC) A Z) {x1 : Int32} {M : Mem} (hf : f_K_name x1 M = some (r, M')) : GW p l e rm_K_name s m args below meth c (MQ below (QW D vwCl (tysW cI cZ cC) A (some (.int r)) (wk ad cI cZ cC M')) args s 0 0 A) D vwCl A 2 0 0 (wk ad cI cZ cC M) 0 [(0, .ref (ad 0)), (1, .int x1)] [] := by
  unfold f_K_name at hf
  refine gw_aload_n C 0 d_K_name_0 rfl rfl ?_
  refine gw_iconst (v := (0 : Int32)) C d_K_name_1 (by decide) ?_
  refine gw_put C in_K ty_K tk_K nm_K 0 wkg_0 clg_5 0 (by decide) tw_686 rfl rfl rfl rfl (Nat.le_of_ble_eq_true rfl) d_K_name_2 wkf_0_0 ?_
  refine gw_aload_n C 0 d_K_name_5 rfl rfl ?_
  refine gw_get C in_K 0 wkg_0 clg_5 2 (by decide) tw_688 rfl rfl d_K_name_6 ?_
  refine gw_iconst (v := (5 : Int32)) C d_K_name_9 (by decide) ?_
  refine gw_icmp_eq (tgt := 22) C d_K_name_10 (by decide) (fun c => ?_) (fun c => ?_)
  · have hf := (if_pos c).symm.trans hf
    refine gw_iconst (v := (-1 : Int32)) C d_K_name_22 (by decide) ?_
    exact gw_ireti C d_K_name_23 (wk ad cI cZ cC) hf
  · have hf := (if_neg c).symm.trans hf
    refine gw_iload_n C 1 d_K_name_13 rfl rfl ?_
    refine gw_if_lt (tgt := 22) C d_K_name_14 (by decide) (fun c => ?_) (fun c => ?_)
    · have hf := (if_pos c).symm.trans hf
      refine gw_iconst (v := (-1 : Int32)) C d_K_name_22 (by decide) ?_
      exact gw_ireti C d_K_name_23 (wk ad cI cZ cC) hf
    · have hf := (if_neg c).symm.trans hf
      refine gw_iload_n C 1 d_K_name_17 rfl rfl ?_
      refine gw_iconst (v := (4 : Int32)) C d_K_name_18 (by decide) ?_
      refine gw_icmp_le (tgt := 24) C d_K_name_19 (by decide) (fun c => ?_) (fun c => ?_)
      · have hf := (if_pos c).symm.trans hf
        refine gw_aload_n C 0 d_K_name_24 rfl rfl ?_
        refine gw_get C in_K 0 wkg_0 clg_5 1 (by decide) tw_687 rfl rfl d_K_name_25 ?_
        refine gw_aload_n C 0 d_K_name_28 rfl rfl ?_
        refine gw_get C in_K 0 wkg_0 clg_5 2 (by decide) tw_688 rfl rfl d_K_name_29 ?_
        refine gw_iload_n C 1 d_K_name_32 rfl rfl ?_
        obtain ⟨hb33, hf⟩ := gd_some hf
        refine gw_iast C 1 0 wkg_1 rfl hb33 d_K_name_33 wka_1 ?_
        refine gw_aload_n C 0 d_K_name_34 rfl rfl ?_
        refine gw_dup C d_K_name_35 rfl ?_
        refine gw_get C in_K 0 wkg_0 clg_5 2 (by decide) tw_688 rfl rfl d_K_name_36 ?_
        refine gw_iconst (v := (1 : Int32)) C d_K_name_39 (by decide) ?_
        refine gw_iadd C d_K_name_40 ?_
        refine gw_put C in_K ty_K tk_K nm_K 0 wkg_0 clg_5 2 (by decide) tw_688 rfl rfl rfl rfl (Nat.le_of_ble_eq_true rfl) d_K_name_41 wkf_0_2 ?_
        refine gw_aload_n C 0 d_K_name_44 rfl rfl ?_
        refine gw_get C in_K 0 wkg_0 clg_5 2 (by decide) tw_688 rfl rfl d_K_name_45 ?_
        refine gw_iconst (v := (1 : Int32)) C d_K_name_48 (by decide) ?_
        refine gw_isub C d_K_name_49 ?_
        exact gw_ireti C d_K_name_50 (wk ad cI cZ cC) hf
      · have hf := (if_neg c).symm.trans hf
        refine gw_iconst (v := (-1 : Int32)) C d_K_name_22 (by decide) ?_
        exact gw_ireti C d_K_name_23 (wk ad cI cZ cC) hf
theorem c_K_name (hZ : gw_ZOK Z) {x1 : Int32} {M : Mem} {r : Int32} {M' : Mem} (hf : f_K_name x1 M = some (r, M')) : CW l y_K_name ws_K_name rm_K_name D vwCl (tysW cI cZ cC) Z [.ref (ad 0), .int x1] (wk ad cI cZ cC M) (some (.int r)) (wk ad cI cZ cC M') 0 0 :=
  CW.ofG hZ (by decide) rfl (Nat.le_of_ble_eq_true rfl) (fun _ _ _ _ _ _ _ _ C _ => g_K_name C hf)
abbrev b_K_place : ByteArray := prog_7_method_6_code
def y_K_place : MethodName := ⟨"NoneWordsModel", "place", "(II)I"⟩
abbrev ws_K_place : List Cond := Cond.code y_K_place b_K_place 2 (some (FieldType.int)) :: TB
set_option maxRecDepth 100000 in
theorem tc_K_place : Cond.code y_K_place b_K_place 2 (some (FieldType.int)) ∈ TB := inTB 789 rfl rfl
theorem mv_K_place : Cond.static y_K_place ∈ TB ∧ Cond.initialized "NoneWordsModel" ∈ TB ∧ Cond.code y_K_place b_K_place 2 (some (FieldType.int)) ∈ TB := ⟨inTB 788 (by decide +kernel) (by decide +kernel), inTB 71 (by decide +kernel) (by decide +kernel), tc_K_place⟩
theorem pd_K_place : y_K_place.cls = "NoneWordsModel" ∧ y_K_place.cls ≠ "java/lang/invoke/MethodHandle" ∧ y_K_place.cls ≠ "java/lang/invoke/VarHandle" ∧ (parseMethodDescriptor y_K_place.desc).map (fun d => d.parameters.length) = some 2 := by decide +kernel
theorem d_K_place_0 : decode b_K_place 0 = .ok (.iconst 5, 1) := by decide +kernel
theorem d_K_place_1 : decode b_K_place 1 = .ok (.iload_n 0, 1) := by decide +kernel
theorem d_K_place_2 : decode b_K_place 2 = .ok (.imul, 1) := by decide +kernel
theorem d_K_place_3 : decode b_K_place 3 = .ok (.iload_n 1, 1) := by decide +kernel
theorem d_K_place_4 : decode b_K_place 4 = .ok (.iadd, 1) := by decide +kernel
theorem d_K_place_5 : decode b_K_place 5 = .ok (.ireturn, 1) := by decide +kernel
abbrev rm_K_place : Room := { frames := 0, cells := 0, slots := 0, locals := 0 }
def f_K_place (x0 : Int32) (x1 : Int32) (M : Mem) : Option (Int32 × Mem) :=
  some (((5 : Int32) * x0) + x1, M)
set_option maxRecDepth 100000 in
theorem g_K_place {r : Int32} {M' : Mem} (C : GC p s m args meth c b_K_place 2 (some (FieldType.int)) "NoneWordsModel" TB D vwCl (tysW cI cZ cC) A Z) {x0 : Int32} {x1 : Int32} {M : Mem} (hf : f_K_place x0 x1 M = some (r, M')) : GW p l e rm_K_place s m args below meth c (MQ below (QW D vwCl (tysW cI cZ cC) A (some (.int r)) (wk ad cI cZ cC M')) args s 0 0 A) D vwCl A 2 0 0 (wk ad cI cZ cC M) 0 [(0, .int x0), (1, .int x1)] [] := by
  unfold f_K_place at hf
  refine gw_iconst (v := (5 : Int32)) C d_K_place_0 (by decide) ?_
  refine gw_iload_n C 0 d_K_place_1 rfl rfl ?_
  refine gw_imul C d_K_place_2 ?_
  refine gw_iload_n C 1 d_K_place_3 rfl rfl ?_
  refine gw_iadd C d_K_place_4 ?_
  exact gw_ireti C d_K_place_5 (wk ad cI cZ cC) hf
theorem c_K_place (hZ : gw_ZOK Z) {x0 : Int32} {x1 : Int32} {M : Mem} {r : Int32} {M' : Mem} (hf : f_K_place x0 x1 M = some (r, M')) : CW l y_K_place ws_K_place rm_K_place D vwCl (tysW cI cZ cC) Z [.int x0, .int x1] (wk ad cI cZ cC M) (some (.int r)) (wk ad cI cZ cC M') 0 0 :=
  CW.ofG hZ (by decide) rfl (Nat.le_of_ble_eq_true rfl) (fun _ _ _ _ _ _ _ _ C _ => g_K_place C hf)
abbrev b_K_isSaid : ByteArray := prog_7_method_7_code
def y_K_isSaid : MethodName := ⟨"NoneWordsModel", "isSaid", "(III)Z"⟩
abbrev ws_K_isSaid : List Cond := Cond.code y_K_isSaid b_K_isSaid 4 (some (FieldType.boolean)) :: TB
set_option maxRecDepth 100000 in
theorem tc_K_isSaid : Cond.code y_K_isSaid b_K_isSaid 4 (some (FieldType.boolean)) ∈ TB := inTB 809 rfl rfl
theorem mv_K_isSaid : Cond.instanceMethod y_K_isSaid ∈ TB ∧ Cond.selects "NoneWordsModel" y_K_isSaid y_K_isSaid ∈ TB ∧ Cond.initialized "NoneWordsModel" ∈ TB ∧ Cond.code y_K_isSaid b_K_isSaid 4 (some (FieldType.boolean)) ∈ TB := ⟨inTB 808 (by decide +kernel) (by decide +kernel), inTB 32 (by decide +kernel) (by decide +kernel), inTB 71 (by decide +kernel) (by decide +kernel), tc_K_isSaid⟩
theorem pd_K_isSaid : y_K_isSaid.cls = "NoneWordsModel" ∧ y_K_isSaid.cls ≠ "java/lang/invoke/MethodHandle" ∧ y_K_isSaid.cls ≠ "java/lang/invoke/VarHandle" ∧ (parseMethodDescriptor y_K_isSaid.desc).map (fun d => d.parameters.length) = some 3 := by decide +kernel
theorem d_K_isSaid_0 : decode b_K_isSaid 0 = .ok (.aload_n 0, 1) := by decide +kernel
theorem d_K_isSaid_1 : decode b_K_isSaid 1 = .ok (.getfield 32, 3) := by decide +kernel
theorem d_K_isSaid_4 : decode b_K_isSaid 4 = .ok (.iconst 5, 1) := by decide +kernel
theorem d_K_isSaid_5 : decode b_K_isSaid 5 = .ok (.iload_n 1, 1) := by decide +kernel
theorem d_K_isSaid_6 : decode b_K_isSaid 6 = .ok (.iload_n 2, 1) := by decide +kernel
theorem d_K_isSaid_7 : decode b_K_isSaid 7 = .ok (.invokestatic 82, 3) := by decide +kernel
theorem d_K_isSaid_10 : decode b_K_isSaid 10 = .ok (.imul, 1) := by decide +kernel
theorem d_K_isSaid_11 : decode b_K_isSaid 11 = .ok (.iload_n 3, 1) := by decide +kernel
theorem d_K_isSaid_12 : decode b_K_isSaid 12 = .ok (.iadd, 1) := by decide +kernel
theorem d_K_isSaid_13 : decode b_K_isSaid 13 = .ok (.iconst 1, 1) := by decide +kernel
theorem d_K_isSaid_14 : decode b_K_isSaid 14 = .ok (.iadd, 1) := by decide +kernel
theorem d_K_isSaid_15 : decode b_K_isSaid 15 = .ok (.baload, 1) := by decide +kernel
theorem d_K_isSaid_16 : decode b_K_isSaid 16 = .ok (.ireturn, 1) := by decide +kernel
abbrev rm_K_isSaid : Room := { frames := 1, cells := 0, slots := 0, locals := 21 }
def f_K_isSaid (x1 : Int32) (x2 : Int32) (x3 : Int32) (M : Mem) : Option (Int32 × Mem) :=
  ob (f_K_place x1 x2 M) fun r7 M7 => gd (inb ((((5 : Int32) * r7) + x3) + (1 : Int32)) 3000) (some (vp_nar .boolean (M7 8 ((((5 : Int32) * r7) + x3) + (1 : Int32)).toNatClampNeg), M7))
set_option maxRecDepth 100000 in
theorem g_K_isSaid {r : Int32} {M' : Mem} (C : GC p s m args meth c b_K_isSaid 4 (some (FieldType.boolean)) "NoneWordsModel" TB D vwCl (tysW cI cZ cC) A Z) {x1 : Int32} {x2 : Int32} {x3 : Int32} {M : Mem} (hf : f_K_isSaid x1 x2 x3 M = some (r, M')) : GW p l e rm_K_isSaid s m args below meth c (MQ below (QW D vwCl (tysW cI cZ cC) A (some (.int r)) (wk ad cI cZ cC M')) args s 0 0 A) D vwCl A 4 0 0 (wk ad cI cZ cC M) 0 [(0, .ref (ad 0)), (1, .int x1), (2, .int x2), (3, .int x3)] [] := by
  unfold f_K_isSaid at hf
  refine gw_aload_n C 0 d_K_isSaid_0 rfl rfl ?_
  refine gw_get C in_K 0 wkg_0 clg_5 10 (by decide) tw_696 rfl rfl d_K_isSaid_1 ?_
  refine gw_iconst (v := (5 : Int32)) C d_K_isSaid_4 (by decide) ?_
  refine gw_iload_n C 1 d_K_isSaid_5 rfl rfl ?_
  refine gw_iload_n C 2 d_K_isSaid_6 rfl rfl ?_
  obtain ⟨r7, M7, hc7, hf⟩ := ob_some hf
  refine gw_callSr (rest := [.int (5 : Int32), .ref (ad 8)]) C (c_K_place C.2.2.2.2.2.2.2.2.2.2 hc7) (cwS 2 C.2.2.2.2.1 (gTB_S tw_787 mv_K_place) rfl rfl rfl pd_K_place ⟨Nat.le_of_ble_eq_true rfl, Nat.le_of_ble_eq_true rfl⟩) rfl rfl (Nat.le_of_ble_eq_true rfl) d_K_isSaid_7 ⟨Nat.le_of_ble_eq_true rfl, Nat.le_of_ble_eq_true rfl⟩ ?_
  refine gw_imul C d_K_isSaid_10 ?_
  refine gw_iload_n C 3 d_K_isSaid_11 rfl rfl ?_
  refine gw_iadd C d_K_isSaid_12 ?_
  refine gw_iconst (v := (1 : Int32)) C d_K_isSaid_13 (by decide) ?_
  refine gw_iadd C d_K_isSaid_14 ?_
  obtain ⟨hb15, hf⟩ := gd_some hf
  refine gw_zald C 8 1 wkg_8 rfl hb15 d_K_isSaid_15 ?_
  exact gw_zretn C d_K_isSaid_16 (wk ad cI cZ cC) (nar_b _) hf
theorem c_K_isSaid (hZ : gw_ZOK Z) {x1 : Int32} {x2 : Int32} {x3 : Int32} {M : Mem} {r : Int32} {M' : Mem} (hf : f_K_isSaid x1 x2 x3 M = some (r, M')) : CW l y_K_isSaid ws_K_isSaid rm_K_isSaid D vwCl (tysW cI cZ cC) Z [.ref (ad 0), .int x1, .int x2, .int x3] (wk ad cI cZ cC M) (some (.int r)) (wk ad cI cZ cC M') 0 0 :=
  CW.ofG hZ (by decide) rfl (Nat.le_of_ble_eq_true rfl) (fun _ _ _ _ _ _ _ _ C _ => g_K_isSaid C hf)
abbrev b_K_tell : ByteArray := prog_7_method_8_code
def y_K_tell : MethodName := ⟨"NoneWordsModel", "tell", "(IIIZ)V"⟩
abbrev ws_K_tell : List Cond := Cond.code y_K_tell b_K_tell 5 (none) :: TB
set_option maxRecDepth 100000 in
theorem tc_K_tell : Cond.code y_K_tell b_K_tell 5 (none) ∈ TB := inTB 801 rfl rfl
theorem mv_K_tell : Cond.instanceMethod y_K_tell ∈ TB ∧ Cond.selects "NoneWordsModel" y_K_tell y_K_tell ∈ TB ∧ Cond.initialized "NoneWordsModel" ∈ TB ∧ Cond.code y_K_tell b_K_tell 5 (none) ∈ TB := ⟨inTB 800 (by decide +kernel) (by decide +kernel), inTB 30 (by decide +kernel) (by decide +kernel), inTB 71 (by decide +kernel) (by decide +kernel), tc_K_tell⟩
theorem pd_K_tell : y_K_tell.cls = "NoneWordsModel" ∧ y_K_tell.cls ≠ "java/lang/invoke/MethodHandle" ∧ y_K_tell.cls ≠ "java/lang/invoke/VarHandle" ∧ (parseMethodDescriptor y_K_tell.desc).map (fun d => d.parameters.length) = some 4 := by decide +kernel
theorem d_K_tell_0 : decode b_K_tell 0 = .ok (.aload_n 0, 1) := by decide +kernel
theorem d_K_tell_1 : decode b_K_tell 1 = .ok (.getfield 32, 3) := by decide +kernel
theorem d_K_tell_4 : decode b_K_tell 4 = .ok (.iconst 5, 1) := by decide +kernel
theorem d_K_tell_5 : decode b_K_tell 5 = .ok (.iload_n 1, 1) := by decide +kernel
theorem d_K_tell_6 : decode b_K_tell 6 = .ok (.iload_n 2, 1) := by decide +kernel
theorem d_K_tell_7 : decode b_K_tell 7 = .ok (.invokestatic 82, 3) := by decide +kernel
theorem d_K_tell_10 : decode b_K_tell 10 = .ok (.imul, 1) := by decide +kernel
theorem d_K_tell_11 : decode b_K_tell 11 = .ok (.iload_n 3, 1) := by decide +kernel
theorem d_K_tell_12 : decode b_K_tell 12 = .ok (.iadd, 1) := by decide +kernel
theorem d_K_tell_13 : decode b_K_tell 13 = .ok (.iconst 1, 1) := by decide +kernel
theorem d_K_tell_14 : decode b_K_tell 14 = .ok (.iadd, 1) := by decide +kernel
theorem d_K_tell_15 : decode b_K_tell 15 = .ok (.iload 4, 2) := by decide +kernel
theorem d_K_tell_17 : decode b_K_tell 17 = .ok (.bastore, 1) := by decide +kernel
theorem d_K_tell_18 : decode b_K_tell 18 = .ok (.return_, 1) := by decide +kernel
abbrev rm_K_tell : Room := { frames := 1, cells := 0, slots := 0, locals := 21 }
def f_K_tell (x1 : Int32) (x2 : Int32) (x3 : Int32) (x4 : Int32) (M : Mem) : Option Mem :=
  ob (f_K_place x1 x2 M) fun r7 M7 => gd (inb ((((5 : Int32) * r7) + x3) + (1 : Int32)) 3000) (some (ms M7 8 ((((5 : Int32) * r7) + x3) + (1 : Int32)).toNatClampNeg (vp_nar .boolean x4)))
set_option maxRecDepth 100000 in
theorem g_K_tell {M' : Mem} (C : GC p s m args meth c b_K_tell 5 (none) "NoneWordsModel" TB D vwCl (tysW cI cZ cC) A Z) {x1 : Int32} {x2 : Int32} {x3 : Int32} {x4 : Int32} {M : Mem} (hf : f_K_tell x1 x2 x3 x4 M = some M') : GW p l e rm_K_tell s m args below meth c (MQ below (QW D vwCl (tysW cI cZ cC) A none (wk ad cI cZ cC M')) args s 0 0 A) D vwCl A 5 0 0 (wk ad cI cZ cC M) 0 [(0, .ref (ad 0)), (1, .int x1), (2, .int x2), (3, .int x3), (4, .int x4)] [] := by
  unfold f_K_tell at hf
  refine gw_aload_n C 0 d_K_tell_0 rfl rfl ?_
  refine gw_get C in_K 0 wkg_0 clg_5 10 (by decide) tw_696 rfl rfl d_K_tell_1 ?_
  refine gw_iconst (v := (5 : Int32)) C d_K_tell_4 (by decide) ?_
  refine gw_iload_n C 1 d_K_tell_5 rfl rfl ?_
  refine gw_iload_n C 2 d_K_tell_6 rfl rfl ?_
  obtain ⟨r7, M7, hc7, hf⟩ := ob_some hf
  refine gw_callSr (rest := [.int (5 : Int32), .ref (ad 8)]) C (c_K_place C.2.2.2.2.2.2.2.2.2.2 hc7) (cwS 2 C.2.2.2.2.1 (gTB_S tw_787 mv_K_place) rfl rfl rfl pd_K_place ⟨Nat.le_of_ble_eq_true rfl, Nat.le_of_ble_eq_true rfl⟩) rfl rfl (Nat.le_of_ble_eq_true rfl) d_K_tell_7 ⟨Nat.le_of_ble_eq_true rfl, Nat.le_of_ble_eq_true rfl⟩ ?_
  refine gw_imul C d_K_tell_10 ?_
  refine gw_iload_n C 3 d_K_tell_11 rfl rfl ?_
  refine gw_iadd C d_K_tell_12 ?_
  refine gw_iconst (v := (1 : Int32)) C d_K_tell_13 (by decide) ?_
  refine gw_iadd C d_K_tell_14 ?_
  refine gw_iload C 4 d_K_tell_15 rfl ?_
  obtain ⟨hb17, hf⟩ := gd_some hf
  refine gw_zast C 8 1 wkg_8 rfl hb17 d_K_tell_17 wka_8 ?_
  exact gw_vreti C d_K_tell_18 (wk ad cI cZ cC) hf
theorem c_K_tell (hZ : gw_ZOK Z) {x1 : Int32} {x2 : Int32} {x3 : Int32} {x4 : Int32} {M : Mem} {M' : Mem} (hf : f_K_tell x1 x2 x3 x4 M = some M') : CW l y_K_tell ws_K_tell rm_K_tell D vwCl (tysW cI cZ cC) Z [.ref (ad 0), .int x1, .int x2, .int x3, .int x4] (wk ad cI cZ cC M) none (wk ad cI cZ cC M') 0 0 :=
  CW.ofG hZ (by decide) rfl (Nat.le_of_ble_eq_true rfl) (fun _ _ _ _ _ _ _ _ C _ => g_K_tell C hf)
abbrev b_K_keep : ByteArray := prog_7_method_9_code
def y_K_keep : MethodName := ⟨"NoneWordsModel", "keep", "(II)V"⟩
abbrev ws_K_keep : List Cond := Cond.code y_K_keep b_K_keep 5 (none) :: TB
set_option maxRecDepth 100000 in
theorem tc_K_keep : Cond.code y_K_keep b_K_keep 5 (none) ∈ TB := inTB 805 rfl rfl
theorem mv_K_keep : Cond.instanceMethod y_K_keep ∈ TB ∧ Cond.selects "NoneWordsModel" y_K_keep y_K_keep ∈ TB ∧ Cond.initialized "NoneWordsModel" ∈ TB ∧ Cond.code y_K_keep b_K_keep 5 (none) ∈ TB := ⟨inTB 804 (by decide +kernel) (by decide +kernel), inTB 31 (by decide +kernel) (by decide +kernel), inTB 71 (by decide +kernel) (by decide +kernel), tc_K_keep⟩
theorem pd_K_keep : y_K_keep.cls = "NoneWordsModel" ∧ y_K_keep.cls ≠ "java/lang/invoke/MethodHandle" ∧ y_K_keep.cls ≠ "java/lang/invoke/VarHandle" ∧ (parseMethodDescriptor y_K_keep.desc).map (fun d => d.parameters.length) = some 2 := by decide +kernel
theorem d_K_keep_0 : decode b_K_keep 0 = .ok (.iconst 1, 1) := by decide +kernel
theorem d_K_keep_1 : decode b_K_keep 1 = .ok (.istore_n 3, 1) := by decide +kernel
theorem d_K_keep_2 : decode b_K_keep 2 = .ok (.iconst (-1), 1) := by decide +kernel
theorem d_K_keep_3 : decode b_K_keep 3 = .ok (.istore 4, 2) := by decide +kernel
theorem d_K_keep_5 : decode b_K_keep 5 = .ok (.iload 4, 2) := by decide +kernel
theorem d_K_keep_7 : decode b_K_keep 7 = .ok (.aload_n 0, 1) := by decide +kernel
theorem d_K_keep_8 : decode b_K_keep 8 = .ok (.getfield 7, 3) := by decide +kernel
theorem d_K_keep_11 : decode b_K_keep 11 = .ok (.iload_n 2, 1) := by decide +kernel
theorem d_K_keep_12 : decode b_K_keep 12 = .ok (.iaload, 1) := by decide +kernel
theorem d_K_keep_13 : decode b_K_keep 13 = .ok (.if_icmp .ge 30, 3) := by decide +kernel
theorem d_K_keep_16 : decode b_K_keep 16 = .ok (.iload_n 3, 1) := by decide +kernel
theorem d_K_keep_17 : decode b_K_keep 17 = .ok (.ifCond .eq 18, 3) := by decide +kernel
theorem d_K_keep_20 : decode b_K_keep 20 = .ok (.aload_n 0, 1) := by decide +kernel
theorem d_K_keep_21 : decode b_K_keep 21 = .ok (.iload_n 1, 1) := by decide +kernel
theorem d_K_keep_22 : decode b_K_keep 22 = .ok (.iload_n 2, 1) := by decide +kernel
theorem d_K_keep_23 : decode b_K_keep 23 = .ok (.iload 4, 2) := by decide +kernel
theorem d_K_keep_25 : decode b_K_keep 25 = .ok (.invokevirtual 86, 3) := by decide +kernel
theorem d_K_keep_28 : decode b_K_keep 28 = .ok (.ifCond .eq 7, 3) := by decide +kernel
theorem d_K_keep_31 : decode b_K_keep 31 = .ok (.iconst 1, 1) := by decide +kernel
theorem d_K_keep_32 : decode b_K_keep 32 = .ok (.goto 4, 3) := by decide +kernel
theorem d_K_keep_35 : decode b_K_keep 35 = .ok (.iconst 0, 1) := by decide +kernel
theorem d_K_keep_36 : decode b_K_keep 36 = .ok (.istore_n 3, 1) := by decide +kernel
theorem d_K_keep_37 : decode b_K_keep 37 = .ok (.iinc 4 1, 3) := by decide +kernel
theorem d_K_keep_40 : decode b_K_keep 40 = .ok (.goto (-35), 3) := by decide +kernel
theorem d_K_keep_43 : decode b_K_keep 43 = .ok (.aload_n 0, 1) := by decide +kernel
theorem d_K_keep_44 : decode b_K_keep 44 = .ok (.getfield 28, 3) := by decide +kernel
theorem d_K_keep_47 : decode b_K_keep 47 = .ok (.iload_n 1, 1) := by decide +kernel
theorem d_K_keep_48 : decode b_K_keep 48 = .ok (.iload_n 2, 1) := by decide +kernel
theorem d_K_keep_49 : decode b_K_keep 49 = .ok (.invokestatic 82, 3) := by decide +kernel
theorem d_K_keep_52 : decode b_K_keep 52 = .ok (.iload_n 3, 1) := by decide +kernel
theorem d_K_keep_53 : decode b_K_keep 53 = .ok (.ifCond .ne 7, 3) := by decide +kernel
theorem d_K_keep_56 : decode b_K_keep 56 = .ok (.iconst 1, 1) := by decide +kernel
theorem d_K_keep_57 : decode b_K_keep 57 = .ok (.goto 4, 3) := by decide +kernel
theorem d_K_keep_60 : decode b_K_keep 60 = .ok (.iconst 0, 1) := by decide +kernel
theorem d_K_keep_61 : decode b_K_keep 61 = .ok (.bastore, 1) := by decide +kernel
theorem d_K_keep_62 : decode b_K_keep 62 = .ok (.return_, 1) := by decide +kernel
abbrev rm_K_keep : Room := { frames := 2, cells := 0, slots := 0, locals := 44 }
def f_K_keep_5 : Nat → Int32 → Int32 → Int32 → Int32 → Mem → Option Mem
  | 0, _, _, _, _, _ => none
  | n + 1, x1, x2, x3, x4, M => gd (inb x2 5) (if (M 1 x2.toNatClampNeg) ≤ x4 then ob (f_K_place x1 x2 M) fun r49 M49 => if x3 = 0 then gd (inb r49 600) (some (ms M49 7 r49.toNatClampNeg (vp_nar .boolean (1 : Int32)))) else gd (inb r49 600) (some (ms M49 7 r49.toNatClampNeg (vp_nar .boolean (0 : Int32)))) else if x3 = 0 then (f_K_keep_5 n) x1 x2 (0 : Int32) (x4 + (1 : Int32)) M else ob (f_K_isSaid x1 x2 x4 M) fun r25 M25 => if r25 = 0 then (f_K_keep_5 n) x1 x2 (0 : Int32) (x4 + (1 : Int32)) M25 else (f_K_keep_5 n) x1 x2 (1 : Int32) (x4 + (1 : Int32)) M25)
set_option maxRecDepth 100000 in
theorem g_K_keep_5 {M' : Mem} (C : GC p s m args meth c b_K_keep 5 (none) "NoneWordsModel" TB D vwCl (tysW cI cZ cC) A Z) : ∀ (n : Nat) (x1 : Int32) (x2 : Int32) (x3 : Int32) (x4 : Int32) (M : Mem), f_K_keep_5 n x1 x2 x3 x4 M = some M' → GW p l e rm_K_keep s m args below meth c (MQ below (QW D vwCl (tysW cI cZ cC) A none (wk ad cI cZ cC M')) args s 0 0 A) D vwCl A 5 0 0 (wk ad cI cZ cC M) 5 [(0, .ref (ad 0)), (1, .int x1), (2, .int x2), (3, .int x3), (4, .int x4)] [] := by
  intro n
  induction n with
  | zero => intro _ _ _ _ _ hf; cases hf
  | succ n ih =>
    intro x1 x2 x3 x4 M hf
    rw [f_K_keep_5] at hf
    refine gw_iload C 4 d_K_keep_5 rfl ?_
    refine gw_aload_n C 0 d_K_keep_7 rfl rfl ?_
    refine gw_get C in_K 0 wkg_0 clg_5 1 (by decide) tw_687 rfl rfl d_K_keep_8 ?_
    refine gw_iload_n C 2 d_K_keep_11 rfl rfl ?_
    obtain ⟨hb12, hf⟩ := gd_some hf
    refine gw_iald C 1 0 wkg_1 rfl hb12 d_K_keep_12 ?_
    refine gw_icmp_ge (tgt := 43) C d_K_keep_13 (by decide) (fun c => ?_) (fun c => ?_)
    · have hf := (if_pos c).symm.trans hf
      refine gw_aload_n C 0 d_K_keep_43 rfl rfl ?_
      refine gw_get C in_K 0 wkg_0 clg_5 9 (by decide) tw_695 rfl rfl d_K_keep_44 ?_
      refine gw_iload_n C 1 d_K_keep_47 rfl rfl ?_
      refine gw_iload_n C 2 d_K_keep_48 rfl rfl ?_
      obtain ⟨r49, M49, hc49, hf⟩ := ob_some hf
      refine gw_callSr (rest := [.ref (ad 7)]) C (c_K_place C.2.2.2.2.2.2.2.2.2.2 hc49) (cwS 2 C.2.2.2.2.1 (gTB_S tw_787 mv_K_place) rfl rfl rfl pd_K_place ⟨Nat.le_of_ble_eq_true rfl, Nat.le_of_ble_eq_true rfl⟩) rfl rfl (Nat.le_of_ble_eq_true rfl) d_K_keep_49 ⟨Nat.le_of_ble_eq_true rfl, Nat.le_of_ble_eq_true rfl⟩ ?_
      refine gw_iload_n C 3 d_K_keep_52 rfl rfl ?_
      refine gw_if_ne (tgt := 60) C d_K_keep_53 (by decide) (fun c => ?_) (fun c => ?_)
      · have hf := (if_neg c).symm.trans hf
        refine gw_iconst (v := (0 : Int32)) C d_K_keep_60 (by decide) ?_
        obtain ⟨hb61, hf⟩ := gd_some hf
        refine gw_zast C 7 1 wkg_7 rfl hb61 d_K_keep_61 wka_7 ?_
        exact gw_vreti C d_K_keep_62 (wk ad cI cZ cC) hf
      · have hf := (if_pos c).symm.trans hf
        refine gw_iconst (v := (1 : Int32)) C d_K_keep_56 (by decide) ?_
        refine gw_goto (tgt := 61) C d_K_keep_57 (by decide) ?_
        obtain ⟨hb61, hf⟩ := gd_some hf
        refine gw_zast C 7 1 wkg_7 rfl hb61 d_K_keep_61 wka_7 ?_
        exact gw_vreti C d_K_keep_62 (wk ad cI cZ cC) hf
    · have hf := (if_neg c).symm.trans hf
      refine gw_iload_n C 3 d_K_keep_16 rfl rfl ?_
      refine gw_if_eq (tgt := 35) C d_K_keep_17 (by decide) (fun c => ?_) (fun c => ?_)
      · have hf := (if_pos c).symm.trans hf
        refine gw_iconst (v := (0 : Int32)) C d_K_keep_35 (by decide) ?_
        refine gw_istore_n (lv' := [(3, .int (0 : Int32)), (0, .ref (ad 0)), (1, .int x1), (2, .int x2), (4, .int x4)]) C d_K_keep_36 rfl (by decide) rfl ?_
        refine gw_iinc (v := x4 + (1 : Int32)) (lv' := [(4, .int (x4 + (1 : Int32))), (3, .int (0 : Int32)), (0, .ref (ad 0)), (1, .int x1), (2, .int x2)]) C 4 d_K_keep_37 rfl rfl (by decide) rfl ?_
        refine gw_goto (tgt := 5) C d_K_keep_40 (by decide) ?_
        exact gw_sub [2, 3, 4, 1, 0] rfl (ih _ _ _ _ _ hf)
      · have hf := (if_neg c).symm.trans hf
        refine gw_aload_n C 0 d_K_keep_20 rfl rfl ?_
        refine gw_iload_n C 1 d_K_keep_21 rfl rfl ?_
        refine gw_iload_n C 2 d_K_keep_22 rfl rfl ?_
        refine gw_iload C 4 d_K_keep_23 rfl ?_
        obtain ⟨r25, M25, hc25, hf⟩ := ob_some hf
        refine gw_callVr (rest := []) C 0 wkg_0 clg_5 (c_K_isSaid C.2.2.2.2.2.2.2.2.2.2 hc25) (cwV 3 C.2.2.2.2.1 (gTB_V tw_806 mv_K_isSaid) rfl rfl rfl pd_K_isSaid ⟨Nat.le_of_ble_eq_true rfl, Nat.le_of_ble_eq_true rfl⟩) rfl rfl (Nat.le_of_ble_eq_true rfl) d_K_keep_25 ⟨Nat.le_of_ble_eq_true rfl, Nat.le_of_ble_eq_true rfl⟩ ?_
        refine gw_if_eq (tgt := 35) C d_K_keep_28 (by decide) (fun c => ?_) (fun c => ?_)
        · have hf := (if_pos c).symm.trans hf
          refine gw_iconst (v := (0 : Int32)) C d_K_keep_35 (by decide) ?_
          refine gw_istore_n (lv' := [(3, .int (0 : Int32)), (0, .ref (ad 0)), (1, .int x1), (2, .int x2), (4, .int x4)]) C d_K_keep_36 rfl (by decide) rfl ?_
          refine gw_iinc (v := x4 + (1 : Int32)) (lv' := [(4, .int (x4 + (1 : Int32))), (3, .int (0 : Int32)), (0, .ref (ad 0)), (1, .int x1), (2, .int x2)]) C 4 d_K_keep_37 rfl rfl (by decide) rfl ?_
          refine gw_goto (tgt := 5) C d_K_keep_40 (by decide) ?_
          exact gw_sub [2, 3, 4, 1, 0] rfl (ih _ _ _ _ _ hf)
        · have hf := (if_neg c).symm.trans hf
          refine gw_iconst (v := (1 : Int32)) C d_K_keep_31 (by decide) ?_
          refine gw_goto (tgt := 36) C d_K_keep_32 (by decide) ?_
          refine gw_istore_n (lv' := [(3, .int (1 : Int32)), (0, .ref (ad 0)), (1, .int x1), (2, .int x2), (4, .int x4)]) C d_K_keep_36 rfl (by decide) rfl ?_
          refine gw_iinc (v := x4 + (1 : Int32)) (lv' := [(4, .int (x4 + (1 : Int32))), (3, .int (1 : Int32)), (0, .ref (ad 0)), (1, .int x1), (2, .int x2)]) C 4 d_K_keep_37 rfl rfl (by decide) rfl ?_
          refine gw_goto (tgt := 5) C d_K_keep_40 (by decide) ?_
          exact gw_sub [2, 3, 4, 1, 0] rfl (ih _ _ _ _ _ hf)
def f_K_keep (x1 : Int32) (x2 : Int32) (M : Mem) : Option Mem :=
  f_K_keep_5 100000 x1 x2 (1 : Int32) (-1 : Int32) M
set_option maxRecDepth 100000 in
theorem g_K_keep {M' : Mem} (C : GC p s m args meth c b_K_keep 5 (none) "NoneWordsModel" TB D vwCl (tysW cI cZ cC) A Z) {x1 : Int32} {x2 : Int32} {M : Mem} (hf : f_K_keep x1 x2 M = some M') : GW p l e rm_K_keep s m args below meth c (MQ below (QW D vwCl (tysW cI cZ cC) A none (wk ad cI cZ cC M')) args s 0 0 A) D vwCl A 5 0 0 (wk ad cI cZ cC M) 0 [(0, .ref (ad 0)), (1, .int x1), (2, .int x2)] [] := by
  unfold f_K_keep at hf
  refine gw_iconst (v := (1 : Int32)) C d_K_keep_0 (by decide) ?_
  refine gw_istore_n (lv' := [(3, .int (1 : Int32)), (0, .ref (ad 0)), (1, .int x1), (2, .int x2)]) C d_K_keep_1 rfl (by decide) rfl ?_
  refine gw_iconst (v := (-1 : Int32)) C d_K_keep_2 (by decide) ?_
  refine gw_istore (lv' := [(4, .int (-1 : Int32)), (3, .int (1 : Int32)), (0, .ref (ad 0)), (1, .int x1), (2, .int x2)]) C d_K_keep_3 (by decide) rfl ?_
  exact gw_sub [2, 3, 4, 1, 0] rfl (g_K_keep_5 C _ _ _ _ _ _ hf)
theorem c_K_keep (hZ : gw_ZOK Z) {x1 : Int32} {x2 : Int32} {M : Mem} {M' : Mem} (hf : f_K_keep x1 x2 M = some M') : CW l y_K_keep ws_K_keep rm_K_keep D vwCl (tysW cI cZ cC) Z [.ref (ad 0), .int x1, .int x2] (wk ad cI cZ cC M) none (wk ad cI cZ cC M') 0 0 :=
  CW.ofG hZ (by decide) rfl (Nat.le_of_ble_eq_true rfl) (fun _ _ _ _ _ _ _ _ C _ => g_K_keep C hf)
abbrev b_K_make : ByteArray := prog_7_method_10_code
def y_K_make : MethodName := ⟨"NoneWordsModel", "make", "(IIZ)V"⟩
abbrev ws_K_make : List Cond := Cond.code y_K_make b_K_make 5 (none) :: TB
set_option maxRecDepth 100000 in
theorem tc_K_make : Cond.code y_K_make b_K_make 5 (none) ∈ TB := inTB 797 rfl rfl
theorem mv_K_make : Cond.instanceMethod y_K_make ∈ TB ∧ Cond.selects "NoneWordsModel" y_K_make y_K_make ∈ TB ∧ Cond.initialized "NoneWordsModel" ∈ TB ∧ Cond.code y_K_make b_K_make 5 (none) ∈ TB := ⟨inTB 796 (by decide +kernel) (by decide +kernel), inTB 29 (by decide +kernel) (by decide +kernel), inTB 71 (by decide +kernel) (by decide +kernel), tc_K_make⟩
theorem pd_K_make : y_K_make.cls = "NoneWordsModel" ∧ y_K_make.cls ≠ "java/lang/invoke/MethodHandle" ∧ y_K_make.cls ≠ "java/lang/invoke/VarHandle" ∧ (parseMethodDescriptor y_K_make.desc).map (fun d => d.parameters.length) = some 3 := by decide +kernel
theorem d_K_make_0 : decode b_K_make 0 = .ok (.aload_n 0, 1) := by decide +kernel
theorem d_K_make_1 : decode b_K_make 1 = .ok (.aload_n 0, 1) := by decide +kernel
theorem d_K_make_2 : decode b_K_make 2 = .ok (.getfield 79, 3) := by decide +kernel
theorem d_K_make_5 : decode b_K_make 5 = .ok (.iload_n 1, 1) := by decide +kernel
theorem d_K_make_6 : decode b_K_make 6 = .ok (.iconst (-1), 1) := by decide +kernel
theorem d_K_make_7 : decode b_K_make 7 = .ok (.iload_n 3, 1) := by decide +kernel
theorem d_K_make_8 : decode b_K_make 8 = .ok (.ifCond .ne 7, 3) := by decide +kernel
theorem d_K_make_11 : decode b_K_make 11 = .ok (.iconst 1, 1) := by decide +kernel
theorem d_K_make_12 : decode b_K_make 12 = .ok (.goto 4, 3) := by decide +kernel
theorem d_K_make_15 : decode b_K_make 15 = .ok (.iconst 0, 1) := by decide +kernel
theorem d_K_make_16 : decode b_K_make 16 = .ok (.invokevirtual 90, 3) := by decide +kernel
theorem d_K_make_19 : decode b_K_make 19 = .ok (.iconst 0, 1) := by decide +kernel
theorem d_K_make_20 : decode b_K_make 20 = .ok (.istore 4, 2) := by decide +kernel
theorem d_K_make_22 : decode b_K_make 22 = .ok (.iload 4, 2) := by decide +kernel
theorem d_K_make_24 : decode b_K_make 24 = .ok (.iconst 4, 1) := by decide +kernel
theorem d_K_make_25 : decode b_K_make 25 = .ok (.if_icmp .ge 44, 3) := by decide +kernel
theorem d_K_make_28 : decode b_K_make 28 = .ok (.aload_n 0, 1) := by decide +kernel
theorem d_K_make_29 : decode b_K_make 29 = .ok (.aload_n 0, 1) := by decide +kernel
theorem d_K_make_30 : decode b_K_make 30 = .ok (.getfield 79, 3) := by decide +kernel
theorem d_K_make_33 : decode b_K_make 33 = .ok (.iload_n 1, 1) := by decide +kernel
theorem d_K_make_34 : decode b_K_make 34 = .ok (.iload 4, 2) := by decide +kernel
theorem d_K_make_36 : decode b_K_make 36 = .ok (.iload_n 2, 1) := by decide +kernel
theorem d_K_make_37 : decode b_K_make 37 = .ok (.iload 4, 2) := by decide +kernel
theorem d_K_make_39 : decode b_K_make 39 = .ok (.ishr, 1) := by decide +kernel
theorem d_K_make_40 : decode b_K_make 40 = .ok (.iconst 1, 1) := by decide +kernel
theorem d_K_make_41 : decode b_K_make 41 = .ok (.iand, 1) := by decide +kernel
theorem d_K_make_42 : decode b_K_make 42 = .ok (.iconst 1, 1) := by decide +kernel
theorem d_K_make_43 : decode b_K_make 43 = .ok (.if_icmp .ne 7, 3) := by decide +kernel
theorem d_K_make_46 : decode b_K_make 46 = .ok (.iconst 1, 1) := by decide +kernel
theorem d_K_make_47 : decode b_K_make 47 = .ok (.goto 4, 3) := by decide +kernel
theorem d_K_make_50 : decode b_K_make 50 = .ok (.iconst 0, 1) := by decide +kernel
theorem d_K_make_51 : decode b_K_make 51 = .ok (.iload_n 3, 1) := by decide +kernel
theorem d_K_make_52 : decode b_K_make 52 = .ok (.if_icmp .ne 7, 3) := by decide +kernel
theorem d_K_make_55 : decode b_K_make 55 = .ok (.iconst 1, 1) := by decide +kernel
theorem d_K_make_56 : decode b_K_make 56 = .ok (.goto 4, 3) := by decide +kernel
theorem d_K_make_59 : decode b_K_make 59 = .ok (.iconst 0, 1) := by decide +kernel
theorem d_K_make_60 : decode b_K_make 60 = .ok (.invokevirtual 90, 3) := by decide +kernel
theorem d_K_make_63 : decode b_K_make 63 = .ok (.iinc 4 1, 3) := by decide +kernel
theorem d_K_make_66 : decode b_K_make 66 = .ok (.goto (-44), 3) := by decide +kernel
theorem d_K_make_69 : decode b_K_make 69 = .ok (.aload_n 0, 1) := by decide +kernel
theorem d_K_make_70 : decode b_K_make 70 = .ok (.aload_n 0, 1) := by decide +kernel
theorem d_K_make_71 : decode b_K_make 71 = .ok (.getfield 79, 3) := by decide +kernel
theorem d_K_make_74 : decode b_K_make 74 = .ok (.iload_n 1, 1) := by decide +kernel
theorem d_K_make_75 : decode b_K_make 75 = .ok (.invokevirtual 94, 3) := by decide +kernel
theorem d_K_make_78 : decode b_K_make 78 = .ok (.return_, 1) := by decide +kernel
abbrev rm_K_make : Room := { frames := 3, cells := 0, slots := 0, locals := 68 }
def f_K_make_60 (k22 : Int32 → Int32 → Int32 → Int32 → Mem → Option Mem) (x1 : Int32) (x2 : Int32) (x3 : Int32) (x4 : Int32) (y0 : Int32) (y1 : Int32) (y2 : Int32) (y3 : Int32) (M : Mem) : Option Mem :=
  om (f_K_tell y3 y2 y1 y0 M) fun M60 => k22 x1 x2 x3 (x4 + (1 : Int32)) M60
set_option maxRecDepth 100000 in
theorem g_K_make_60 {M' : Mem} (C : GC p s m args meth c b_K_make 5 (none) "NoneWordsModel" TB D vwCl (tysW cI cZ cC) A Z) {k22 : Int32 → Int32 → Int32 → Int32 → Mem → Option Mem} (hk22 : ∀ (x1 : Int32) (x2 : Int32) (x3 : Int32) (x4 : Int32) (M : Mem), k22 x1 x2 x3 x4 M = some M' → GW p l e rm_K_make s m args below meth c (MQ below (QW D vwCl (tysW cI cZ cC) A none (wk ad cI cZ cC M')) args s 0 0 A) D vwCl A 5 0 0 (wk ad cI cZ cC M) 22 [(0, .ref (ad 0)), (1, .int x1), (2, .int x2), (3, .int x3), (4, .int x4)] []) {x1 : Int32} {x2 : Int32} {x3 : Int32} {x4 : Int32} {y0 : Int32} {y1 : Int32} {y2 : Int32} {y3 : Int32} {M : Mem} (hf : f_K_make_60 k22 x1 x2 x3 x4 y0 y1 y2 y3 M = some M') : GW p l e rm_K_make s m args below meth c (MQ below (QW D vwCl (tysW cI cZ cC) A none (wk ad cI cZ cC M')) args s 0 0 A) D vwCl A 5 0 0 (wk ad cI cZ cC M) 60 [(0, .ref (ad 0)), (1, .int x1), (2, .int x2), (3, .int x3), (4, .int x4)] [.int y0, .int y1, .int y2, .int y3, .ref (ad 0)] := by
  unfold f_K_make_60 at hf
  obtain ⟨M60, hc60, hf⟩ := om_some hf
  refine gw_callVv (rest := []) C 0 wkg_0 clg_5 (c_K_tell C.2.2.2.2.2.2.2.2.2.2 hc60) (cwV 4 C.2.2.2.2.1 (gTB_V tw_798 mv_K_tell) rfl rfl rfl pd_K_tell ⟨Nat.le_of_ble_eq_true rfl, Nat.le_of_ble_eq_true rfl⟩) rfl rfl (Nat.le_of_ble_eq_true rfl) d_K_make_60 ⟨Nat.le_of_ble_eq_true rfl, Nat.le_of_ble_eq_true rfl⟩ ?_
  refine gw_iinc (v := x4 + (1 : Int32)) (lv' := [(4, .int (x4 + (1 : Int32))), (0, .ref (ad 0)), (1, .int x1), (2, .int x2), (3, .int x3)]) C 4 d_K_make_63 rfl rfl (by decide) rfl ?_
  refine gw_goto (tgt := 22) C d_K_make_66 (by decide) ?_
  exact gw_sub [1, 2, 3, 4, 0] rfl (hk22 _ _ _ _ _ hf)
def f_K_make_22 : Nat → Int32 → Int32 → Int32 → Int32 → Mem → Option Mem
  | 0, _, _, _, _, _ => none
  | n + 1, x1, x2, x3, x4, M => if (4 : Int32) ≤ x4 then om (f_K_keep (M 0 3) x1 M) fun M75 => some M75 else if ((x2 >>> (x4 &&& 31)) &&& (1 : Int32)) = (1 : Int32) then if (1 : Int32) = x3 then f_K_make_60 (f_K_make_22 n) x1 x2 x3 x4 (1 : Int32) x4 x1 (M 0 3) M else f_K_make_60 (f_K_make_22 n) x1 x2 x3 x4 (0 : Int32) x4 x1 (M 0 3) M else if (0 : Int32) = x3 then f_K_make_60 (f_K_make_22 n) x1 x2 x3 x4 (1 : Int32) x4 x1 (M 0 3) M else f_K_make_60 (f_K_make_22 n) x1 x2 x3 x4 (0 : Int32) x4 x1 (M 0 3) M
set_option maxRecDepth 100000 in
theorem g_K_make_22 {M' : Mem} (C : GC p s m args meth c b_K_make 5 (none) "NoneWordsModel" TB D vwCl (tysW cI cZ cC) A Z) : ∀ (n : Nat) (x1 : Int32) (x2 : Int32) (x3 : Int32) (x4 : Int32) (M : Mem), f_K_make_22 n x1 x2 x3 x4 M = some M' → GW p l e rm_K_make s m args below meth c (MQ below (QW D vwCl (tysW cI cZ cC) A none (wk ad cI cZ cC M')) args s 0 0 A) D vwCl A 5 0 0 (wk ad cI cZ cC M) 22 [(0, .ref (ad 0)), (1, .int x1), (2, .int x2), (3, .int x3), (4, .int x4)] [] := by
  intro n
  induction n with
  | zero => intro _ _ _ _ _ hf; cases hf
  | succ n ih =>
    intro x1 x2 x3 x4 M hf
    rw [f_K_make_22] at hf
    refine gw_iload C 4 d_K_make_22 rfl ?_
    refine gw_iconst (v := (4 : Int32)) C d_K_make_24 (by decide) ?_
    refine gw_icmp_ge (tgt := 69) C d_K_make_25 (by decide) (fun c => ?_) (fun c => ?_)
    · have hf := (if_pos c).symm.trans hf
      refine gw_aload_n C 0 d_K_make_69 rfl rfl ?_
      refine gw_aload_n C 0 d_K_make_70 rfl rfl ?_
      refine gw_get C in_K 0 wkg_0 clg_5 3 (by decide) tw_689 rfl rfl d_K_make_71 ?_
      refine gw_iload_n C 1 d_K_make_74 rfl rfl ?_
      obtain ⟨M75, hc75, hf⟩ := om_some hf
      refine gw_callVv (rest := []) C 0 wkg_0 clg_5 (c_K_keep C.2.2.2.2.2.2.2.2.2.2 hc75) (cwV 2 C.2.2.2.2.1 (gTB_V tw_802 mv_K_keep) rfl rfl rfl pd_K_keep ⟨Nat.le_of_ble_eq_true rfl, Nat.le_of_ble_eq_true rfl⟩) rfl rfl (Nat.le_of_ble_eq_true rfl) d_K_make_75 ⟨Nat.le_of_ble_eq_true rfl, Nat.le_of_ble_eq_true rfl⟩ ?_
      exact gw_vreti C d_K_make_78 (wk ad cI cZ cC) hf
    · have hf := (if_neg c).symm.trans hf
      refine gw_aload_n C 0 d_K_make_28 rfl rfl ?_
      refine gw_aload_n C 0 d_K_make_29 rfl rfl ?_
      refine gw_get C in_K 0 wkg_0 clg_5 3 (by decide) tw_689 rfl rfl d_K_make_30 ?_
      refine gw_iload_n C 1 d_K_make_33 rfl rfl ?_
      refine gw_iload C 4 d_K_make_34 rfl ?_
      refine gw_iload_n C 2 d_K_make_36 rfl rfl ?_
      refine gw_iload C 4 d_K_make_37 rfl ?_
      refine gw_ishr C d_K_make_39 ?_
      refine gw_iconst (v := (1 : Int32)) C d_K_make_40 (by decide) ?_
      refine gw_iand C d_K_make_41 ?_
      refine gw_iconst (v := (1 : Int32)) C d_K_make_42 (by decide) ?_
      refine gw_icmp_ne (tgt := 50) C d_K_make_43 (by decide) (fun c => ?_) (fun c => ?_)
      · have hf := (if_neg c).symm.trans hf
        refine gw_iconst (v := (0 : Int32)) C d_K_make_50 (by decide) ?_
        refine gw_iload_n C 3 d_K_make_51 rfl rfl ?_
        refine gw_icmp_ne (tgt := 59) C d_K_make_52 (by decide) (fun c => ?_) (fun c => ?_)
        · have hf := (if_neg c).symm.trans hf
          refine gw_iconst (v := (0 : Int32)) C d_K_make_59 (by decide) ?_
          exact gw_sub [0, 1, 2, 3, 4] rfl (g_K_make_60 C ih hf)
        · have hf := (if_pos c).symm.trans hf
          refine gw_iconst (v := (1 : Int32)) C d_K_make_55 (by decide) ?_
          refine gw_goto (tgt := 60) C d_K_make_56 (by decide) ?_
          exact gw_sub [0, 1, 2, 3, 4] rfl (g_K_make_60 C ih hf)
      · have hf := (if_pos c).symm.trans hf
        refine gw_iconst (v := (1 : Int32)) C d_K_make_46 (by decide) ?_
        refine gw_goto (tgt := 51) C d_K_make_47 (by decide) ?_
        refine gw_iload_n C 3 d_K_make_51 rfl rfl ?_
        refine gw_icmp_ne (tgt := 59) C d_K_make_52 (by decide) (fun c => ?_) (fun c => ?_)
        · have hf := (if_neg c).symm.trans hf
          refine gw_iconst (v := (0 : Int32)) C d_K_make_59 (by decide) ?_
          exact gw_sub [0, 1, 2, 3, 4] rfl (g_K_make_60 C ih hf)
        · have hf := (if_pos c).symm.trans hf
          refine gw_iconst (v := (1 : Int32)) C d_K_make_55 (by decide) ?_
          refine gw_goto (tgt := 60) C d_K_make_56 (by decide) ?_
          exact gw_sub [0, 1, 2, 3, 4] rfl (g_K_make_60 C ih hf)
def f_K_make_16 (x1 : Int32) (x2 : Int32) (x3 : Int32) (y0 : Int32) (y1 : Int32) (y2 : Int32) (y3 : Int32) (M : Mem) : Option Mem :=
  om (f_K_tell y3 y2 y1 y0 M) fun M16 => f_K_make_22 100000 x1 x2 x3 (0 : Int32) M16
set_option maxRecDepth 100000 in
theorem g_K_make_16 {M' : Mem} (C : GC p s m args meth c b_K_make 5 (none) "NoneWordsModel" TB D vwCl (tysW cI cZ cC) A Z) {x1 : Int32} {x2 : Int32} {x3 : Int32} {y0 : Int32} {y1 : Int32} {y2 : Int32} {y3 : Int32} {M : Mem} (hf : f_K_make_16 x1 x2 x3 y0 y1 y2 y3 M = some M') : GW p l e rm_K_make s m args below meth c (MQ below (QW D vwCl (tysW cI cZ cC) A none (wk ad cI cZ cC M')) args s 0 0 A) D vwCl A 5 0 0 (wk ad cI cZ cC M) 16 [(0, .ref (ad 0)), (1, .int x1), (2, .int x2), (3, .int x3)] [.int y0, .int y1, .int y2, .int y3, .ref (ad 0)] := by
  unfold f_K_make_16 at hf
  obtain ⟨M16, hc16, hf⟩ := om_some hf
  refine gw_callVv (rest := []) C 0 wkg_0 clg_5 (c_K_tell C.2.2.2.2.2.2.2.2.2.2 hc16) (cwV 4 C.2.2.2.2.1 (gTB_V tw_798 mv_K_tell) rfl rfl rfl pd_K_tell ⟨Nat.le_of_ble_eq_true rfl, Nat.le_of_ble_eq_true rfl⟩) rfl rfl (Nat.le_of_ble_eq_true rfl) d_K_make_16 ⟨Nat.le_of_ble_eq_true rfl, Nat.le_of_ble_eq_true rfl⟩ ?_
  refine gw_iconst (v := (0 : Int32)) C d_K_make_19 (by decide) ?_
  refine gw_istore (lv' := [(4, .int (0 : Int32)), (0, .ref (ad 0)), (1, .int x1), (2, .int x2), (3, .int x3)]) C d_K_make_20 (by decide) rfl ?_
  exact gw_sub [1, 2, 3, 4, 0] rfl (g_K_make_22 C _ _ _ _ _ _ hf)
def f_K_make (x1 : Int32) (x2 : Int32) (x3 : Int32) (M : Mem) : Option Mem :=
  if x3 = 0 then f_K_make_16 x1 x2 x3 (1 : Int32) (-1 : Int32) x1 (M 0 3) M else f_K_make_16 x1 x2 x3 (0 : Int32) (-1 : Int32) x1 (M 0 3) M
set_option maxRecDepth 100000 in
theorem g_K_make {M' : Mem} (C : GC p s m args meth c b_K_make 5 (none) "NoneWordsModel" TB D vwCl (tysW cI cZ cC) A Z) {x1 : Int32} {x2 : Int32} {x3 : Int32} {M : Mem} (hf : f_K_make x1 x2 x3 M = some M') : GW p l e rm_K_make s m args below meth c (MQ below (QW D vwCl (tysW cI cZ cC) A none (wk ad cI cZ cC M')) args s 0 0 A) D vwCl A 5 0 0 (wk ad cI cZ cC M) 0 [(0, .ref (ad 0)), (1, .int x1), (2, .int x2), (3, .int x3)] [] := by
  unfold f_K_make at hf
  refine gw_aload_n C 0 d_K_make_0 rfl rfl ?_
  refine gw_aload_n C 0 d_K_make_1 rfl rfl ?_
  refine gw_get C in_K 0 wkg_0 clg_5 3 (by decide) tw_689 rfl rfl d_K_make_2 ?_
  refine gw_iload_n C 1 d_K_make_5 rfl rfl ?_
  refine gw_iconst (v := (-1 : Int32)) C d_K_make_6 (by decide) ?_
  refine gw_iload_n C 3 d_K_make_7 rfl rfl ?_
  refine gw_if_ne (tgt := 15) C d_K_make_8 (by decide) (fun c => ?_) (fun c => ?_)
  · have hf := (if_neg c).symm.trans hf
    refine gw_iconst (v := (0 : Int32)) C d_K_make_15 (by decide) ?_
    exact gw_sub [0, 1, 2, 3] rfl (g_K_make_16 C hf)
  · have hf := (if_pos c).symm.trans hf
    refine gw_iconst (v := (1 : Int32)) C d_K_make_11 (by decide) ?_
    refine gw_goto (tgt := 16) C d_K_make_12 (by decide) ?_
    exact gw_sub [0, 1, 2, 3] rfl (g_K_make_16 C hf)
theorem c_K_make (hZ : gw_ZOK Z) {x1 : Int32} {x2 : Int32} {x3 : Int32} {M : Mem} {M' : Mem} (hf : f_K_make x1 x2 x3 M = some M') : CW l y_K_make ws_K_make rm_K_make D vwCl (tysW cI cZ cC) Z [.ref (ad 0), .int x1, .int x2, .int x3] (wk ad cI cZ cC M) none (wk ad cI cZ cC M') 0 0 :=
  CW.ofG hZ (by decide) rfl (Nat.le_of_ble_eq_true rfl) (fun _ _ _ _ _ _ _ _ C _ => g_K_make C hf)
abbrev b_K_there : ByteArray := prog_7_method_11_code
def y_K_there : MethodName := ⟨"NoneWordsModel", "there", "(II)I"⟩
abbrev ws_K_there : List Cond := Cond.code y_K_there b_K_there 3 (some (FieldType.int)) :: TB
set_option maxRecDepth 100000 in
theorem tc_K_there : Cond.code y_K_there b_K_there 3 (some (FieldType.int)) ∈ TB := inTB 793 rfl rfl
theorem mv_K_there : Cond.instanceMethod y_K_there ∈ TB ∧ Cond.selects "NoneWordsModel" y_K_there y_K_there ∈ TB ∧ Cond.initialized "NoneWordsModel" ∈ TB ∧ Cond.code y_K_there b_K_there 3 (some (FieldType.int)) ∈ TB := ⟨inTB 792 (by decide +kernel) (by decide +kernel), inTB 28 (by decide +kernel) (by decide +kernel), inTB 71 (by decide +kernel) (by decide +kernel), tc_K_there⟩
theorem pd_K_there : y_K_there.cls = "NoneWordsModel" ∧ y_K_there.cls ≠ "java/lang/invoke/MethodHandle" ∧ y_K_there.cls ≠ "java/lang/invoke/VarHandle" ∧ (parseMethodDescriptor y_K_there.desc).map (fun d => d.parameters.length) = some 2 := by decide +kernel
theorem d_K_there_0 : decode b_K_there 0 = .ok (.iload_n 2, 1) := by decide +kernel
theorem d_K_there_1 : decode b_K_there 1 = .ok (.iconst 1, 1) := by decide +kernel
theorem d_K_there_2 : decode b_K_there 2 = .ok (.aload_n 0, 1) := by decide +kernel
theorem d_K_there_3 : decode b_K_there 3 = .ok (.getfield 7, 3) := by decide +kernel
theorem d_K_there_6 : decode b_K_there 6 = .ok (.iload_n 1, 1) := by decide +kernel
theorem d_K_there_7 : decode b_K_there 7 = .ok (.iaload, 1) := by decide +kernel
theorem d_K_there_8 : decode b_K_there 8 = .ok (.ishl, 1) := by decide +kernel
theorem d_K_there_9 : decode b_K_there 9 = .ok (.iconst 1, 1) := by decide +kernel
theorem d_K_there_10 : decode b_K_there 10 = .ok (.isub, 1) := by decide +kernel
theorem d_K_there_11 : decode b_K_there 11 = .ok (.iand, 1) := by decide +kernel
theorem d_K_there_12 : decode b_K_there 12 = .ok (.ireturn, 1) := by decide +kernel
abbrev rm_K_there : Room := { frames := 0, cells := 0, slots := 0, locals := 0 }
def f_K_there (x1 : Int32) (x2 : Int32) (M : Mem) : Option (Int32 × Mem) :=
  gd (inb x1 5) (some (x2 &&& (((1 : Int32) <<< ((M 1 x1.toNatClampNeg) &&& 31)) - (1 : Int32)), M))
set_option maxRecDepth 100000 in
theorem g_K_there {r : Int32} {M' : Mem} (C : GC p s m args meth c b_K_there 3 (some (FieldType.int)) "NoneWordsModel" TB D vwCl (tysW cI cZ cC) A Z) {x1 : Int32} {x2 : Int32} {M : Mem} (hf : f_K_there x1 x2 M = some (r, M')) : GW p l e rm_K_there s m args below meth c (MQ below (QW D vwCl (tysW cI cZ cC) A (some (.int r)) (wk ad cI cZ cC M')) args s 0 0 A) D vwCl A 3 0 0 (wk ad cI cZ cC M) 0 [(0, .ref (ad 0)), (1, .int x1), (2, .int x2)] [] := by
  unfold f_K_there at hf
  refine gw_iload_n C 2 d_K_there_0 rfl rfl ?_
  refine gw_iconst (v := (1 : Int32)) C d_K_there_1 (by decide) ?_
  refine gw_aload_n C 0 d_K_there_2 rfl rfl ?_
  refine gw_get C in_K 0 wkg_0 clg_5 1 (by decide) tw_687 rfl rfl d_K_there_3 ?_
  refine gw_iload_n C 1 d_K_there_6 rfl rfl ?_
  obtain ⟨hb7, hf⟩ := gd_some hf
  refine gw_iald C 1 0 wkg_1 rfl hb7 d_K_there_7 ?_
  refine gw_ishl C d_K_there_8 ?_
  refine gw_iconst (v := (1 : Int32)) C d_K_there_9 (by decide) ?_
  refine gw_isub C d_K_there_10 ?_
  refine gw_iand C d_K_there_11 ?_
  exact gw_ireti C d_K_there_12 (wk ad cI cZ cC) hf
theorem c_K_there (hZ : gw_ZOK Z) {x1 : Int32} {x2 : Int32} {M : Mem} {r : Int32} {M' : Mem} (hf : f_K_there x1 x2 M = some (r, M')) : CW l y_K_there ws_K_there rm_K_there D vwCl (tysW cI cZ cC) Z [.ref (ad 0), .int x1, .int x2] (wk ad cI cZ cC M) (some (.int r)) (wk ad cI cZ cC M') 0 0 :=
  CW.ofG hZ (by decide) rfl (Nat.le_of_ble_eq_true rfl) (fun _ _ _ _ _ _ _ _ C _ => g_K_there C hf)
abbrev b_K_clear : ByteArray := prog_7_method_12_code
def y_K_clear : MethodName := ⟨"NoneWordsModel", "clear", "()V"⟩
abbrev ws_K_clear : List Cond := Cond.code y_K_clear b_K_clear 2 (none) :: TB
set_option maxRecDepth 100000 in
theorem tc_K_clear : Cond.code y_K_clear b_K_clear 2 (none) ∈ TB := inTB 786 rfl rfl
theorem mv_K_clear : Cond.instanceMethod y_K_clear ∈ TB ∧ Cond.selects "NoneWordsModel" y_K_clear y_K_clear ∈ TB ∧ Cond.initialized "NoneWordsModel" ∈ TB ∧ Cond.code y_K_clear b_K_clear 2 (none) ∈ TB := ⟨inTB 785 (by decide +kernel) (by decide +kernel), inTB 27 (by decide +kernel) (by decide +kernel), inTB 71 (by decide +kernel) (by decide +kernel), tc_K_clear⟩
theorem pd_K_clear : y_K_clear.cls = "NoneWordsModel" ∧ y_K_clear.cls ≠ "java/lang/invoke/MethodHandle" ∧ y_K_clear.cls ≠ "java/lang/invoke/VarHandle" ∧ (parseMethodDescriptor y_K_clear.desc).map (fun d => d.parameters.length) = some 0 := by decide +kernel
theorem d_K_clear_0 : decode b_K_clear 0 = .ok (.iconst 0, 1) := by decide +kernel
theorem d_K_clear_1 : decode b_K_clear 1 = .ok (.istore_n 1, 1) := by decide +kernel
theorem d_K_clear_2 : decode b_K_clear 2 = .ok (.iload_n 1, 1) := by decide +kernel
theorem d_K_clear_3 : decode b_K_clear 3 = .ok (.iconst 5, 1) := by decide +kernel
theorem d_K_clear_4 : decode b_K_clear 4 = .ok (.if_icmp .ge 23, 3) := by decide +kernel
theorem d_K_clear_7 : decode b_K_clear 7 = .ok (.aload_n 0, 1) := by decide +kernel
theorem d_K_clear_8 : decode b_K_clear 8 = .ok (.getfield 28, 3) := by decide +kernel
theorem d_K_clear_11 : decode b_K_clear 11 = .ok (.aload_n 0, 1) := by decide +kernel
theorem d_K_clear_12 : decode b_K_clear 12 = .ok (.getfield 79, 3) := by decide +kernel
theorem d_K_clear_15 : decode b_K_clear 15 = .ok (.iload_n 1, 1) := by decide +kernel
theorem d_K_clear_16 : decode b_K_clear 16 = .ok (.invokestatic 82, 3) := by decide +kernel
theorem d_K_clear_19 : decode b_K_clear 19 = .ok (.iconst 0, 1) := by decide +kernel
theorem d_K_clear_20 : decode b_K_clear 20 = .ok (.bastore, 1) := by decide +kernel
theorem d_K_clear_21 : decode b_K_clear 21 = .ok (.iinc 1 1, 3) := by decide +kernel
theorem d_K_clear_24 : decode b_K_clear 24 = .ok (.goto (-22), 3) := by decide +kernel
theorem d_K_clear_27 : decode b_K_clear 27 = .ok (.return_, 1) := by decide +kernel
abbrev rm_K_clear : Room := { frames := 1, cells := 0, slots := 0, locals := 21 }
def f_K_clear_2 : Nat → Int32 → Mem → Option Mem
  | 0, _, _ => none
  | n + 1, x1, M => if (5 : Int32) ≤ x1 then some M else ob (f_K_place (M 0 3) x1 M) fun r16 M16 => gd (inb r16 600) ((f_K_clear_2 n) (x1 + (1 : Int32)) (ms M16 7 r16.toNatClampNeg (vp_nar .boolean (0 : Int32))))
set_option maxRecDepth 100000 in
theorem g_K_clear_2 {M' : Mem} (C : GC p s m args meth c b_K_clear 2 (none) "NoneWordsModel" TB D vwCl (tysW cI cZ cC) A Z) : ∀ (n : Nat) (x1 : Int32) (M : Mem), f_K_clear_2 n x1 M = some M' → GW p l e rm_K_clear s m args below meth c (MQ below (QW D vwCl (tysW cI cZ cC) A none (wk ad cI cZ cC M')) args s 0 0 A) D vwCl A 2 0 0 (wk ad cI cZ cC M) 2 [(0, .ref (ad 0)), (1, .int x1)] [] := by
  intro n
  induction n with
  | zero => intro _ _ hf; cases hf
  | succ n ih =>
    intro x1 M hf
    rw [f_K_clear_2] at hf
    refine gw_iload_n C 1 d_K_clear_2 rfl rfl ?_
    refine gw_iconst (v := (5 : Int32)) C d_K_clear_3 (by decide) ?_
    refine gw_icmp_ge (tgt := 27) C d_K_clear_4 (by decide) (fun c => ?_) (fun c => ?_)
    · have hf := (if_pos c).symm.trans hf
      exact gw_vreti C d_K_clear_27 (wk ad cI cZ cC) hf
    · have hf := (if_neg c).symm.trans hf
      refine gw_aload_n C 0 d_K_clear_7 rfl rfl ?_
      refine gw_get C in_K 0 wkg_0 clg_5 9 (by decide) tw_695 rfl rfl d_K_clear_8 ?_
      refine gw_aload_n C 0 d_K_clear_11 rfl rfl ?_
      refine gw_get C in_K 0 wkg_0 clg_5 3 (by decide) tw_689 rfl rfl d_K_clear_12 ?_
      refine gw_iload_n C 1 d_K_clear_15 rfl rfl ?_
      obtain ⟨r16, M16, hc16, hf⟩ := ob_some hf
      refine gw_callSr (rest := [.ref (ad 7)]) C (c_K_place C.2.2.2.2.2.2.2.2.2.2 hc16) (cwS 2 C.2.2.2.2.1 (gTB_S tw_787 mv_K_place) rfl rfl rfl pd_K_place ⟨Nat.le_of_ble_eq_true rfl, Nat.le_of_ble_eq_true rfl⟩) rfl rfl (Nat.le_of_ble_eq_true rfl) d_K_clear_16 ⟨Nat.le_of_ble_eq_true rfl, Nat.le_of_ble_eq_true rfl⟩ ?_
      refine gw_iconst (v := (0 : Int32)) C d_K_clear_19 (by decide) ?_
      obtain ⟨hb20, hf⟩ := gd_some hf
      refine gw_zast C 7 1 wkg_7 rfl hb20 d_K_clear_20 wka_7 ?_
      refine gw_iinc (v := x1 + (1 : Int32)) (lv' := [(1, .int (x1 + (1 : Int32))), (0, .ref (ad 0))]) C 1 d_K_clear_21 rfl rfl (by decide) rfl ?_
      refine gw_goto (tgt := 2) C d_K_clear_24 (by decide) ?_
      exact gw_sub [1, 0] rfl (ih _ _ hf)
def f_K_clear (M : Mem) : Option Mem :=
  f_K_clear_2 100000 (0 : Int32) M
set_option maxRecDepth 100000 in
theorem g_K_clear {M' : Mem} (C : GC p s m args meth c b_K_clear 2 (none) "NoneWordsModel" TB D vwCl (tysW cI cZ cC) A Z) {M : Mem} (hf : f_K_clear M = some M') : GW p l e rm_K_clear s m args below meth c (MQ below (QW D vwCl (tysW cI cZ cC) A none (wk ad cI cZ cC M')) args s 0 0 A) D vwCl A 2 0 0 (wk ad cI cZ cC M) 0 [(0, .ref (ad 0))] [] := by
  unfold f_K_clear at hf
  refine gw_iconst (v := (0 : Int32)) C d_K_clear_0 (by decide) ?_
  refine gw_istore_n (lv' := [(1, .int (0 : Int32)), (0, .ref (ad 0))]) C d_K_clear_1 rfl (by decide) rfl ?_
  exact gw_sub [1, 0] rfl (g_K_clear_2 C _ _ _ hf)
theorem c_K_clear (hZ : gw_ZOK Z) {M : Mem} {M' : Mem} (hf : f_K_clear M = some M') : CW l y_K_clear ws_K_clear rm_K_clear D vwCl (tysW cI cZ cC) Z [.ref (ad 0)] (wk ad cI cZ cC M) none (wk ad cI cZ cC M') 0 0 :=
  CW.ofG hZ (by decide) rfl (Nat.le_of_ble_eq_true rfl) (fun _ _ _ _ _ _ _ _ C _ => g_K_clear C hf)
abbrev b_K_leaf : ByteArray := prog_7_method_13_code
def y_K_leaf : MethodName := ⟨"NoneWordsModel", "leaf", "(IIIII)I"⟩
abbrev ws_K_leaf : List Cond := Cond.code y_K_leaf b_K_leaf 7 (some (FieldType.int)) :: TB
set_option maxRecDepth 100000 in
theorem tc_K_leaf : Cond.code y_K_leaf b_K_leaf 7 (some (FieldType.int)) ∈ TB := inTB 778 rfl rfl
theorem mv_K_leaf : Cond.instanceMethod y_K_leaf ∈ TB ∧ Cond.selects "NoneWordsModel" y_K_leaf y_K_leaf ∈ TB ∧ Cond.initialized "NoneWordsModel" ∈ TB ∧ Cond.code y_K_leaf b_K_leaf 7 (some (FieldType.int)) ∈ TB := ⟨inTB 776 (by decide +kernel) (by decide +kernel), inTB 777 (by decide +kernel) (by decide +kernel), inTB 71 (by decide +kernel) (by decide +kernel), tc_K_leaf⟩
theorem pd_K_leaf : y_K_leaf.cls = "NoneWordsModel" ∧ y_K_leaf.cls ≠ "java/lang/invoke/MethodHandle" ∧ y_K_leaf.cls ≠ "java/lang/invoke/VarHandle" ∧ (parseMethodDescriptor y_K_leaf.desc).map (fun d => d.parameters.length) = some 5 := by decide +kernel
theorem d_K_leaf_0 : decode b_K_leaf 0 = .ok (.aload_n 0, 1) := by decide +kernel
theorem d_K_leaf_1 : decode b_K_leaf 1 = .ok (.iconst 0, 1) := by decide +kernel
theorem d_K_leaf_2 : decode b_K_leaf 2 = .ok (.putfield 72, 3) := by decide +kernel
theorem d_K_leaf_5 : decode b_K_leaf 5 = .ok (.iload_n 1, 1) := by decide +kernel
theorem d_K_leaf_6 : decode b_K_leaf 6 = .ok (.iconst 1, 1) := by decide +kernel
theorem d_K_leaf_7 : decode b_K_leaf 7 = .ok (.if_icmp .eq 8, 3) := by decide +kernel
theorem d_K_leaf_10 : decode b_K_leaf 10 = .ok (.iload_n 1, 1) := by decide +kernel
theorem d_K_leaf_11 : decode b_K_leaf 11 = .ok (.iconst 3, 1) := by decide +kernel
theorem d_K_leaf_12 : decode b_K_leaf 12 = .ok (.if_icmp .ne 7, 3) := by decide +kernel
theorem d_K_leaf_15 : decode b_K_leaf 15 = .ok (.iconst 1, 1) := by decide +kernel
theorem d_K_leaf_16 : decode b_K_leaf 16 = .ok (.goto 4, 3) := by decide +kernel
theorem d_K_leaf_19 : decode b_K_leaf 19 = .ok (.iconst 0, 1) := by decide +kernel
theorem d_K_leaf_20 : decode b_K_leaf 20 = .ok (.istore 6, 2) := by decide +kernel
theorem d_K_leaf_22 : decode b_K_leaf 22 = .ok (.iload_n 1, 1) := by decide +kernel
theorem d_K_leaf_23 : decode b_K_leaf 23 = .ok (.ifCond .lt 45, 3) := by decide +kernel
theorem d_K_leaf_26 : decode b_K_leaf 26 = .ok (.iload_n 1, 1) := by decide +kernel
theorem d_K_leaf_27 : decode b_K_leaf 27 = .ok (.iconst 3, 1) := by decide +kernel
theorem d_K_leaf_28 : decode b_K_leaf 28 = .ok (.if_icmp .gt 40, 3) := by decide +kernel
theorem d_K_leaf_31 : decode b_K_leaf 31 = .ok (.aload_n 0, 1) := by decide +kernel
theorem d_K_leaf_32 : decode b_K_leaf 32 = .ok (.iload_n 2, 1) := by decide +kernel
theorem d_K_leaf_33 : decode b_K_leaf 33 = .ok (.invokevirtual 98, 3) := by decide +kernel
theorem d_K_leaf_36 : decode b_K_leaf 36 = .ok (.ifCond .eq 32, 3) := by decide +kernel
theorem d_K_leaf_39 : decode b_K_leaf 39 = .ok (.iload 6, 2) := by decide +kernel
theorem d_K_leaf_41 : decode b_K_leaf 41 = .ok (.ifCond .eq 18, 3) := by decide +kernel
theorem d_K_leaf_44 : decode b_K_leaf 44 = .ok (.aload_n 0, 1) := by decide +kernel
theorem d_K_leaf_45 : decode b_K_leaf 45 = .ok (.iload 4, 2) := by decide +kernel
theorem d_K_leaf_47 : decode b_K_leaf 47 = .ok (.invokevirtual 98, 3) := by decide +kernel
theorem d_K_leaf_50 : decode b_K_leaf 50 = .ok (.ifCond .eq 18, 3) := by decide +kernel
theorem d_K_leaf_53 : decode b_K_leaf 53 = .ok (.iload 4, 2) := by decide +kernel
theorem d_K_leaf_55 : decode b_K_leaf 55 = .ok (.iload_n 2, 1) := by decide +kernel
theorem d_K_leaf_56 : decode b_K_leaf 56 = .ok (.if_icmp .eq 12, 3) := by decide +kernel
theorem d_K_leaf_59 : decode b_K_leaf 59 = .ok (.aload_n 0, 1) := by decide +kernel
theorem d_K_leaf_60 : decode b_K_leaf 60 = .ok (.getfield 79, 3) := by decide +kernel
theorem d_K_leaf_63 : decode b_K_leaf 63 = .ok (.bipush 120, 2) := by decide +kernel
theorem d_K_leaf_65 : decode b_K_leaf 65 = .ok (.if_icmp .ne 5, 3) := by decide +kernel
theorem d_K_leaf_68 : decode b_K_leaf 68 = .ok (.iconst (-1), 1) := by decide +kernel
theorem d_K_leaf_69 : decode b_K_leaf 69 = .ok (.ireturn, 1) := by decide +kernel
theorem d_K_leaf_70 : decode b_K_leaf 70 = .ok (.aload_n 0, 1) := by decide +kernel
theorem d_K_leaf_71 : decode b_K_leaf 71 = .ok (.invokevirtual 102, 3) := by decide +kernel
theorem d_K_leaf_74 : decode b_K_leaf 74 = .ok (.aload_n 0, 1) := by decide +kernel
theorem d_K_leaf_75 : decode b_K_leaf 75 = .ok (.getfield 13, 3) := by decide +kernel
theorem d_K_leaf_78 : decode b_K_leaf 78 = .ok (.aload_n 0, 1) := by decide +kernel
theorem d_K_leaf_79 : decode b_K_leaf 79 = .ok (.getfield 79, 3) := by decide +kernel
theorem d_K_leaf_82 : decode b_K_leaf 82 = .ok (.iload_n 1, 1) := by decide +kernel
theorem d_K_leaf_83 : decode b_K_leaf 83 = .ok (.iastore, 1) := by decide +kernel
theorem d_K_leaf_84 : decode b_K_leaf 84 = .ok (.aload_n 0, 1) := by decide +kernel
theorem d_K_leaf_85 : decode b_K_leaf 85 = .ok (.getfield 16, 3) := by decide +kernel
theorem d_K_leaf_88 : decode b_K_leaf 88 = .ok (.aload_n 0, 1) := by decide +kernel
theorem d_K_leaf_89 : decode b_K_leaf 89 = .ok (.getfield 79, 3) := by decide +kernel
theorem d_K_leaf_92 : decode b_K_leaf 92 = .ok (.iload_n 2, 1) := by decide +kernel
theorem d_K_leaf_93 : decode b_K_leaf 93 = .ok (.iastore, 1) := by decide +kernel
theorem d_K_leaf_94 : decode b_K_leaf 94 = .ok (.aload_n 0, 1) := by decide +kernel
theorem d_K_leaf_95 : decode b_K_leaf 95 = .ok (.getfield 19, 3) := by decide +kernel
theorem d_K_leaf_98 : decode b_K_leaf 98 = .ok (.aload_n 0, 1) := by decide +kernel
theorem d_K_leaf_99 : decode b_K_leaf 99 = .ok (.getfield 79, 3) := by decide +kernel
theorem d_K_leaf_102 : decode b_K_leaf 102 = .ok (.aload_n 0, 1) := by decide +kernel
theorem d_K_leaf_103 : decode b_K_leaf 103 = .ok (.iload_n 2, 1) := by decide +kernel
theorem d_K_leaf_104 : decode b_K_leaf 104 = .ok (.iload_n 3, 1) := by decide +kernel
theorem d_K_leaf_105 : decode b_K_leaf 105 = .ok (.invokevirtual 105, 3) := by decide +kernel
theorem d_K_leaf_108 : decode b_K_leaf 108 = .ok (.iastore, 1) := by decide +kernel
theorem d_K_leaf_109 : decode b_K_leaf 109 = .ok (.aload_n 0, 1) := by decide +kernel
theorem d_K_leaf_110 : decode b_K_leaf 110 = .ok (.iload_n 2, 1) := by decide +kernel
theorem d_K_leaf_111 : decode b_K_leaf 111 = .ok (.iload_n 3, 1) := by decide +kernel
theorem d_K_leaf_112 : decode b_K_leaf 112 = .ok (.iload_n 1, 1) := by decide +kernel
theorem d_K_leaf_113 : decode b_K_leaf 113 = .ok (.ifCond .eq 7, 3) := by decide +kernel
theorem d_K_leaf_116 : decode b_K_leaf 116 = .ok (.iconst 1, 1) := by decide +kernel
theorem d_K_leaf_117 : decode b_K_leaf 117 = .ok (.goto 4, 3) := by decide +kernel
theorem d_K_leaf_120 : decode b_K_leaf 120 = .ok (.iconst 0, 1) := by decide +kernel
theorem d_K_leaf_121 : decode b_K_leaf 121 = .ok (.invokevirtual 108, 3) := by decide +kernel
theorem d_K_leaf_124 : decode b_K_leaf 124 = .ok (.iload 6, 2) := by decide +kernel
theorem d_K_leaf_126 : decode b_K_leaf 126 = .ok (.ifCond .eq 49, 3) := by decide +kernel
theorem d_K_leaf_129 : decode b_K_leaf 129 = .ok (.aload_n 0, 1) := by decide +kernel
theorem d_K_leaf_130 : decode b_K_leaf 130 = .ok (.getfield 22, 3) := by decide +kernel
theorem d_K_leaf_133 : decode b_K_leaf 133 = .ok (.aload_n 0, 1) := by decide +kernel
theorem d_K_leaf_134 : decode b_K_leaf 134 = .ok (.getfield 79, 3) := by decide +kernel
theorem d_K_leaf_137 : decode b_K_leaf 137 = .ok (.iload 4, 2) := by decide +kernel
theorem d_K_leaf_139 : decode b_K_leaf 139 = .ok (.iastore, 1) := by decide +kernel
theorem d_K_leaf_140 : decode b_K_leaf 140 = .ok (.aload_n 0, 1) := by decide +kernel
theorem d_K_leaf_141 : decode b_K_leaf 141 = .ok (.getfield 25, 3) := by decide +kernel
theorem d_K_leaf_144 : decode b_K_leaf 144 = .ok (.aload_n 0, 1) := by decide +kernel
theorem d_K_leaf_145 : decode b_K_leaf 145 = .ok (.getfield 79, 3) := by decide +kernel
theorem d_K_leaf_148 : decode b_K_leaf 148 = .ok (.aload_n 0, 1) := by decide +kernel
theorem d_K_leaf_149 : decode b_K_leaf 149 = .ok (.iload 4, 2) := by decide +kernel
theorem d_K_leaf_151 : decode b_K_leaf 151 = .ok (.iload 5, 2) := by decide +kernel
theorem d_K_leaf_153 : decode b_K_leaf 153 = .ok (.invokevirtual 105, 3) := by decide +kernel
theorem d_K_leaf_156 : decode b_K_leaf 156 = .ok (.iastore, 1) := by decide +kernel
theorem d_K_leaf_157 : decode b_K_leaf 157 = .ok (.aload_n 0, 1) := by decide +kernel
theorem d_K_leaf_158 : decode b_K_leaf 158 = .ok (.iload 4, 2) := by decide +kernel
theorem d_K_leaf_160 : decode b_K_leaf 160 = .ok (.iload 5, 2) := by decide +kernel
theorem d_K_leaf_162 : decode b_K_leaf 162 = .ok (.iload_n 1, 1) := by decide +kernel
theorem d_K_leaf_163 : decode b_K_leaf 163 = .ok (.iconst 3, 1) := by decide +kernel
theorem d_K_leaf_164 : decode b_K_leaf 164 = .ok (.if_icmp .ne 7, 3) := by decide +kernel
theorem d_K_leaf_167 : decode b_K_leaf 167 = .ok (.iconst 1, 1) := by decide +kernel
theorem d_K_leaf_168 : decode b_K_leaf 168 = .ok (.goto 4, 3) := by decide +kernel
theorem d_K_leaf_171 : decode b_K_leaf 171 = .ok (.iconst 0, 1) := by decide +kernel
theorem d_K_leaf_172 : decode b_K_leaf 172 = .ok (.invokevirtual 108, 3) := by decide +kernel
theorem d_K_leaf_175 : decode b_K_leaf 175 = .ok (.aload_n 0, 1) := by decide +kernel
theorem d_K_leaf_176 : decode b_K_leaf 176 = .ok (.dup, 1) := by decide +kernel
theorem d_K_leaf_177 : decode b_K_leaf 177 = .ok (.getfield 79, 3) := by decide +kernel
theorem d_K_leaf_180 : decode b_K_leaf 180 = .ok (.iconst 1, 1) := by decide +kernel
theorem d_K_leaf_181 : decode b_K_leaf 181 = .ok (.iadd, 1) := by decide +kernel
theorem d_K_leaf_182 : decode b_K_leaf 182 = .ok (.putfield 79, 3) := by decide +kernel
theorem d_K_leaf_185 : decode b_K_leaf 185 = .ok (.aload_n 0, 1) := by decide +kernel
theorem d_K_leaf_186 : decode b_K_leaf 186 = .ok (.getfield 79, 3) := by decide +kernel
theorem d_K_leaf_189 : decode b_K_leaf 189 = .ok (.iconst 1, 1) := by decide +kernel
theorem d_K_leaf_190 : decode b_K_leaf 190 = .ok (.isub, 1) := by decide +kernel
theorem d_K_leaf_191 : decode b_K_leaf 191 = .ok (.ireturn, 1) := by decide +kernel
abbrev rm_K_leaf : Room := { frames := 4, cells := 0, slots := 0, locals := 92 }
def f_K_leaf_175 (M : Mem) : Option (Int32 × Mem) :=
  some (((ms M 0 3 ((M 0 3) + (1 : Int32))) 0 3) - (1 : Int32), ms M 0 3 ((M 0 3) + (1 : Int32)))
set_option maxRecDepth 100000 in
theorem g_K_leaf_175 {r : Int32} {M' : Mem} (C : GC p s m args meth c b_K_leaf 7 (some (FieldType.int)) "NoneWordsModel" TB D vwCl (tysW cI cZ cC) A Z) {M : Mem} (hf : f_K_leaf_175 M = some (r, M')) : GW p l e rm_K_leaf s m args below meth c (MQ below (QW D vwCl (tysW cI cZ cC) A (some (.int r)) (wk ad cI cZ cC M')) args s 0 0 A) D vwCl A 7 0 0 (wk ad cI cZ cC M) 175 [(0, .ref (ad 0))] [] := by
  unfold f_K_leaf_175 at hf
  refine gw_aload_n C 0 d_K_leaf_175 rfl rfl ?_
  refine gw_dup C d_K_leaf_176 rfl ?_
  refine gw_get C in_K 0 wkg_0 clg_5 3 (by decide) tw_689 rfl rfl d_K_leaf_177 ?_
  refine gw_iconst (v := (1 : Int32)) C d_K_leaf_180 (by decide) ?_
  refine gw_iadd C d_K_leaf_181 ?_
  refine gw_put C in_K ty_K tk_K nm_K 0 wkg_0 clg_5 3 (by decide) tw_689 rfl rfl rfl rfl (Nat.le_of_ble_eq_true rfl) d_K_leaf_182 wkf_0_3 ?_
  refine gw_aload_n C 0 d_K_leaf_185 rfl rfl ?_
  refine gw_get C in_K 0 wkg_0 clg_5 3 (by decide) tw_689 rfl rfl d_K_leaf_186 ?_
  refine gw_iconst (v := (1 : Int32)) C d_K_leaf_189 (by decide) ?_
  refine gw_isub C d_K_leaf_190 ?_
  exact gw_ireti C d_K_leaf_191 (wk ad cI cZ cC) hf
def f_K_leaf_172 (y0 : Int32) (y1 : Int32) (y2 : Int32) (M : Mem) : Option (Int32 × Mem) :=
  om (f_K_make y2 y1 y0 M) fun M172 => f_K_leaf_175 M172
set_option maxRecDepth 100000 in
theorem g_K_leaf_172 {r : Int32} {M' : Mem} (C : GC p s m args meth c b_K_leaf 7 (some (FieldType.int)) "NoneWordsModel" TB D vwCl (tysW cI cZ cC) A Z) {y0 : Int32} {y1 : Int32} {y2 : Int32} {M : Mem} (hf : f_K_leaf_172 y0 y1 y2 M = some (r, M')) : GW p l e rm_K_leaf s m args below meth c (MQ below (QW D vwCl (tysW cI cZ cC) A (some (.int r)) (wk ad cI cZ cC M')) args s 0 0 A) D vwCl A 7 0 0 (wk ad cI cZ cC M) 172 [(0, .ref (ad 0))] [.int y0, .int y1, .int y2, .ref (ad 0)] := by
  unfold f_K_leaf_172 at hf
  obtain ⟨M172, hc172, hf⟩ := om_some hf
  refine gw_callVv (rest := []) C 0 wkg_0 clg_5 (c_K_make C.2.2.2.2.2.2.2.2.2.2 hc172) (cwV 3 C.2.2.2.2.1 (gTB_V tw_794 mv_K_make) rfl rfl rfl pd_K_make ⟨Nat.le_of_ble_eq_true rfl, Nat.le_of_ble_eq_true rfl⟩) rfl rfl (Nat.le_of_ble_eq_true rfl) d_K_leaf_172 ⟨Nat.le_of_ble_eq_true rfl, Nat.le_of_ble_eq_true rfl⟩ ?_
  exact gw_sub [0] rfl (g_K_leaf_175 C hf)
def f_K_leaf_121 (x1 : Int32) (x4 : Int32) (x5 : Int32) (x6 : Int32) (y0 : Int32) (y1 : Int32) (y2 : Int32) (M : Mem) : Option (Int32 × Mem) :=
  om (f_K_make y2 y1 y0 M) fun M121 => if x6 = 0 then f_K_leaf_175 M121 else gd (inb (M121 0 3) 120) (ob (f_K_there x4 x5 (ms M121 5 (M121 0 3).toNatClampNeg x4)) fun r153 M153 => gd (inb ((ms M121 5 (M121 0 3).toNatClampNeg x4) 0 3) 120) (if x1 = (3 : Int32) then f_K_leaf_172 (1 : Int32) x5 x4 (ms M153 6 ((ms M121 5 (M121 0 3).toNatClampNeg x4) 0 3).toNatClampNeg r153) else f_K_leaf_172 (0 : Int32) x5 x4 (ms M153 6 ((ms M121 5 (M121 0 3).toNatClampNeg x4) 0 3).toNatClampNeg r153)))
set_option maxRecDepth 100000 in
theorem g_K_leaf_121 {r : Int32} {M' : Mem} (C : GC p s m args meth c b_K_leaf 7 (some (FieldType.int)) "NoneWordsModel" TB D vwCl (tysW cI cZ cC) A Z) {x1 : Int32} {x4 : Int32} {x5 : Int32} {x6 : Int32} {y0 : Int32} {y1 : Int32} {y2 : Int32} {M : Mem} (hf : f_K_leaf_121 x1 x4 x5 x6 y0 y1 y2 M = some (r, M')) : GW p l e rm_K_leaf s m args below meth c (MQ below (QW D vwCl (tysW cI cZ cC) A (some (.int r)) (wk ad cI cZ cC M')) args s 0 0 A) D vwCl A 7 0 0 (wk ad cI cZ cC M) 121 [(0, .ref (ad 0)), (1, .int x1), (4, .int x4), (5, .int x5), (6, .int x6)] [.int y0, .int y1, .int y2, .ref (ad 0)] := by
  unfold f_K_leaf_121 at hf
  obtain ⟨M121, hc121, hf⟩ := om_some hf
  refine gw_callVv (rest := []) C 0 wkg_0 clg_5 (c_K_make C.2.2.2.2.2.2.2.2.2.2 hc121) (cwV 3 C.2.2.2.2.1 (gTB_V tw_794 mv_K_make) rfl rfl rfl pd_K_make ⟨Nat.le_of_ble_eq_true rfl, Nat.le_of_ble_eq_true rfl⟩) rfl rfl (Nat.le_of_ble_eq_true rfl) d_K_leaf_121 ⟨Nat.le_of_ble_eq_true rfl, Nat.le_of_ble_eq_true rfl⟩ ?_
  refine gw_iload C 4 d_K_leaf_124 rfl ?_
  refine gw_if_eq (tgt := 175) C d_K_leaf_126 (by decide) (fun c => ?_) (fun c => ?_)
  · have hf := (if_pos c).symm.trans hf
    exact gw_sub [0] rfl (g_K_leaf_175 C hf)
  · have hf := (if_neg c).symm.trans hf
    refine gw_aload_n C 0 d_K_leaf_129 rfl rfl ?_
    refine gw_get C in_K 0 wkg_0 clg_5 7 (by decide) tw_693 rfl rfl d_K_leaf_130 ?_
    refine gw_aload_n C 0 d_K_leaf_133 rfl rfl ?_
    refine gw_get C in_K 0 wkg_0 clg_5 3 (by decide) tw_689 rfl rfl d_K_leaf_134 ?_
    refine gw_iload C 2 d_K_leaf_137 rfl ?_
    obtain ⟨hb139, hf⟩ := gd_some hf
    refine gw_iast C 5 0 wkg_5 rfl hb139 d_K_leaf_139 wka_5 ?_
    refine gw_aload_n C 0 d_K_leaf_140 rfl rfl ?_
    refine gw_get C in_K 0 wkg_0 clg_5 8 (by decide) tw_694 rfl rfl d_K_leaf_141 ?_
    refine gw_aload_n C 0 d_K_leaf_144 rfl rfl ?_
    refine gw_get C in_K 0 wkg_0 clg_5 3 (by decide) tw_689 rfl rfl d_K_leaf_145 ?_
    refine gw_aload_n C 0 d_K_leaf_148 rfl rfl ?_
    refine gw_iload C 2 d_K_leaf_149 rfl ?_
    refine gw_iload C 3 d_K_leaf_151 rfl ?_
    obtain ⟨r153, M153, hc153, hf⟩ := ob_some hf
    refine gw_callVr (rest := [.int ((ms M121 5 (M121 0 3).toNatClampNeg x4) 0 3), .ref (ad 6)]) C 0 wkg_0 clg_5 (c_K_there C.2.2.2.2.2.2.2.2.2.2 hc153) (cwV 2 C.2.2.2.2.1 (gTB_V tw_790 mv_K_there) rfl rfl rfl pd_K_there ⟨Nat.le_of_ble_eq_true rfl, Nat.le_of_ble_eq_true rfl⟩) rfl rfl (Nat.le_of_ble_eq_true rfl) d_K_leaf_153 ⟨Nat.le_of_ble_eq_true rfl, Nat.le_of_ble_eq_true rfl⟩ ?_
    obtain ⟨hb156, hf⟩ := gd_some hf
    refine gw_iast C 6 0 wkg_6 rfl hb156 d_K_leaf_156 wka_6 ?_
    refine gw_aload_n C 0 d_K_leaf_157 rfl rfl ?_
    refine gw_iload C 2 d_K_leaf_158 rfl ?_
    refine gw_iload C 3 d_K_leaf_160 rfl ?_
    refine gw_iload_n C 1 d_K_leaf_162 rfl rfl ?_
    refine gw_iconst (v := (3 : Int32)) C d_K_leaf_163 (by decide) ?_
    refine gw_icmp_ne (tgt := 171) C d_K_leaf_164 (by decide) (fun c => ?_) (fun c => ?_)
    · have hf := (if_neg c).symm.trans hf
      refine gw_iconst (v := (0 : Int32)) C d_K_leaf_171 (by decide) ?_
      exact gw_sub [0] rfl (g_K_leaf_172 C hf)
    · have hf := (if_pos c).symm.trans hf
      refine gw_iconst (v := (1 : Int32)) C d_K_leaf_167 (by decide) ?_
      refine gw_goto (tgt := 172) C d_K_leaf_168 (by decide) ?_
      exact gw_sub [0] rfl (g_K_leaf_172 C hf)
def f_K_leaf_59 (x1 : Int32) (x2 : Int32) (x3 : Int32) (x4 : Int32) (x5 : Int32) (x6 : Int32) (M : Mem) : Option (Int32 × Mem) :=
  if (M 0 3) = (120 : Int32) then some ((-1 : Int32), M) else om (f_K_clear M) fun M71 => gd (inb (M71 0 3) 120) (gd (inb ((ms M71 2 (M71 0 3).toNatClampNeg x1) 0 3) 120) (ob (f_K_there x2 x3 (ms (ms M71 2 (M71 0 3).toNatClampNeg x1) 3 ((ms M71 2 (M71 0 3).toNatClampNeg x1) 0 3).toNatClampNeg x2)) fun r105 M105 => gd (inb ((ms (ms M71 2 (M71 0 3).toNatClampNeg x1) 3 ((ms M71 2 (M71 0 3).toNatClampNeg x1) 0 3).toNatClampNeg x2) 0 3) 120) (if x1 = 0 then f_K_leaf_121 x1 x4 x5 x6 (0 : Int32) x3 x2 (ms M105 4 ((ms (ms M71 2 (M71 0 3).toNatClampNeg x1) 3 ((ms M71 2 (M71 0 3).toNatClampNeg x1) 0 3).toNatClampNeg x2) 0 3).toNatClampNeg r105) else f_K_leaf_121 x1 x4 x5 x6 (1 : Int32) x3 x2 (ms M105 4 ((ms (ms M71 2 (M71 0 3).toNatClampNeg x1) 3 ((ms M71 2 (M71 0 3).toNatClampNeg x1) 0 3).toNatClampNeg x2) 0 3).toNatClampNeg r105))))
set_option maxRecDepth 100000 in
theorem g_K_leaf_59 {r : Int32} {M' : Mem} (C : GC p s m args meth c b_K_leaf 7 (some (FieldType.int)) "NoneWordsModel" TB D vwCl (tysW cI cZ cC) A Z) {x1 : Int32} {x2 : Int32} {x3 : Int32} {x4 : Int32} {x5 : Int32} {x6 : Int32} {M : Mem} (hf : f_K_leaf_59 x1 x2 x3 x4 x5 x6 M = some (r, M')) : GW p l e rm_K_leaf s m args below meth c (MQ below (QW D vwCl (tysW cI cZ cC) A (some (.int r)) (wk ad cI cZ cC M')) args s 0 0 A) D vwCl A 7 0 0 (wk ad cI cZ cC M) 59 [(0, .ref (ad 0)), (1, .int x1), (2, .int x2), (3, .int x3), (4, .int x4), (5, .int x5), (6, .int x6)] [] := by
  unfold f_K_leaf_59 at hf
  refine gw_aload_n C 0 d_K_leaf_59 rfl rfl ?_
  refine gw_get C in_K 0 wkg_0 clg_5 3 (by decide) tw_689 rfl rfl d_K_leaf_60 ?_
  refine gw_bipush (v := (120 : Int32)) C d_K_leaf_63 (by decide) ?_
  refine gw_icmp_ne (tgt := 70) C d_K_leaf_65 (by decide) (fun c => ?_) (fun c => ?_)
  · have hf := (if_neg c).symm.trans hf
    refine gw_aload_n C 0 d_K_leaf_70 rfl rfl ?_
    obtain ⟨M71, hc71, hf⟩ := om_some hf
    refine gw_callVv (rest := []) C 0 wkg_0 clg_5 (c_K_clear C.2.2.2.2.2.2.2.2.2.2 hc71) (cwV 0 C.2.2.2.2.1 (gTB_V tw_783 mv_K_clear) rfl rfl rfl pd_K_clear ⟨Nat.le_of_ble_eq_true rfl, Nat.le_of_ble_eq_true rfl⟩) rfl rfl (Nat.le_of_ble_eq_true rfl) d_K_leaf_71 ⟨Nat.le_of_ble_eq_true rfl, Nat.le_of_ble_eq_true rfl⟩ ?_
    refine gw_aload_n C 0 d_K_leaf_74 rfl rfl ?_
    refine gw_get C in_K 0 wkg_0 clg_5 4 (by decide) tw_690 rfl rfl d_K_leaf_75 ?_
    refine gw_aload_n C 0 d_K_leaf_78 rfl rfl ?_
    refine gw_get C in_K 0 wkg_0 clg_5 3 (by decide) tw_689 rfl rfl d_K_leaf_79 ?_
    refine gw_iload_n C 1 d_K_leaf_82 rfl rfl ?_
    obtain ⟨hb83, hf⟩ := gd_some hf
    refine gw_iast C 2 0 wkg_2 rfl hb83 d_K_leaf_83 wka_2 ?_
    refine gw_aload_n C 0 d_K_leaf_84 rfl rfl ?_
    refine gw_get C in_K 0 wkg_0 clg_5 5 (by decide) tw_691 rfl rfl d_K_leaf_85 ?_
    refine gw_aload_n C 0 d_K_leaf_88 rfl rfl ?_
    refine gw_get C in_K 0 wkg_0 clg_5 3 (by decide) tw_689 rfl rfl d_K_leaf_89 ?_
    refine gw_iload_n C 2 d_K_leaf_92 rfl rfl ?_
    obtain ⟨hb93, hf⟩ := gd_some hf
    refine gw_iast C 3 0 wkg_3 rfl hb93 d_K_leaf_93 wka_3 ?_
    refine gw_aload_n C 0 d_K_leaf_94 rfl rfl ?_
    refine gw_get C in_K 0 wkg_0 clg_5 6 (by decide) tw_692 rfl rfl d_K_leaf_95 ?_
    refine gw_aload_n C 0 d_K_leaf_98 rfl rfl ?_
    refine gw_get C in_K 0 wkg_0 clg_5 3 (by decide) tw_689 rfl rfl d_K_leaf_99 ?_
    refine gw_aload_n C 0 d_K_leaf_102 rfl rfl ?_
    refine gw_iload_n C 2 d_K_leaf_103 rfl rfl ?_
    refine gw_iload_n C 3 d_K_leaf_104 rfl rfl ?_
    obtain ⟨r105, M105, hc105, hf⟩ := ob_some hf
    refine gw_callVr (rest := [.int ((ms (ms M71 2 (M71 0 3).toNatClampNeg x1) 3 ((ms M71 2 (M71 0 3).toNatClampNeg x1) 0 3).toNatClampNeg x2) 0 3), .ref (ad 4)]) C 0 wkg_0 clg_5 (c_K_there C.2.2.2.2.2.2.2.2.2.2 hc105) (cwV 2 C.2.2.2.2.1 (gTB_V tw_790 mv_K_there) rfl rfl rfl pd_K_there ⟨Nat.le_of_ble_eq_true rfl, Nat.le_of_ble_eq_true rfl⟩) rfl rfl (Nat.le_of_ble_eq_true rfl) d_K_leaf_105 ⟨Nat.le_of_ble_eq_true rfl, Nat.le_of_ble_eq_true rfl⟩ ?_
    obtain ⟨hb108, hf⟩ := gd_some hf
    refine gw_iast C 4 0 wkg_4 rfl hb108 d_K_leaf_108 wka_4 ?_
    refine gw_aload_n C 0 d_K_leaf_109 rfl rfl ?_
    refine gw_iload_n C 2 d_K_leaf_110 rfl rfl ?_
    refine gw_iload_n C 3 d_K_leaf_111 rfl rfl ?_
    refine gw_iload_n C 1 d_K_leaf_112 rfl rfl ?_
    refine gw_if_eq (tgt := 120) C d_K_leaf_113 (by decide) (fun c => ?_) (fun c => ?_)
    · have hf := (if_pos c).symm.trans hf
      refine gw_iconst (v := (0 : Int32)) C d_K_leaf_120 (by decide) ?_
      exact gw_sub [0, 1, 4, 5, 6] rfl (g_K_leaf_121 C hf)
    · have hf := (if_neg c).symm.trans hf
      refine gw_iconst (v := (1 : Int32)) C d_K_leaf_116 (by decide) ?_
      refine gw_goto (tgt := 121) C d_K_leaf_117 (by decide) ?_
      exact gw_sub [0, 1, 4, 5, 6] rfl (g_K_leaf_121 C hf)
  · have hf := (if_pos c).symm.trans hf
    refine gw_iconst (v := (-1 : Int32)) C d_K_leaf_68 (by decide) ?_
    exact gw_ireti C d_K_leaf_69 (wk ad cI cZ cC) hf
def f_K_leaf_20 (x1 : Int32) (x2 : Int32) (x3 : Int32) (x4 : Int32) (x5 : Int32) (y0 : Int32) (M : Mem) : Option (Int32 × Mem) :=
  if x1 < 0 then some ((-1 : Int32), M) else if (3 : Int32) < x1 then some ((-1 : Int32), M) else ob (f_K_isName x2 M) fun r33 M33 => if r33 = 0 then some ((-1 : Int32), M33) else if y0 = 0 then f_K_leaf_59 x1 x2 x3 x4 x5 y0 M33 else ob (f_K_isName x4 M33) fun r47 M47 => if r47 = 0 then some ((-1 : Int32), M47) else if x4 = x2 then some ((-1 : Int32), M47) else f_K_leaf_59 x1 x2 x3 x4 x5 y0 M47
set_option maxRecDepth 100000 in
theorem g_K_leaf_20 {r : Int32} {M' : Mem} (C : GC p s m args meth c b_K_leaf 7 (some (FieldType.int)) "NoneWordsModel" TB D vwCl (tysW cI cZ cC) A Z) {x1 : Int32} {x2 : Int32} {x3 : Int32} {x4 : Int32} {x5 : Int32} {y0 : Int32} {M : Mem} (hf : f_K_leaf_20 x1 x2 x3 x4 x5 y0 M = some (r, M')) : GW p l e rm_K_leaf s m args below meth c (MQ below (QW D vwCl (tysW cI cZ cC) A (some (.int r)) (wk ad cI cZ cC M')) args s 0 0 A) D vwCl A 7 0 0 (wk ad cI cZ cC M) 20 [(0, .ref (ad 0)), (1, .int x1), (2, .int x2), (3, .int x3), (4, .int x4), (5, .int x5)] [.int y0] := by
  unfold f_K_leaf_20 at hf
  refine gw_istore (lv' := [(6, .int y0), (0, .ref (ad 0)), (1, .int x1), (2, .int x2), (3, .int x3), (4, .int x4), (5, .int x5)]) C d_K_leaf_20 (by decide) rfl ?_
  refine gw_iload_n C 2 d_K_leaf_22 rfl rfl ?_
  refine gw_if_lt (tgt := 68) C d_K_leaf_23 (by decide) (fun c => ?_) (fun c => ?_)
  · have hf := (if_pos c).symm.trans hf
    refine gw_iconst (v := (-1 : Int32)) C d_K_leaf_68 (by decide) ?_
    exact gw_ireti C d_K_leaf_69 (wk ad cI cZ cC) hf
  · have hf := (if_neg c).symm.trans hf
    refine gw_iload_n C 2 d_K_leaf_26 rfl rfl ?_
    refine gw_iconst (v := (3 : Int32)) C d_K_leaf_27 (by decide) ?_
    refine gw_icmp_gt (tgt := 68) C d_K_leaf_28 (by decide) (fun c => ?_) (fun c => ?_)
    · have hf := (if_pos c).symm.trans hf
      refine gw_iconst (v := (-1 : Int32)) C d_K_leaf_68 (by decide) ?_
      exact gw_ireti C d_K_leaf_69 (wk ad cI cZ cC) hf
    · have hf := (if_neg c).symm.trans hf
      refine gw_aload_n C 1 d_K_leaf_31 rfl rfl ?_
      refine gw_iload_n C 3 d_K_leaf_32 rfl rfl ?_
      obtain ⟨r33, M33, hc33, hf⟩ := ob_some hf
      refine gw_callVr (rest := []) C 0 wkg_0 clg_5 (c_K_isName C.2.2.2.2.2.2.2.2.2.2 hc33) (cwV 1 C.2.2.2.2.1 (gTB_V tw_779 mv_K_isName) rfl rfl rfl pd_K_isName ⟨Nat.le_of_ble_eq_true rfl, Nat.le_of_ble_eq_true rfl⟩) rfl rfl (Nat.le_of_ble_eq_true rfl) d_K_leaf_33 ⟨Nat.le_of_ble_eq_true rfl, Nat.le_of_ble_eq_true rfl⟩ ?_
      refine gw_if_eq (tgt := 68) C d_K_leaf_36 (by decide) (fun c => ?_) (fun c => ?_)
      · have hf := (if_pos c).symm.trans hf
        refine gw_iconst (v := (-1 : Int32)) C d_K_leaf_68 (by decide) ?_
        exact gw_ireti C d_K_leaf_69 (wk ad cI cZ cC) hf
      · have hf := (if_neg c).symm.trans hf
        refine gw_iload C 0 d_K_leaf_39 rfl ?_
        refine gw_if_eq (tgt := 59) C d_K_leaf_41 (by decide) (fun c => ?_) (fun c => ?_)
        · have hf := (if_pos c).symm.trans hf
          exact gw_sub [1, 2, 3, 4, 5, 6, 0] rfl (g_K_leaf_59 C hf)
        · have hf := (if_neg c).symm.trans hf
          refine gw_aload_n C 1 d_K_leaf_44 rfl rfl ?_
          refine gw_iload C 5 d_K_leaf_45 rfl ?_
          obtain ⟨r47, M47, hc47, hf⟩ := ob_some hf
          refine gw_callVr (rest := []) C 0 wkg_0 clg_5 (c_K_isName C.2.2.2.2.2.2.2.2.2.2 hc47) (cwV 1 C.2.2.2.2.1 (gTB_V tw_779 mv_K_isName) rfl rfl rfl pd_K_isName ⟨Nat.le_of_ble_eq_true rfl, Nat.le_of_ble_eq_true rfl⟩) rfl rfl (Nat.le_of_ble_eq_true rfl) d_K_leaf_47 ⟨Nat.le_of_ble_eq_true rfl, Nat.le_of_ble_eq_true rfl⟩ ?_
          refine gw_if_eq (tgt := 68) C d_K_leaf_50 (by decide) (fun c => ?_) (fun c => ?_)
          · have hf := (if_pos c).symm.trans hf
            refine gw_iconst (v := (-1 : Int32)) C d_K_leaf_68 (by decide) ?_
            exact gw_ireti C d_K_leaf_69 (wk ad cI cZ cC) hf
          · have hf := (if_neg c).symm.trans hf
            refine gw_iload C 5 d_K_leaf_53 rfl ?_
            refine gw_iload_n C 3 d_K_leaf_55 rfl rfl ?_
            refine gw_icmp_eq (tgt := 68) C d_K_leaf_56 (by decide) (fun c => ?_) (fun c => ?_)
            · have hf := (if_pos c).symm.trans hf
              refine gw_iconst (v := (-1 : Int32)) C d_K_leaf_68 (by decide) ?_
              exact gw_ireti C d_K_leaf_69 (wk ad cI cZ cC) hf
            · have hf := (if_neg c).symm.trans hf
              exact gw_sub [1, 2, 3, 4, 5, 6, 0] rfl (g_K_leaf_59 C hf)
def f_K_leaf (x1 : Int32) (x2 : Int32) (x3 : Int32) (x4 : Int32) (x5 : Int32) (M : Mem) : Option (Int32 × Mem) :=
  if x1 = (1 : Int32) then f_K_leaf_20 x1 x2 x3 x4 x5 (1 : Int32) (ms M 0 0 (0 : Int32)) else if x1 = (3 : Int32) then f_K_leaf_20 x1 x2 x3 x4 x5 (1 : Int32) (ms M 0 0 (0 : Int32)) else f_K_leaf_20 x1 x2 x3 x4 x5 (0 : Int32) (ms M 0 0 (0 : Int32))
set_option maxRecDepth 100000 in
theorem g_K_leaf {r : Int32} {M' : Mem} (C : GC p s m args meth c b_K_leaf 7 (some (FieldType.int)) "NoneWordsModel" TB D vwCl (tysW cI cZ cC) A Z) {x1 : Int32} {x2 : Int32} {x3 : Int32} {x4 : Int32} {x5 : Int32} {M : Mem} (hf : f_K_leaf x1 x2 x3 x4 x5 M = some (r, M')) : GW p l e rm_K_leaf s m args below meth c (MQ below (QW D vwCl (tysW cI cZ cC) A (some (.int r)) (wk ad cI cZ cC M')) args s 0 0 A) D vwCl A 7 0 0 (wk ad cI cZ cC M) 0 [(0, .ref (ad 0)), (1, .int x1), (2, .int x2), (3, .int x3), (4, .int x4), (5, .int x5)] [] := by
  unfold f_K_leaf at hf
  refine gw_aload_n C 0 d_K_leaf_0 rfl rfl ?_
  refine gw_iconst (v := (0 : Int32)) C d_K_leaf_1 (by decide) ?_
  refine gw_put C in_K ty_K tk_K nm_K 0 wkg_0 clg_5 0 (by decide) tw_686 rfl rfl rfl rfl (Nat.le_of_ble_eq_true rfl) d_K_leaf_2 wkf_0_0 ?_
  refine gw_iload_n C 1 d_K_leaf_5 rfl rfl ?_
  refine gw_iconst (v := (1 : Int32)) C d_K_leaf_6 (by decide) ?_
  refine gw_icmp_eq (tgt := 15) C d_K_leaf_7 (by decide) (fun c => ?_) (fun c => ?_)
  · have hf := (if_pos c).symm.trans hf
    refine gw_iconst (v := (1 : Int32)) C d_K_leaf_15 (by decide) ?_
    refine gw_goto (tgt := 20) C d_K_leaf_16 (by decide) ?_
    exact gw_sub [0, 1, 2, 3, 4, 5] rfl (g_K_leaf_20 C hf)
  · have hf := (if_neg c).symm.trans hf
    refine gw_iload_n C 1 d_K_leaf_10 rfl rfl ?_
    refine gw_iconst (v := (3 : Int32)) C d_K_leaf_11 (by decide) ?_
    refine gw_icmp_ne (tgt := 19) C d_K_leaf_12 (by decide) (fun c => ?_) (fun c => ?_)
    · have hf := (if_neg c).symm.trans hf
      refine gw_iconst (v := (0 : Int32)) C d_K_leaf_19 (by decide) ?_
      exact gw_sub [0, 1, 2, 3, 4, 5] rfl (g_K_leaf_20 C hf)
    · have hf := (if_pos c).symm.trans hf
      refine gw_iconst (v := (1 : Int32)) C d_K_leaf_15 (by decide) ?_
      refine gw_goto (tgt := 20) C d_K_leaf_16 (by decide) ?_
      exact gw_sub [0, 1, 2, 3, 4, 5] rfl (g_K_leaf_20 C hf)
theorem c_K_leaf (hZ : gw_ZOK Z) {x1 : Int32} {x2 : Int32} {x3 : Int32} {x4 : Int32} {x5 : Int32} {M : Mem} {r : Int32} {M' : Mem} (hf : f_K_leaf x1 x2 x3 x4 x5 M = some (r, M')) : CW l y_K_leaf ws_K_leaf rm_K_leaf D vwCl (tysW cI cZ cC) Z [.ref (ad 0), .int x1, .int x2, .int x3, .int x4, .int x5] (wk ad cI cZ cC M) (some (.int r)) (wk ad cI cZ cC M') 0 0 :=
  CW.ofG hZ (by decide) rfl (Nat.le_of_ble_eq_true rfl) (fun _ _ _ _ _ _ _ _ C _ => g_K_leaf C hf)
abbrev b_K_join : ByteArray := prog_7_method_14_code
def y_K_join : MethodName := ⟨"NoneWordsModel", "join", "(III)I"⟩
abbrev ws_K_join : List Cond := Cond.code y_K_join b_K_join 10 (some (FieldType.int)) :: TB
set_option maxRecDepth 100000 in
theorem tc_K_join : Cond.code y_K_join b_K_join 10 (some (FieldType.int)) ∈ TB := inTB 813 rfl rfl
theorem mv_K_join : Cond.instanceMethod y_K_join ∈ TB ∧ Cond.selects "NoneWordsModel" y_K_join y_K_join ∈ TB ∧ Cond.initialized "NoneWordsModel" ∈ TB ∧ Cond.code y_K_join b_K_join 10 (some (FieldType.int)) ∈ TB := ⟨inTB 811 (by decide +kernel) (by decide +kernel), inTB 812 (by decide +kernel) (by decide +kernel), inTB 71 (by decide +kernel) (by decide +kernel), tc_K_join⟩
theorem pd_K_join : y_K_join.cls = "NoneWordsModel" ∧ y_K_join.cls ≠ "java/lang/invoke/MethodHandle" ∧ y_K_join.cls ≠ "java/lang/invoke/VarHandle" ∧ (parseMethodDescriptor y_K_join.desc).map (fun d => d.parameters.length) = some 3 := by decide +kernel
theorem d_K_join_0 : decode b_K_join 0 = .ok (.aload_n 0, 1) := by decide +kernel
theorem d_K_join_1 : decode b_K_join 1 = .ok (.iconst 0, 1) := by decide +kernel
theorem d_K_join_2 : decode b_K_join 2 = .ok (.putfield 72, 3) := by decide +kernel
theorem d_K_join_5 : decode b_K_join 5 = .ok (.aload_n 0, 1) := by decide +kernel
theorem d_K_join_6 : decode b_K_join 6 = .ok (.iload_n 1, 1) := by decide +kernel
theorem d_K_join_7 : decode b_K_join 7 = .ok (.invokevirtual 112, 3) := by decide +kernel
theorem d_K_join_10 : decode b_K_join 10 = .ok (.ifCond .eq 54, 3) := by decide +kernel
theorem d_K_join_13 : decode b_K_join 13 = .ok (.aload_n 0, 1) := by decide +kernel
theorem d_K_join_14 : decode b_K_join 14 = .ok (.iload_n 2, 1) := by decide +kernel
theorem d_K_join_15 : decode b_K_join 15 = .ok (.invokevirtual 112, 3) := by decide +kernel
theorem d_K_join_18 : decode b_K_join 18 = .ok (.ifCond .eq 46, 3) := by decide +kernel
theorem d_K_join_21 : decode b_K_join 21 = .ok (.aload_n 0, 1) := by decide +kernel
theorem d_K_join_22 : decode b_K_join 22 = .ok (.iload_n 3, 1) := by decide +kernel
theorem d_K_join_23 : decode b_K_join 23 = .ok (.invokevirtual 98, 3) := by decide +kernel
theorem d_K_join_26 : decode b_K_join 26 = .ok (.ifCond .eq 38, 3) := by decide +kernel
theorem d_K_join_29 : decode b_K_join 29 = .ok (.aload_n 0, 1) := by decide +kernel
theorem d_K_join_30 : decode b_K_join 30 = .ok (.getfield 28, 3) := by decide +kernel
theorem d_K_join_33 : decode b_K_join 33 = .ok (.iload_n 1, 1) := by decide +kernel
theorem d_K_join_34 : decode b_K_join 34 = .ok (.iload_n 3, 1) := by decide +kernel
theorem d_K_join_35 : decode b_K_join 35 = .ok (.invokestatic 82, 3) := by decide +kernel
theorem d_K_join_38 : decode b_K_join 38 = .ok (.baload, 1) := by decide +kernel
theorem d_K_join_39 : decode b_K_join 39 = .ok (.ifCond .eq 25, 3) := by decide +kernel
theorem d_K_join_42 : decode b_K_join 42 = .ok (.aload_n 0, 1) := by decide +kernel
theorem d_K_join_43 : decode b_K_join 43 = .ok (.getfield 28, 3) := by decide +kernel
theorem d_K_join_46 : decode b_K_join 46 = .ok (.iload_n 2, 1) := by decide +kernel
theorem d_K_join_47 : decode b_K_join 47 = .ok (.iload_n 3, 1) := by decide +kernel
theorem d_K_join_48 : decode b_K_join 48 = .ok (.invokestatic 82, 3) := by decide +kernel
theorem d_K_join_51 : decode b_K_join 51 = .ok (.baload, 1) := by decide +kernel
theorem d_K_join_52 : decode b_K_join 52 = .ok (.ifCond .eq 12, 3) := by decide +kernel
theorem d_K_join_55 : decode b_K_join 55 = .ok (.aload_n 0, 1) := by decide +kernel
theorem d_K_join_56 : decode b_K_join 56 = .ok (.getfield 79, 3) := by decide +kernel
theorem d_K_join_59 : decode b_K_join 59 = .ok (.bipush 120, 2) := by decide +kernel
theorem d_K_join_61 : decode b_K_join 61 = .ok (.if_icmp .ne 5, 3) := by decide +kernel
theorem d_K_join_64 : decode b_K_join 64 = .ok (.iconst (-1), 1) := by decide +kernel
theorem d_K_join_65 : decode b_K_join 65 = .ok (.ireturn, 1) := by decide +kernel
theorem d_K_join_66 : decode b_K_join 66 = .ok (.aload_n 0, 1) := by decide +kernel
theorem d_K_join_67 : decode b_K_join 67 = .ok (.invokevirtual 102, 3) := by decide +kernel
theorem d_K_join_70 : decode b_K_join 70 = .ok (.iconst 0, 1) := by decide +kernel
theorem d_K_join_71 : decode b_K_join 71 = .ok (.istore 4, 2) := by decide +kernel
theorem d_K_join_73 : decode b_K_join 73 = .ok (.iload 4, 2) := by decide +kernel
theorem d_K_join_75 : decode b_K_join 75 = .ok (.aload_n 0, 1) := by decide +kernel
theorem d_K_join_76 : decode b_K_join 76 = .ok (.getfield 76, 3) := by decide +kernel
theorem d_K_join_79 : decode b_K_join 79 = .ok (.if_icmp .ge 182, 3) := by decide +kernel
theorem d_K_join_82 : decode b_K_join 82 = .ok (.aload_n 0, 1) := by decide +kernel
theorem d_K_join_83 : decode b_K_join 83 = .ok (.getfield 28, 3) := by decide +kernel
theorem d_K_join_86 : decode b_K_join 86 = .ok (.iload_n 1, 1) := by decide +kernel
theorem d_K_join_87 : decode b_K_join 87 = .ok (.iload 4, 2) := by decide +kernel
theorem d_K_join_89 : decode b_K_join 89 = .ok (.invokestatic 82, 3) := by decide +kernel
theorem d_K_join_92 : decode b_K_join 92 = .ok (.baload, 1) := by decide +kernel
theorem d_K_join_93 : decode b_K_join 93 = .ok (.istore 5, 2) := by decide +kernel
theorem d_K_join_95 : decode b_K_join 95 = .ok (.aload_n 0, 1) := by decide +kernel
theorem d_K_join_96 : decode b_K_join 96 = .ok (.getfield 28, 3) := by decide +kernel
theorem d_K_join_99 : decode b_K_join 99 = .ok (.iload_n 2, 1) := by decide +kernel
theorem d_K_join_100 : decode b_K_join 100 = .ok (.iload 4, 2) := by decide +kernel
theorem d_K_join_102 : decode b_K_join 102 = .ok (.invokestatic 82, 3) := by decide +kernel
theorem d_K_join_105 : decode b_K_join 105 = .ok (.baload, 1) := by decide +kernel
theorem d_K_join_106 : decode b_K_join 106 = .ok (.istore 6, 2) := by decide +kernel
theorem d_K_join_108 : decode b_K_join 108 = .ok (.iload 5, 2) := by decide +kernel
theorem d_K_join_110 : decode b_K_join 110 = .ok (.ifCond .ne 11, 3) := by decide +kernel
theorem d_K_join_113 : decode b_K_join 113 = .ok (.iload 6, 2) := by decide +kernel
theorem d_K_join_115 : decode b_K_join 115 = .ok (.ifCond .ne 6, 3) := by decide +kernel
theorem d_K_join_118 : decode b_K_join 118 = .ok (.goto 137, 3) := by decide +kernel
theorem d_K_join_121 : decode b_K_join 121 = .ok (.iconst (-1), 1) := by decide +kernel
theorem d_K_join_122 : decode b_K_join 122 = .ok (.istore 7, 2) := by decide +kernel
theorem d_K_join_124 : decode b_K_join 124 = .ok (.iload 7, 2) := by decide +kernel
theorem d_K_join_126 : decode b_K_join 126 = .ok (.iconst 4, 1) := by decide +kernel
theorem d_K_join_127 : decode b_K_join 127 = .ok (.if_icmp .ge 118, 3) := by decide +kernel
theorem d_K_join_130 : decode b_K_join 130 = .ok (.iload 5, 2) := by decide +kernel
theorem d_K_join_132 : decode b_K_join 132 = .ok (.ifCond .eq 19, 3) := by decide +kernel
theorem d_K_join_135 : decode b_K_join 135 = .ok (.aload_n 0, 1) := by decide +kernel
theorem d_K_join_136 : decode b_K_join 136 = .ok (.iload_n 1, 1) := by decide +kernel
theorem d_K_join_137 : decode b_K_join 137 = .ok (.iload 4, 2) := by decide +kernel
theorem d_K_join_139 : decode b_K_join 139 = .ok (.iload 7, 2) := by decide +kernel
theorem d_K_join_141 : decode b_K_join 141 = .ok (.invokevirtual 86, 3) := by decide +kernel
theorem d_K_join_144 : decode b_K_join 144 = .ok (.ifCond .eq 7, 3) := by decide +kernel
theorem d_K_join_147 : decode b_K_join 147 = .ok (.iconst 1, 1) := by decide +kernel
theorem d_K_join_148 : decode b_K_join 148 = .ok (.goto 4, 3) := by decide +kernel
theorem d_K_join_151 : decode b_K_join 151 = .ok (.iconst 0, 1) := by decide +kernel
theorem d_K_join_152 : decode b_K_join 152 = .ok (.istore 8, 2) := by decide +kernel
theorem d_K_join_154 : decode b_K_join 154 = .ok (.iload 6, 2) := by decide +kernel
theorem d_K_join_156 : decode b_K_join 156 = .ok (.ifCond .eq 19, 3) := by decide +kernel
theorem d_K_join_159 : decode b_K_join 159 = .ok (.aload_n 0, 1) := by decide +kernel
theorem d_K_join_160 : decode b_K_join 160 = .ok (.iload_n 2, 1) := by decide +kernel
theorem d_K_join_161 : decode b_K_join 161 = .ok (.iload 4, 2) := by decide +kernel
theorem d_K_join_163 : decode b_K_join 163 = .ok (.iload 7, 2) := by decide +kernel
theorem d_K_join_165 : decode b_K_join 165 = .ok (.invokevirtual 86, 3) := by decide +kernel
theorem d_K_join_168 : decode b_K_join 168 = .ok (.ifCond .eq 7, 3) := by decide +kernel
theorem d_K_join_171 : decode b_K_join 171 = .ok (.iconst 1, 1) := by decide +kernel
theorem d_K_join_172 : decode b_K_join 172 = .ok (.goto 4, 3) := by decide +kernel
theorem d_K_join_175 : decode b_K_join 175 = .ok (.iconst 0, 1) := by decide +kernel
theorem d_K_join_176 : decode b_K_join 176 = .ok (.istore 9, 2) := by decide +kernel
theorem d_K_join_178 : decode b_K_join 178 = .ok (.aload_n 0, 1) := by decide +kernel
theorem d_K_join_179 : decode b_K_join 179 = .ok (.aload_n 0, 1) := by decide +kernel
theorem d_K_join_180 : decode b_K_join 180 = .ok (.getfield 79, 3) := by decide +kernel
theorem d_K_join_183 : decode b_K_join 183 = .ok (.iload 4, 2) := by decide +kernel
theorem d_K_join_185 : decode b_K_join 185 = .ok (.iload 7, 2) := by decide +kernel
theorem d_K_join_187 : decode b_K_join 187 = .ok (.iload 4, 2) := by decide +kernel
theorem d_K_join_189 : decode b_K_join 189 = .ok (.iload_n 3, 1) := by decide +kernel
theorem d_K_join_190 : decode b_K_join 190 = .ok (.if_icmp .ne 21, 3) := by decide +kernel
theorem d_K_join_193 : decode b_K_join 193 = .ok (.iload 8, 2) := by decide +kernel
theorem d_K_join_195 : decode b_K_join 195 = .ok (.ifCond .ne 8, 3) := by decide +kernel
theorem d_K_join_198 : decode b_K_join 198 = .ok (.iload 9, 2) := by decide +kernel
theorem d_K_join_200 : decode b_K_join 200 = .ok (.ifCond .eq 7, 3) := by decide +kernel
theorem d_K_join_203 : decode b_K_join 203 = .ok (.iconst 1, 1) := by decide +kernel
theorem d_K_join_204 : decode b_K_join 204 = .ok (.goto 32, 3) := by decide +kernel
theorem d_K_join_207 : decode b_K_join 207 = .ok (.iconst 0, 1) := by decide +kernel
theorem d_K_join_208 : decode b_K_join 208 = .ok (.goto 28, 3) := by decide +kernel
theorem d_K_join_211 : decode b_K_join 211 = .ok (.iload 5, 2) := by decide +kernel
theorem d_K_join_213 : decode b_K_join 213 = .ok (.ifCond .eq 8, 3) := by decide +kernel
theorem d_K_join_216 : decode b_K_join 216 = .ok (.iload 8, 2) := by decide +kernel
theorem d_K_join_218 : decode b_K_join 218 = .ok (.ifCond .eq 17, 3) := by decide +kernel
theorem d_K_join_221 : decode b_K_join 221 = .ok (.iload 6, 2) := by decide +kernel
theorem d_K_join_223 : decode b_K_join 223 = .ok (.ifCond .eq 8, 3) := by decide +kernel
theorem d_K_join_226 : decode b_K_join 226 = .ok (.iload 9, 2) := by decide +kernel
theorem d_K_join_228 : decode b_K_join 228 = .ok (.ifCond .eq 7, 3) := by decide +kernel
theorem d_K_join_231 : decode b_K_join 231 = .ok (.iconst 1, 1) := by decide +kernel
theorem d_K_join_232 : decode b_K_join 232 = .ok (.goto 4, 3) := by decide +kernel
theorem d_K_join_235 : decode b_K_join 235 = .ok (.iconst 0, 1) := by decide +kernel
theorem d_K_join_236 : decode b_K_join 236 = .ok (.invokevirtual 90, 3) := by decide +kernel
theorem d_K_join_239 : decode b_K_join 239 = .ok (.iinc 7 1, 3) := by decide +kernel
theorem d_K_join_242 : decode b_K_join 242 = .ok (.goto (-118), 3) := by decide +kernel
theorem d_K_join_245 : decode b_K_join 245 = .ok (.aload_n 0, 1) := by decide +kernel
theorem d_K_join_246 : decode b_K_join 246 = .ok (.aload_n 0, 1) := by decide +kernel
theorem d_K_join_247 : decode b_K_join 247 = .ok (.getfield 79, 3) := by decide +kernel
theorem d_K_join_250 : decode b_K_join 250 = .ok (.iload 4, 2) := by decide +kernel
theorem d_K_join_252 : decode b_K_join 252 = .ok (.invokevirtual 94, 3) := by decide +kernel
theorem d_K_join_255 : decode b_K_join 255 = .ok (.iinc 4 1, 3) := by decide +kernel
theorem d_K_join_258 : decode b_K_join 258 = .ok (.goto (-185), 3) := by decide +kernel
theorem d_K_join_261 : decode b_K_join 261 = .ok (.aload_n 0, 1) := by decide +kernel
theorem d_K_join_262 : decode b_K_join 262 = .ok (.getfield 13, 3) := by decide +kernel
theorem d_K_join_265 : decode b_K_join 265 = .ok (.aload_n 0, 1) := by decide +kernel
theorem d_K_join_266 : decode b_K_join 266 = .ok (.getfield 79, 3) := by decide +kernel
theorem d_K_join_269 : decode b_K_join 269 = .ok (.iconst 4, 1) := by decide +kernel
theorem d_K_join_270 : decode b_K_join 270 = .ok (.iastore, 1) := by decide +kernel
theorem d_K_join_271 : decode b_K_join 271 = .ok (.aload_n 0, 1) := by decide +kernel
theorem d_K_join_272 : decode b_K_join 272 = .ok (.getfield 16, 3) := by decide +kernel
theorem d_K_join_275 : decode b_K_join 275 = .ok (.aload_n 0, 1) := by decide +kernel
theorem d_K_join_276 : decode b_K_join 276 = .ok (.getfield 79, 3) := by decide +kernel
theorem d_K_join_279 : decode b_K_join 279 = .ok (.iload_n 1, 1) := by decide +kernel
theorem d_K_join_280 : decode b_K_join 280 = .ok (.iastore, 1) := by decide +kernel
theorem d_K_join_281 : decode b_K_join 281 = .ok (.aload_n 0, 1) := by decide +kernel
theorem d_K_join_282 : decode b_K_join 282 = .ok (.getfield 22, 3) := by decide +kernel
theorem d_K_join_285 : decode b_K_join 285 = .ok (.aload_n 0, 1) := by decide +kernel
theorem d_K_join_286 : decode b_K_join 286 = .ok (.getfield 79, 3) := by decide +kernel
theorem d_K_join_289 : decode b_K_join 289 = .ok (.iload_n 2, 1) := by decide +kernel
theorem d_K_join_290 : decode b_K_join 290 = .ok (.iastore, 1) := by decide +kernel
theorem d_K_join_291 : decode b_K_join 291 = .ok (.aload_n 0, 1) := by decide +kernel
theorem d_K_join_292 : decode b_K_join 292 = .ok (.dup, 1) := by decide +kernel
theorem d_K_join_293 : decode b_K_join 293 = .ok (.getfield 79, 3) := by decide +kernel
theorem d_K_join_296 : decode b_K_join 296 = .ok (.iconst 1, 1) := by decide +kernel
theorem d_K_join_297 : decode b_K_join 297 = .ok (.iadd, 1) := by decide +kernel
theorem d_K_join_298 : decode b_K_join 298 = .ok (.putfield 79, 3) := by decide +kernel
theorem d_K_join_301 : decode b_K_join 301 = .ok (.aload_n 0, 1) := by decide +kernel
theorem d_K_join_302 : decode b_K_join 302 = .ok (.getfield 79, 3) := by decide +kernel
theorem d_K_join_305 : decode b_K_join 305 = .ok (.iconst 1, 1) := by decide +kernel
theorem d_K_join_306 : decode b_K_join 306 = .ok (.isub, 1) := by decide +kernel
theorem d_K_join_307 : decode b_K_join 307 = .ok (.ireturn, 1) := by decide +kernel
abbrev rm_K_join : Room := { frames := 3, cells := 0, slots := 0, locals := 68 }
def f_K_join_236 (k73 : Int32 → Int32 → Int32 → Int32 → Mem → Option (Int32 × Mem)) (k124 : Int32 → Int32 → Int32 → Int32 → Int32 → Int32 → Int32 → Mem → Option (Int32 × Mem)) (x1 : Int32) (x2 : Int32) (x3 : Int32) (x4 : Int32) (x5 : Int32) (x6 : Int32) (x7 : Int32) (y0 : Int32) (y1 : Int32) (y2 : Int32) (y3 : Int32) (M : Mem) : Option (Int32 × Mem) :=
  om (f_K_tell y3 y2 y1 y0 M) fun M236 => k124 x1 x2 x3 x4 x5 x6 (x7 + (1 : Int32)) M236
set_option maxRecDepth 100000 in
theorem g_K_join_236 {r : Int32} {M' : Mem} (C : GC p s m args meth c b_K_join 10 (some (FieldType.int)) "NoneWordsModel" TB D vwCl (tysW cI cZ cC) A Z) {k73 : Int32 → Int32 → Int32 → Int32 → Mem → Option (Int32 × Mem)} (hk73 : ∀ (x1 : Int32) (x2 : Int32) (x3 : Int32) (x4 : Int32) (M : Mem), k73 x1 x2 x3 x4 M = some (r, M') → GW p l e rm_K_join s m args below meth c (MQ below (QW D vwCl (tysW cI cZ cC) A (some (.int r)) (wk ad cI cZ cC M')) args s 0 0 A) D vwCl A 10 0 0 (wk ad cI cZ cC M) 73 [(0, .ref (ad 0)), (1, .int x1), (2, .int x2), (3, .int x3), (4, .int x4)] []) {k124 : Int32 → Int32 → Int32 → Int32 → Int32 → Int32 → Int32 → Mem → Option (Int32 × Mem)} (hk124 : ∀ (x1 : Int32) (x2 : Int32) (x3 : Int32) (x4 : Int32) (x5 : Int32) (x6 : Int32) (x7 : Int32) (M : Mem), k124 x1 x2 x3 x4 x5 x6 x7 M = some (r, M') → GW p l e rm_K_join s m args below meth c (MQ below (QW D vwCl (tysW cI cZ cC) A (some (.int r)) (wk ad cI cZ cC M')) args s 0 0 A) D vwCl A 10 0 0 (wk ad cI cZ cC M) 124 [(0, .ref (ad 0)), (1, .int x1), (2, .int x2), (3, .int x3), (4, .int x4), (5, .int x5), (6, .int x6), (7, .int x7)] []) {x1 : Int32} {x2 : Int32} {x3 : Int32} {x4 : Int32} {x5 : Int32} {x6 : Int32} {x7 : Int32} {y0 : Int32} {y1 : Int32} {y2 : Int32} {y3 : Int32} {M : Mem} (hf : f_K_join_236 k73 k124 x1 x2 x3 x4 x5 x6 x7 y0 y1 y2 y3 M = some (r, M')) : GW p l e rm_K_join s m args below meth c (MQ below (QW D vwCl (tysW cI cZ cC) A (some (.int r)) (wk ad cI cZ cC M')) args s 0 0 A) D vwCl A 10 0 0 (wk ad cI cZ cC M) 236 [(0, .ref (ad 0)), (1, .int x1), (2, .int x2), (3, .int x3), (4, .int x4), (5, .int x5), (6, .int x6), (7, .int x7)] [.int y0, .int y1, .int y2, .int y3, .ref (ad 0)] := by
  unfold f_K_join_236 at hf
  obtain ⟨M236, hc236, hf⟩ := om_some hf
  refine gw_callVv (rest := []) C 0 wkg_0 clg_5 (c_K_tell C.2.2.2.2.2.2.2.2.2.2 hc236) (cwV 4 C.2.2.2.2.1 (gTB_V tw_798 mv_K_tell) rfl rfl rfl pd_K_tell ⟨Nat.le_of_ble_eq_true rfl, Nat.le_of_ble_eq_true rfl⟩) rfl rfl (Nat.le_of_ble_eq_true rfl) d_K_join_236 ⟨Nat.le_of_ble_eq_true rfl, Nat.le_of_ble_eq_true rfl⟩ ?_
  refine gw_iinc (v := x7 + (1 : Int32)) (lv' := [(7, .int (x7 + (1 : Int32))), (0, .ref (ad 0)), (1, .int x1), (2, .int x2), (3, .int x3), (4, .int x4), (5, .int x5), (6, .int x6)]) C 7 d_K_join_239 rfl rfl (by decide) rfl ?_
  refine gw_goto (tgt := 124) C d_K_join_242 (by decide) ?_
  exact gw_sub [1, 2, 3, 4, 5, 6, 7, 0] rfl (hk124 _ _ _ _ _ _ _ _ hf)
def f_K_join_221 (k73 : Int32 → Int32 → Int32 → Int32 → Mem → Option (Int32 × Mem)) (k124 : Int32 → Int32 → Int32 → Int32 → Int32 → Int32 → Int32 → Mem → Option (Int32 × Mem)) (x1 : Int32) (x2 : Int32) (x3 : Int32) (x4 : Int32) (x5 : Int32) (x6 : Int32) (x7 : Int32) (x9 : Int32) (y0 : Int32) (y1 : Int32) (y2 : Int32) (M : Mem) : Option (Int32 × Mem) :=
  if x6 = 0 then f_K_join_236 k73 k124 x1 x2 x3 x4 x5 x6 x7 (1 : Int32) y0 y1 y2 M else if x9 = 0 then f_K_join_236 k73 k124 x1 x2 x3 x4 x5 x6 x7 (0 : Int32) y0 y1 y2 M else f_K_join_236 k73 k124 x1 x2 x3 x4 x5 x6 x7 (1 : Int32) y0 y1 y2 M
set_option maxRecDepth 100000 in
theorem g_K_join_221 {r : Int32} {M' : Mem} (C : GC p s m args meth c b_K_join 10 (some (FieldType.int)) "NoneWordsModel" TB D vwCl (tysW cI cZ cC) A Z) {k73 : Int32 → Int32 → Int32 → Int32 → Mem → Option (Int32 × Mem)} (hk73 : ∀ (x1 : Int32) (x2 : Int32) (x3 : Int32) (x4 : Int32) (M : Mem), k73 x1 x2 x3 x4 M = some (r, M') → GW p l e rm_K_join s m args below meth c (MQ below (QW D vwCl (tysW cI cZ cC) A (some (.int r)) (wk ad cI cZ cC M')) args s 0 0 A) D vwCl A 10 0 0 (wk ad cI cZ cC M) 73 [(0, .ref (ad 0)), (1, .int x1), (2, .int x2), (3, .int x3), (4, .int x4)] []) {k124 : Int32 → Int32 → Int32 → Int32 → Int32 → Int32 → Int32 → Mem → Option (Int32 × Mem)} (hk124 : ∀ (x1 : Int32) (x2 : Int32) (x3 : Int32) (x4 : Int32) (x5 : Int32) (x6 : Int32) (x7 : Int32) (M : Mem), k124 x1 x2 x3 x4 x5 x6 x7 M = some (r, M') → GW p l e rm_K_join s m args below meth c (MQ below (QW D vwCl (tysW cI cZ cC) A (some (.int r)) (wk ad cI cZ cC M')) args s 0 0 A) D vwCl A 10 0 0 (wk ad cI cZ cC M) 124 [(0, .ref (ad 0)), (1, .int x1), (2, .int x2), (3, .int x3), (4, .int x4), (5, .int x5), (6, .int x6), (7, .int x7)] []) {x1 : Int32} {x2 : Int32} {x3 : Int32} {x4 : Int32} {x5 : Int32} {x6 : Int32} {x7 : Int32} {x9 : Int32} {y0 : Int32} {y1 : Int32} {y2 : Int32} {M : Mem} (hf : f_K_join_221 k73 k124 x1 x2 x3 x4 x5 x6 x7 x9 y0 y1 y2 M = some (r, M')) : GW p l e rm_K_join s m args below meth c (MQ below (QW D vwCl (tysW cI cZ cC) A (some (.int r)) (wk ad cI cZ cC M')) args s 0 0 A) D vwCl A 10 0 0 (wk ad cI cZ cC M) 221 [(0, .ref (ad 0)), (1, .int x1), (2, .int x2), (3, .int x3), (4, .int x4), (5, .int x5), (6, .int x6), (7, .int x7), (9, .int x9)] [.int y0, .int y1, .int y2, .ref (ad 0)] := by
  unfold f_K_join_221 at hf
  refine gw_iload C 6 d_K_join_221 rfl ?_
  refine gw_if_eq (tgt := 231) C d_K_join_223 (by decide) (fun c => ?_) (fun c => ?_)
  · have hf := (if_pos c).symm.trans hf
    refine gw_iconst (v := (1 : Int32)) C d_K_join_231 (by decide) ?_
    refine gw_goto (tgt := 236) C d_K_join_232 (by decide) ?_
    exact gw_sub [0, 1, 2, 3, 4, 5, 6, 7] rfl (g_K_join_236 C hk73 hk124 hf)
  · have hf := (if_neg c).symm.trans hf
    refine gw_iload C 8 d_K_join_226 rfl ?_
    refine gw_if_eq (tgt := 235) C d_K_join_228 (by decide) (fun c => ?_) (fun c => ?_)
    · have hf := (if_pos c).symm.trans hf
      refine gw_iconst (v := (0 : Int32)) C d_K_join_235 (by decide) ?_
      exact gw_sub [0, 1, 2, 3, 4, 5, 6, 7] rfl (g_K_join_236 C hk73 hk124 hf)
    · have hf := (if_neg c).symm.trans hf
      refine gw_iconst (v := (1 : Int32)) C d_K_join_231 (by decide) ?_
      refine gw_goto (tgt := 236) C d_K_join_232 (by decide) ?_
      exact gw_sub [0, 1, 2, 3, 4, 5, 6, 7] rfl (g_K_join_236 C hk73 hk124 hf)
def f_K_join_176 (k73 : Int32 → Int32 → Int32 → Int32 → Mem → Option (Int32 × Mem)) (k124 : Int32 → Int32 → Int32 → Int32 → Int32 → Int32 → Int32 → Mem → Option (Int32 × Mem)) (x1 : Int32) (x2 : Int32) (x3 : Int32) (x4 : Int32) (x5 : Int32) (x6 : Int32) (x7 : Int32) (x8 : Int32) (y0 : Int32) (M : Mem) : Option (Int32 × Mem) :=
  if x4 = x3 then if x8 = 0 then if y0 = 0 then f_K_join_236 k73 k124 x1 x2 x3 x4 x5 x6 x7 (0 : Int32) x7 x4 (M 0 3) M else f_K_join_236 k73 k124 x1 x2 x3 x4 x5 x6 x7 (1 : Int32) x7 x4 (M 0 3) M else f_K_join_236 k73 k124 x1 x2 x3 x4 x5 x6 x7 (1 : Int32) x7 x4 (M 0 3) M else if x5 = 0 then f_K_join_221 k73 k124 x1 x2 x3 x4 x5 x6 x7 y0 x7 x4 (M 0 3) M else if x8 = 0 then f_K_join_236 k73 k124 x1 x2 x3 x4 x5 x6 x7 (0 : Int32) x7 x4 (M 0 3) M else f_K_join_221 k73 k124 x1 x2 x3 x4 x5 x6 x7 y0 x7 x4 (M 0 3) M
set_option maxRecDepth 100000 in
theorem g_K_join_176 {r : Int32} {M' : Mem} (C : GC p s m args meth c b_K_join 10 (some (FieldType.int)) "NoneWordsModel" TB D vwCl (tysW cI cZ cC) A Z) {k73 : Int32 → Int32 → Int32 → Int32 → Mem → Option (Int32 × Mem)} (hk73 : ∀ (x1 : Int32) (x2 : Int32) (x3 : Int32) (x4 : Int32) (M : Mem), k73 x1 x2 x3 x4 M = some (r, M') → GW p l e rm_K_join s m args below meth c (MQ below (QW D vwCl (tysW cI cZ cC) A (some (.int r)) (wk ad cI cZ cC M')) args s 0 0 A) D vwCl A 10 0 0 (wk ad cI cZ cC M) 73 [(0, .ref (ad 0)), (1, .int x1), (2, .int x2), (3, .int x3), (4, .int x4)] []) {k124 : Int32 → Int32 → Int32 → Int32 → Int32 → Int32 → Int32 → Mem → Option (Int32 × Mem)} (hk124 : ∀ (x1 : Int32) (x2 : Int32) (x3 : Int32) (x4 : Int32) (x5 : Int32) (x6 : Int32) (x7 : Int32) (M : Mem), k124 x1 x2 x3 x4 x5 x6 x7 M = some (r, M') → GW p l e rm_K_join s m args below meth c (MQ below (QW D vwCl (tysW cI cZ cC) A (some (.int r)) (wk ad cI cZ cC M')) args s 0 0 A) D vwCl A 10 0 0 (wk ad cI cZ cC M) 124 [(0, .ref (ad 0)), (1, .int x1), (2, .int x2), (3, .int x3), (4, .int x4), (5, .int x5), (6, .int x6), (7, .int x7)] []) {x1 : Int32} {x2 : Int32} {x3 : Int32} {x4 : Int32} {x5 : Int32} {x6 : Int32} {x7 : Int32} {x8 : Int32} {y0 : Int32} {M : Mem} (hf : f_K_join_176 k73 k124 x1 x2 x3 x4 x5 x6 x7 x8 y0 M = some (r, M')) : GW p l e rm_K_join s m args below meth c (MQ below (QW D vwCl (tysW cI cZ cC) A (some (.int r)) (wk ad cI cZ cC M')) args s 0 0 A) D vwCl A 10 0 0 (wk ad cI cZ cC M) 176 [(0, .ref (ad 0)), (1, .int x1), (2, .int x2), (3, .int x3), (4, .int x4), (5, .int x5), (6, .int x6), (7, .int x7), (8, .int x8)] [.int y0] := by
  unfold f_K_join_176 at hf
  refine gw_istore (lv' := [(9, .int y0), (0, .ref (ad 0)), (1, .int x1), (2, .int x2), (3, .int x3), (4, .int x4), (5, .int x5), (6, .int x6), (7, .int x7), (8, .int x8)]) C d_K_join_176 (by decide) rfl ?_
  refine gw_aload_n C 1 d_K_join_178 rfl rfl ?_
  refine gw_aload_n C 1 d_K_join_179 rfl rfl ?_
  refine gw_get C in_K 0 wkg_0 clg_5 3 (by decide) tw_689 rfl rfl d_K_join_180 ?_
  refine gw_iload C 5 d_K_join_183 rfl ?_
  refine gw_iload C 8 d_K_join_185 rfl ?_
  refine gw_iload C 5 d_K_join_187 rfl ?_
  refine gw_iload_n C 4 d_K_join_189 rfl rfl ?_
  refine gw_icmp_ne (tgt := 211) C d_K_join_190 (by decide) (fun c => ?_) (fun c => ?_)
  · have hf := (if_neg c).symm.trans hf
    refine gw_iload C 6 d_K_join_211 rfl ?_
    refine gw_if_eq (tgt := 221) C d_K_join_213 (by decide) (fun c => ?_) (fun c => ?_)
    · have hf := (if_pos c).symm.trans hf
      exact gw_sub [1, 2, 3, 4, 5, 6, 7, 8, 0] rfl (g_K_join_221 C hk73 hk124 hf)
    · have hf := (if_neg c).symm.trans hf
      refine gw_iload C 9 d_K_join_216 rfl ?_
      refine gw_if_eq (tgt := 235) C d_K_join_218 (by decide) (fun c => ?_) (fun c => ?_)
      · have hf := (if_pos c).symm.trans hf
        refine gw_iconst (v := (0 : Int32)) C d_K_join_235 (by decide) ?_
        exact gw_sub [1, 2, 3, 4, 5, 6, 7, 8] rfl (g_K_join_236 C hk73 hk124 hf)
      · have hf := (if_neg c).symm.trans hf
        exact gw_sub [1, 2, 3, 4, 5, 6, 7, 8, 0] rfl (g_K_join_221 C hk73 hk124 hf)
  · have hf := (if_pos c).symm.trans hf
    refine gw_iload C 9 d_K_join_193 rfl ?_
    refine gw_if_ne (tgt := 203) C d_K_join_195 (by decide) (fun c => ?_) (fun c => ?_)
    · have hf := (if_neg c).symm.trans hf
      refine gw_iconst (v := (1 : Int32)) C d_K_join_203 (by decide) ?_
      refine gw_goto (tgt := 236) C d_K_join_204 (by decide) ?_
      exact gw_sub [1, 2, 3, 4, 5, 6, 7, 8] rfl (g_K_join_236 C hk73 hk124 hf)
    · have hf := (if_pos c).symm.trans hf
      refine gw_iload C 0 d_K_join_198 rfl ?_
      refine gw_if_eq (tgt := 207) C d_K_join_200 (by decide) (fun c => ?_) (fun c => ?_)
      · have hf := (if_pos c).symm.trans hf
        refine gw_iconst (v := (0 : Int32)) C d_K_join_207 (by decide) ?_
        refine gw_goto (tgt := 236) C d_K_join_208 (by decide) ?_
        exact gw_sub [1, 2, 3, 4, 5, 6, 7, 8] rfl (g_K_join_236 C hk73 hk124 hf)
      · have hf := (if_neg c).symm.trans hf
        refine gw_iconst (v := (1 : Int32)) C d_K_join_203 (by decide) ?_
        refine gw_goto (tgt := 236) C d_K_join_204 (by decide) ?_
        exact gw_sub [1, 2, 3, 4, 5, 6, 7, 8] rfl (g_K_join_236 C hk73 hk124 hf)
def f_K_join_152 (k73 : Int32 → Int32 → Int32 → Int32 → Mem → Option (Int32 × Mem)) (k124 : Int32 → Int32 → Int32 → Int32 → Int32 → Int32 → Int32 → Mem → Option (Int32 × Mem)) (x1 : Int32) (x2 : Int32) (x3 : Int32) (x4 : Int32) (x5 : Int32) (x6 : Int32) (x7 : Int32) (y0 : Int32) (M : Mem) : Option (Int32 × Mem) :=
  if x6 = 0 then f_K_join_176 k73 k124 x1 x2 x3 x4 x5 x6 x7 y0 (0 : Int32) M else ob (f_K_isSaid x2 x4 x7 M) fun r165 M165 => if r165 = 0 then f_K_join_176 k73 k124 x1 x2 x3 x4 x5 x6 x7 y0 (0 : Int32) M165 else f_K_join_176 k73 k124 x1 x2 x3 x4 x5 x6 x7 y0 (1 : Int32) M165
set_option maxRecDepth 100000 in
theorem g_K_join_152 {r : Int32} {M' : Mem} (C : GC p s m args meth c b_K_join 10 (some (FieldType.int)) "NoneWordsModel" TB D vwCl (tysW cI cZ cC) A Z) {k73 : Int32 → Int32 → Int32 → Int32 → Mem → Option (Int32 × Mem)} (hk73 : ∀ (x1 : Int32) (x2 : Int32) (x3 : Int32) (x4 : Int32) (M : Mem), k73 x1 x2 x3 x4 M = some (r, M') → GW p l e rm_K_join s m args below meth c (MQ below (QW D vwCl (tysW cI cZ cC) A (some (.int r)) (wk ad cI cZ cC M')) args s 0 0 A) D vwCl A 10 0 0 (wk ad cI cZ cC M) 73 [(0, .ref (ad 0)), (1, .int x1), (2, .int x2), (3, .int x3), (4, .int x4)] []) {k124 : Int32 → Int32 → Int32 → Int32 → Int32 → Int32 → Int32 → Mem → Option (Int32 × Mem)} (hk124 : ∀ (x1 : Int32) (x2 : Int32) (x3 : Int32) (x4 : Int32) (x5 : Int32) (x6 : Int32) (x7 : Int32) (M : Mem), k124 x1 x2 x3 x4 x5 x6 x7 M = some (r, M') → GW p l e rm_K_join s m args below meth c (MQ below (QW D vwCl (tysW cI cZ cC) A (some (.int r)) (wk ad cI cZ cC M')) args s 0 0 A) D vwCl A 10 0 0 (wk ad cI cZ cC M) 124 [(0, .ref (ad 0)), (1, .int x1), (2, .int x2), (3, .int x3), (4, .int x4), (5, .int x5), (6, .int x6), (7, .int x7)] []) {x1 : Int32} {x2 : Int32} {x3 : Int32} {x4 : Int32} {x5 : Int32} {x6 : Int32} {x7 : Int32} {y0 : Int32} {M : Mem} (hf : f_K_join_152 k73 k124 x1 x2 x3 x4 x5 x6 x7 y0 M = some (r, M')) : GW p l e rm_K_join s m args below meth c (MQ below (QW D vwCl (tysW cI cZ cC) A (some (.int r)) (wk ad cI cZ cC M')) args s 0 0 A) D vwCl A 10 0 0 (wk ad cI cZ cC M) 152 [(0, .ref (ad 0)), (1, .int x1), (2, .int x2), (3, .int x3), (4, .int x4), (5, .int x5), (6, .int x6), (7, .int x7)] [.int y0] := by
  unfold f_K_join_152 at hf
  refine gw_istore (lv' := [(8, .int y0), (0, .ref (ad 0)), (1, .int x1), (2, .int x2), (3, .int x3), (4, .int x4), (5, .int x5), (6, .int x6), (7, .int x7)]) C d_K_join_152 (by decide) rfl ?_
  refine gw_iload C 7 d_K_join_154 rfl ?_
  refine gw_if_eq (tgt := 175) C d_K_join_156 (by decide) (fun c => ?_) (fun c => ?_)
  · have hf := (if_pos c).symm.trans hf
    refine gw_iconst (v := (0 : Int32)) C d_K_join_175 (by decide) ?_
    exact gw_sub [1, 2, 3, 4, 5, 6, 7, 8, 0] rfl (g_K_join_176 C hk73 hk124 hf)
  · have hf := (if_neg c).symm.trans hf
    refine gw_aload_n C 1 d_K_join_159 rfl rfl ?_
    refine gw_iload_n C 3 d_K_join_160 rfl rfl ?_
    refine gw_iload C 5 d_K_join_161 rfl ?_
    refine gw_iload C 8 d_K_join_163 rfl ?_
    obtain ⟨r165, M165, hc165, hf⟩ := ob_some hf
    refine gw_callVr (rest := []) C 0 wkg_0 clg_5 (c_K_isSaid C.2.2.2.2.2.2.2.2.2.2 hc165) (cwV 3 C.2.2.2.2.1 (gTB_V tw_806 mv_K_isSaid) rfl rfl rfl pd_K_isSaid ⟨Nat.le_of_ble_eq_true rfl, Nat.le_of_ble_eq_true rfl⟩) rfl rfl (Nat.le_of_ble_eq_true rfl) d_K_join_165 ⟨Nat.le_of_ble_eq_true rfl, Nat.le_of_ble_eq_true rfl⟩ ?_
    refine gw_if_eq (tgt := 175) C d_K_join_168 (by decide) (fun c => ?_) (fun c => ?_)
    · have hf := (if_pos c).symm.trans hf
      refine gw_iconst (v := (0 : Int32)) C d_K_join_175 (by decide) ?_
      exact gw_sub [1, 2, 3, 4, 5, 6, 7, 8, 0] rfl (g_K_join_176 C hk73 hk124 hf)
    · have hf := (if_neg c).symm.trans hf
      refine gw_iconst (v := (1 : Int32)) C d_K_join_171 (by decide) ?_
      refine gw_goto (tgt := 176) C d_K_join_172 (by decide) ?_
      exact gw_sub [1, 2, 3, 4, 5, 6, 7, 8, 0] rfl (g_K_join_176 C hk73 hk124 hf)
def f_K_join_124 (k73 : Int32 → Int32 → Int32 → Int32 → Mem → Option (Int32 × Mem)) : Nat → Int32 → Int32 → Int32 → Int32 → Int32 → Int32 → Int32 → Mem → Option (Int32 × Mem)
  | 0, _, _, _, _, _, _, _, _ => none
  | n + 1, x1, x2, x3, x4, x5, x6, x7, M => if (4 : Int32) ≤ x7 then om (f_K_keep (M 0 3) x4 M) fun M252 => k73 x1 x2 x3 (x4 + (1 : Int32)) M252 else if x5 = 0 then f_K_join_152 k73 (f_K_join_124 k73 n) x1 x2 x3 x4 x5 x6 x7 (0 : Int32) M else ob (f_K_isSaid x1 x4 x7 M) fun r141 M141 => if r141 = 0 then f_K_join_152 k73 (f_K_join_124 k73 n) x1 x2 x3 x4 x5 x6 x7 (0 : Int32) M141 else f_K_join_152 k73 (f_K_join_124 k73 n) x1 x2 x3 x4 x5 x6 x7 (1 : Int32) M141
set_option maxRecDepth 100000 in
theorem g_K_join_124 {r : Int32} {M' : Mem} (C : GC p s m args meth c b_K_join 10 (some (FieldType.int)) "NoneWordsModel" TB D vwCl (tysW cI cZ cC) A Z) {k73 : Int32 → Int32 → Int32 → Int32 → Mem → Option (Int32 × Mem)} (hk73 : ∀ (x1 : Int32) (x2 : Int32) (x3 : Int32) (x4 : Int32) (M : Mem), k73 x1 x2 x3 x4 M = some (r, M') → GW p l e rm_K_join s m args below meth c (MQ below (QW D vwCl (tysW cI cZ cC) A (some (.int r)) (wk ad cI cZ cC M')) args s 0 0 A) D vwCl A 10 0 0 (wk ad cI cZ cC M) 73 [(0, .ref (ad 0)), (1, .int x1), (2, .int x2), (3, .int x3), (4, .int x4)] []) : ∀ (n : Nat) (x1 : Int32) (x2 : Int32) (x3 : Int32) (x4 : Int32) (x5 : Int32) (x6 : Int32) (x7 : Int32) (M : Mem), f_K_join_124 k73 n x1 x2 x3 x4 x5 x6 x7 M = some (r, M') → GW p l e rm_K_join s m args below meth c (MQ below (QW D vwCl (tysW cI cZ cC) A (some (.int r)) (wk ad cI cZ cC M')) args s 0 0 A) D vwCl A 10 0 0 (wk ad cI cZ cC M) 124 [(0, .ref (ad 0)), (1, .int x1), (2, .int x2), (3, .int x3), (4, .int x4), (5, .int x5), (6, .int x6), (7, .int x7)] [] := by
  intro n
  induction n with
  | zero => intro _ _ _ _ _ _ _ _ hf; cases hf
  | succ n ih =>
    intro x1 x2 x3 x4 x5 x6 x7 M hf
    rw [f_K_join_124] at hf
    refine gw_iload C 7 d_K_join_124 rfl ?_
    refine gw_iconst (v := (4 : Int32)) C d_K_join_126 (by decide) ?_
    refine gw_icmp_ge (tgt := 245) C d_K_join_127 (by decide) (fun c => ?_) (fun c => ?_)
    · have hf := (if_pos c).symm.trans hf
      refine gw_aload_n C 0 d_K_join_245 rfl rfl ?_
      refine gw_aload_n C 0 d_K_join_246 rfl rfl ?_
      refine gw_get C in_K 0 wkg_0 clg_5 3 (by decide) tw_689 rfl rfl d_K_join_247 ?_
      refine gw_iload C 4 d_K_join_250 rfl ?_
      obtain ⟨M252, hc252, hf⟩ := om_some hf
      refine gw_callVv (rest := []) C 0 wkg_0 clg_5 (c_K_keep C.2.2.2.2.2.2.2.2.2.2 hc252) (cwV 2 C.2.2.2.2.1 (gTB_V tw_802 mv_K_keep) rfl rfl rfl pd_K_keep ⟨Nat.le_of_ble_eq_true rfl, Nat.le_of_ble_eq_true rfl⟩) rfl rfl (Nat.le_of_ble_eq_true rfl) d_K_join_252 ⟨Nat.le_of_ble_eq_true rfl, Nat.le_of_ble_eq_true rfl⟩ ?_
      refine gw_iinc (v := x4 + (1 : Int32)) (lv' := [(4, .int (x4 + (1 : Int32))), (0, .ref (ad 0)), (1, .int x1), (2, .int x2), (3, .int x3), (5, .int x5), (6, .int x6), (7, .int x7)]) C 4 d_K_join_255 rfl rfl (by decide) rfl ?_
      refine gw_goto (tgt := 73) C d_K_join_258 (by decide) ?_
      exact gw_sub [1, 2, 3, 4, 0] rfl (hk73 _ _ _ _ _ hf)
    · have hf := (if_neg c).symm.trans hf
      refine gw_iload C 5 d_K_join_130 rfl ?_
      refine gw_if_eq (tgt := 151) C d_K_join_132 (by decide) (fun c => ?_) (fun c => ?_)
      · have hf := (if_pos c).symm.trans hf
        refine gw_iconst (v := (0 : Int32)) C d_K_join_151 (by decide) ?_
        exact gw_sub [0, 1, 2, 3, 4, 5, 6, 7] rfl (g_K_join_152 C hk73 ih hf)
      · have hf := (if_neg c).symm.trans hf
        refine gw_aload_n C 0 d_K_join_135 rfl rfl ?_
        refine gw_iload_n C 1 d_K_join_136 rfl rfl ?_
        refine gw_iload C 4 d_K_join_137 rfl ?_
        refine gw_iload C 7 d_K_join_139 rfl ?_
        obtain ⟨r141, M141, hc141, hf⟩ := ob_some hf
        refine gw_callVr (rest := []) C 0 wkg_0 clg_5 (c_K_isSaid C.2.2.2.2.2.2.2.2.2.2 hc141) (cwV 3 C.2.2.2.2.1 (gTB_V tw_806 mv_K_isSaid) rfl rfl rfl pd_K_isSaid ⟨Nat.le_of_ble_eq_true rfl, Nat.le_of_ble_eq_true rfl⟩) rfl rfl (Nat.le_of_ble_eq_true rfl) d_K_join_141 ⟨Nat.le_of_ble_eq_true rfl, Nat.le_of_ble_eq_true rfl⟩ ?_
        refine gw_if_eq (tgt := 151) C d_K_join_144 (by decide) (fun c => ?_) (fun c => ?_)
        · have hf := (if_pos c).symm.trans hf
          refine gw_iconst (v := (0 : Int32)) C d_K_join_151 (by decide) ?_
          exact gw_sub [0, 1, 2, 3, 4, 5, 6, 7] rfl (g_K_join_152 C hk73 ih hf)
        · have hf := (if_neg c).symm.trans hf
          refine gw_iconst (v := (1 : Int32)) C d_K_join_147 (by decide) ?_
          refine gw_goto (tgt := 152) C d_K_join_148 (by decide) ?_
          exact gw_sub [0, 1, 2, 3, 4, 5, 6, 7] rfl (g_K_join_152 C hk73 ih hf)
def f_K_join_73 : Nat → Int32 → Int32 → Int32 → Int32 → Mem → Option (Int32 × Mem)
  | 0, _, _, _, _, _ => none
  | n + 1, x1, x2, x3, x4, M => if (M 0 2) ≤ x4 then gd (inb (M 0 3) 120) (gd (inb ((ms M 2 (M 0 3).toNatClampNeg (4 : Int32)) 0 3) 120) (gd (inb ((ms (ms M 2 (M 0 3).toNatClampNeg (4 : Int32)) 3 ((ms M 2 (M 0 3).toNatClampNeg (4 : Int32)) 0 3).toNatClampNeg x1) 0 3) 120) (some (((ms (ms (ms (ms M 2 (M 0 3).toNatClampNeg (4 : Int32)) 3 ((ms M 2 (M 0 3).toNatClampNeg (4 : Int32)) 0 3).toNatClampNeg x1) 5 ((ms (ms M 2 (M 0 3).toNatClampNeg (4 : Int32)) 3 ((ms M 2 (M 0 3).toNatClampNeg (4 : Int32)) 0 3).toNatClampNeg x1) 0 3).toNatClampNeg x2) 0 3 (((ms (ms (ms M 2 (M 0 3).toNatClampNeg (4 : Int32)) 3 ((ms M 2 (M 0 3).toNatClampNeg (4 : Int32)) 0 3).toNatClampNeg x1) 5 ((ms (ms M 2 (M 0 3).toNatClampNeg (4 : Int32)) 3 ((ms M 2 (M 0 3).toNatClampNeg (4 : Int32)) 0 3).toNatClampNeg x1) 0 3).toNatClampNeg x2) 0 3) + (1 : Int32))) 0 3) - (1 : Int32), ms (ms (ms (ms M 2 (M 0 3).toNatClampNeg (4 : Int32)) 3 ((ms M 2 (M 0 3).toNatClampNeg (4 : Int32)) 0 3).toNatClampNeg x1) 5 ((ms (ms M 2 (M 0 3).toNatClampNeg (4 : Int32)) 3 ((ms M 2 (M 0 3).toNatClampNeg (4 : Int32)) 0 3).toNatClampNeg x1) 0 3).toNatClampNeg x2) 0 3 (((ms (ms (ms M 2 (M 0 3).toNatClampNeg (4 : Int32)) 3 ((ms M 2 (M 0 3).toNatClampNeg (4 : Int32)) 0 3).toNatClampNeg x1) 5 ((ms (ms M 2 (M 0 3).toNatClampNeg (4 : Int32)) 3 ((ms M 2 (M 0 3).toNatClampNeg (4 : Int32)) 0 3).toNatClampNeg x1) 0 3).toNatClampNeg x2) 0 3) + (1 : Int32)))))) else ob (f_K_place x1 x4 M) fun r89 M89 => gd (inb r89 600) (ob (f_K_place x2 x4 M89) fun r102 M102 => gd (inb r102 600) (if (M89 7 r89.toNatClampNeg) = 0 then if (M102 7 r102.toNatClampNeg) = 0 then (f_K_join_73 n) x1 x2 x3 (x4 + (1 : Int32)) M102 else f_K_join_124 (f_K_join_73 n) 100000 x1 x2 x3 x4 (M89 7 r89.toNatClampNeg) (M102 7 r102.toNatClampNeg) (-1 : Int32) M102 else f_K_join_124 (f_K_join_73 n) 100000 x1 x2 x3 x4 (M89 7 r89.toNatClampNeg) (M102 7 r102.toNatClampNeg) (-1 : Int32) M102))
set_option maxRecDepth 100000 in
theorem g_K_join_73 {r : Int32} {M' : Mem} (C : GC p s m args meth c b_K_join 10 (some (FieldType.int)) "NoneWordsModel" TB D vwCl (tysW cI cZ cC) A Z) : ∀ (n : Nat) (x1 : Int32) (x2 : Int32) (x3 : Int32) (x4 : Int32) (M : Mem), f_K_join_73 n x1 x2 x3 x4 M = some (r, M') → GW p l e rm_K_join s m args below meth c (MQ below (QW D vwCl (tysW cI cZ cC) A (some (.int r)) (wk ad cI cZ cC M')) args s 0 0 A) D vwCl A 10 0 0 (wk ad cI cZ cC M) 73 [(0, .ref (ad 0)), (1, .int x1), (2, .int x2), (3, .int x3), (4, .int x4)] [] := by
  intro n
  induction n with
  | zero => intro _ _ _ _ _ hf; cases hf
  | succ n ih =>
    intro x1 x2 x3 x4 M hf
    rw [f_K_join_73] at hf
    refine gw_iload C 4 d_K_join_73 rfl ?_
    refine gw_aload_n C 0 d_K_join_75 rfl rfl ?_
    refine gw_get C in_K 0 wkg_0 clg_5 2 (by decide) tw_688 rfl rfl d_K_join_76 ?_
    refine gw_icmp_ge (tgt := 261) C d_K_join_79 (by decide) (fun c => ?_) (fun c => ?_)
    · have hf := (if_pos c).symm.trans hf
      refine gw_aload_n C 0 d_K_join_261 rfl rfl ?_
      refine gw_get C in_K 0 wkg_0 clg_5 4 (by decide) tw_690 rfl rfl d_K_join_262 ?_
      refine gw_aload_n C 0 d_K_join_265 rfl rfl ?_
      refine gw_get C in_K 0 wkg_0 clg_5 3 (by decide) tw_689 rfl rfl d_K_join_266 ?_
      refine gw_iconst (v := (4 : Int32)) C d_K_join_269 (by decide) ?_
      obtain ⟨hb270, hf⟩ := gd_some hf
      refine gw_iast C 2 0 wkg_2 rfl hb270 d_K_join_270 wka_2 ?_
      refine gw_aload_n C 0 d_K_join_271 rfl rfl ?_
      refine gw_get C in_K 0 wkg_0 clg_5 5 (by decide) tw_691 rfl rfl d_K_join_272 ?_
      refine gw_aload_n C 0 d_K_join_275 rfl rfl ?_
      refine gw_get C in_K 0 wkg_0 clg_5 3 (by decide) tw_689 rfl rfl d_K_join_276 ?_
      refine gw_iload_n C 1 d_K_join_279 rfl rfl ?_
      obtain ⟨hb280, hf⟩ := gd_some hf
      refine gw_iast C 3 0 wkg_3 rfl hb280 d_K_join_280 wka_3 ?_
      refine gw_aload_n C 0 d_K_join_281 rfl rfl ?_
      refine gw_get C in_K 0 wkg_0 clg_5 7 (by decide) tw_693 rfl rfl d_K_join_282 ?_
      refine gw_aload_n C 0 d_K_join_285 rfl rfl ?_
      refine gw_get C in_K 0 wkg_0 clg_5 3 (by decide) tw_689 rfl rfl d_K_join_286 ?_
      refine gw_iload_n C 2 d_K_join_289 rfl rfl ?_
      obtain ⟨hb290, hf⟩ := gd_some hf
      refine gw_iast C 5 0 wkg_5 rfl hb290 d_K_join_290 wka_5 ?_
      refine gw_aload_n C 0 d_K_join_291 rfl rfl ?_
      refine gw_dup C d_K_join_292 rfl ?_
      refine gw_get C in_K 0 wkg_0 clg_5 3 (by decide) tw_689 rfl rfl d_K_join_293 ?_
      refine gw_iconst (v := (1 : Int32)) C d_K_join_296 (by decide) ?_
      refine gw_iadd C d_K_join_297 ?_
      refine gw_put C in_K ty_K tk_K nm_K 0 wkg_0 clg_5 3 (by decide) tw_689 rfl rfl rfl rfl (Nat.le_of_ble_eq_true rfl) d_K_join_298 wkf_0_3 ?_
      refine gw_aload_n C 0 d_K_join_301 rfl rfl ?_
      refine gw_get C in_K 0 wkg_0 clg_5 3 (by decide) tw_689 rfl rfl d_K_join_302 ?_
      refine gw_iconst (v := (1 : Int32)) C d_K_join_305 (by decide) ?_
      refine gw_isub C d_K_join_306 ?_
      exact gw_ireti C d_K_join_307 (wk ad cI cZ cC) hf
    · have hf := (if_neg c).symm.trans hf
      refine gw_aload_n C 0 d_K_join_82 rfl rfl ?_
      refine gw_get C in_K 0 wkg_0 clg_5 9 (by decide) tw_695 rfl rfl d_K_join_83 ?_
      refine gw_iload_n C 1 d_K_join_86 rfl rfl ?_
      refine gw_iload C 4 d_K_join_87 rfl ?_
      obtain ⟨r89, M89, hc89, hf⟩ := ob_some hf
      refine gw_callSr (rest := [.ref (ad 7)]) C (c_K_place C.2.2.2.2.2.2.2.2.2.2 hc89) (cwS 2 C.2.2.2.2.1 (gTB_S tw_787 mv_K_place) rfl rfl rfl pd_K_place ⟨Nat.le_of_ble_eq_true rfl, Nat.le_of_ble_eq_true rfl⟩) rfl rfl (Nat.le_of_ble_eq_true rfl) d_K_join_89 ⟨Nat.le_of_ble_eq_true rfl, Nat.le_of_ble_eq_true rfl⟩ ?_
      obtain ⟨hb92, hf⟩ := gd_some hf
      refine gw_zald C 7 1 wkg_7 rfl hb92 d_K_join_92 ?_
      refine gw_istore (lv' := [(5, .int (M89 7 r89.toNatClampNeg)), (0, .ref (ad 0)), (1, .int x1), (2, .int x2), (3, .int x3), (4, .int x4)]) C d_K_join_93 (by decide) rfl ?_
      refine gw_aload_n C 1 d_K_join_95 rfl rfl ?_
      refine gw_get C in_K 0 wkg_0 clg_5 9 (by decide) tw_695 rfl rfl d_K_join_96 ?_
      refine gw_iload_n C 3 d_K_join_99 rfl rfl ?_
      refine gw_iload C 5 d_K_join_100 rfl ?_
      obtain ⟨r102, M102, hc102, hf⟩ := ob_some hf
      refine gw_callSr (rest := [.ref (ad 7)]) C (c_K_place C.2.2.2.2.2.2.2.2.2.2 hc102) (cwS 2 C.2.2.2.2.1 (gTB_S tw_787 mv_K_place) rfl rfl rfl pd_K_place ⟨Nat.le_of_ble_eq_true rfl, Nat.le_of_ble_eq_true rfl⟩) rfl rfl (Nat.le_of_ble_eq_true rfl) d_K_join_102 ⟨Nat.le_of_ble_eq_true rfl, Nat.le_of_ble_eq_true rfl⟩ ?_
      obtain ⟨hb105, hf⟩ := gd_some hf
      refine gw_zald C 7 1 wkg_7 rfl hb105 d_K_join_105 ?_
      refine gw_istore (lv' := [(6, .int (M102 7 r102.toNatClampNeg)), (5, .int (M89 7 r89.toNatClampNeg)), (0, .ref (ad 0)), (1, .int x1), (2, .int x2), (3, .int x3), (4, .int x4)]) C d_K_join_106 (by decide) rfl ?_
      refine gw_iload C 1 d_K_join_108 rfl ?_
      refine gw_if_ne (tgt := 121) C d_K_join_110 (by decide) (fun c => ?_) (fun c => ?_)
      · have hf := (if_neg c).symm.trans hf
        refine gw_iconst (v := (-1 : Int32)) C d_K_join_121 (by decide) ?_
        refine gw_istore (lv' := [(7, .int (-1 : Int32)), (6, .int (M102 7 r102.toNatClampNeg)), (5, .int (M89 7 r89.toNatClampNeg)), (0, .ref (ad 0)), (1, .int x1), (2, .int x2), (3, .int x3), (4, .int x4)]) C d_K_join_122 (by decide) rfl ?_
        exact gw_sub [3, 4, 5, 6, 7, 2, 1, 0] rfl (g_K_join_124 C ih _ _ _ _ _ _ _ _ _ hf)
      · have hf := (if_pos c).symm.trans hf
        refine gw_iload C 0 d_K_join_113 rfl ?_
        refine gw_if_ne (tgt := 121) C d_K_join_115 (by decide) (fun c => ?_) (fun c => ?_)
        · have hf := (if_neg c).symm.trans hf
          refine gw_iconst (v := (-1 : Int32)) C d_K_join_121 (by decide) ?_
          refine gw_istore (lv' := [(7, .int (-1 : Int32)), (6, .int (M102 7 r102.toNatClampNeg)), (5, .int (M89 7 r89.toNatClampNeg)), (0, .ref (ad 0)), (1, .int x1), (2, .int x2), (3, .int x3), (4, .int x4)]) C d_K_join_122 (by decide) rfl ?_
          exact gw_sub [3, 4, 5, 6, 7, 2, 1, 0] rfl (g_K_join_124 C ih _ _ _ _ _ _ _ _ _ hf)
        · have hf := (if_pos c).symm.trans hf
          refine gw_goto (tgt := 255) C d_K_join_118 (by decide) ?_
          refine gw_iinc (v := x4 + (1 : Int32)) (lv' := [(4, .int (x4 + (1 : Int32))), (6, .int (M102 7 r102.toNatClampNeg)), (5, .int (M89 7 r89.toNatClampNeg)), (0, .ref (ad 0)), (1, .int x1), (2, .int x2), (3, .int x3)]) C 6 d_K_join_255 rfl rfl (by decide) rfl ?_
          refine gw_goto (tgt := 73) C d_K_join_258 (by decide) ?_
          exact gw_sub [3, 4, 5, 6, 0] rfl (ih _ _ _ _ _ hf)
def f_K_join (x1 : Int32) (x2 : Int32) (x3 : Int32) (M : Mem) : Option (Int32 × Mem) :=
  ob (f_K_isNode x1 (ms M 0 0 (0 : Int32))) fun r7 M7 => if r7 = 0 then some ((-1 : Int32), M7) else ob (f_K_isNode x2 M7) fun r15 M15 => if r15 = 0 then some ((-1 : Int32), M15) else ob (f_K_isName x3 M15) fun r23 M23 => if r23 = 0 then some ((-1 : Int32), M23) else ob (f_K_place x1 x3 M23) fun r35 M35 => gd (inb r35 600) (if (M35 7 r35.toNatClampNeg) = 0 then some ((-1 : Int32), M35) else ob (f_K_place x2 x3 M35) fun r48 M48 => gd (inb r48 600) (if (M48 7 r48.toNatClampNeg) = 0 then some ((-1 : Int32), M48) else if (M48 0 3) = (120 : Int32) then some ((-1 : Int32), M48) else om (f_K_clear M48) fun M67 => f_K_join_73 100000 x1 x2 x3 (0 : Int32) M67))
set_option maxRecDepth 100000 in
theorem g_K_join {r : Int32} {M' : Mem} (C : GC p s m args meth c b_K_join 10 (some (FieldType.int)) "NoneWordsModel" TB D vwCl (tysW cI cZ cC) A Z) {x1 : Int32} {x2 : Int32} {x3 : Int32} {M : Mem} (hf : f_K_join x1 x2 x3 M = some (r, M')) : GW p l e rm_K_join s m args below meth c (MQ below (QW D vwCl (tysW cI cZ cC) A (some (.int r)) (wk ad cI cZ cC M')) args s 0 0 A) D vwCl A 10 0 0 (wk ad cI cZ cC M) 0 [(0, .ref (ad 0)), (1, .int x1), (2, .int x2), (3, .int x3)] [] := by
  unfold f_K_join at hf
  refine gw_aload_n C 0 d_K_join_0 rfl rfl ?_
  refine gw_iconst (v := (0 : Int32)) C d_K_join_1 (by decide) ?_
  refine gw_put C in_K ty_K tk_K nm_K 0 wkg_0 clg_5 0 (by decide) tw_686 rfl rfl rfl rfl (Nat.le_of_ble_eq_true rfl) d_K_join_2 wkf_0_0 ?_
  refine gw_aload_n C 0 d_K_join_5 rfl rfl ?_
  refine gw_iload_n C 1 d_K_join_6 rfl rfl ?_
  obtain ⟨r7, M7, hc7, hf⟩ := ob_some hf
  refine gw_callVr (rest := []) C 0 wkg_0 clg_5 (c_K_isNode C.2.2.2.2.2.2.2.2.2.2 hc7) (cwV 1 C.2.2.2.2.1 (gTB_V tw_814 mv_K_isNode) rfl rfl rfl pd_K_isNode ⟨Nat.le_of_ble_eq_true rfl, Nat.le_of_ble_eq_true rfl⟩) rfl rfl (Nat.le_of_ble_eq_true rfl) d_K_join_7 ⟨Nat.le_of_ble_eq_true rfl, Nat.le_of_ble_eq_true rfl⟩ ?_
  refine gw_if_eq (tgt := 64) C d_K_join_10 (by decide) (fun c => ?_) (fun c => ?_)
  · have hf := (if_pos c).symm.trans hf
    refine gw_iconst (v := (-1 : Int32)) C d_K_join_64 (by decide) ?_
    exact gw_ireti C d_K_join_65 (wk ad cI cZ cC) hf
  · have hf := (if_neg c).symm.trans hf
    refine gw_aload_n C 0 d_K_join_13 rfl rfl ?_
    refine gw_iload_n C 2 d_K_join_14 rfl rfl ?_
    obtain ⟨r15, M15, hc15, hf⟩ := ob_some hf
    refine gw_callVr (rest := []) C 0 wkg_0 clg_5 (c_K_isNode C.2.2.2.2.2.2.2.2.2.2 hc15) (cwV 1 C.2.2.2.2.1 (gTB_V tw_814 mv_K_isNode) rfl rfl rfl pd_K_isNode ⟨Nat.le_of_ble_eq_true rfl, Nat.le_of_ble_eq_true rfl⟩) rfl rfl (Nat.le_of_ble_eq_true rfl) d_K_join_15 ⟨Nat.le_of_ble_eq_true rfl, Nat.le_of_ble_eq_true rfl⟩ ?_
    refine gw_if_eq (tgt := 64) C d_K_join_18 (by decide) (fun c => ?_) (fun c => ?_)
    · have hf := (if_pos c).symm.trans hf
      refine gw_iconst (v := (-1 : Int32)) C d_K_join_64 (by decide) ?_
      exact gw_ireti C d_K_join_65 (wk ad cI cZ cC) hf
    · have hf := (if_neg c).symm.trans hf
      refine gw_aload_n C 0 d_K_join_21 rfl rfl ?_
      refine gw_iload_n C 3 d_K_join_22 rfl rfl ?_
      obtain ⟨r23, M23, hc23, hf⟩ := ob_some hf
      refine gw_callVr (rest := []) C 0 wkg_0 clg_5 (c_K_isName C.2.2.2.2.2.2.2.2.2.2 hc23) (cwV 1 C.2.2.2.2.1 (gTB_V tw_779 mv_K_isName) rfl rfl rfl pd_K_isName ⟨Nat.le_of_ble_eq_true rfl, Nat.le_of_ble_eq_true rfl⟩) rfl rfl (Nat.le_of_ble_eq_true rfl) d_K_join_23 ⟨Nat.le_of_ble_eq_true rfl, Nat.le_of_ble_eq_true rfl⟩ ?_
      refine gw_if_eq (tgt := 64) C d_K_join_26 (by decide) (fun c => ?_) (fun c => ?_)
      · have hf := (if_pos c).symm.trans hf
        refine gw_iconst (v := (-1 : Int32)) C d_K_join_64 (by decide) ?_
        exact gw_ireti C d_K_join_65 (wk ad cI cZ cC) hf
      · have hf := (if_neg c).symm.trans hf
        refine gw_aload_n C 0 d_K_join_29 rfl rfl ?_
        refine gw_get C in_K 0 wkg_0 clg_5 9 (by decide) tw_695 rfl rfl d_K_join_30 ?_
        refine gw_iload_n C 1 d_K_join_33 rfl rfl ?_
        refine gw_iload_n C 3 d_K_join_34 rfl rfl ?_
        obtain ⟨r35, M35, hc35, hf⟩ := ob_some hf
        refine gw_callSr (rest := [.ref (ad 7)]) C (c_K_place C.2.2.2.2.2.2.2.2.2.2 hc35) (cwS 2 C.2.2.2.2.1 (gTB_S tw_787 mv_K_place) rfl rfl rfl pd_K_place ⟨Nat.le_of_ble_eq_true rfl, Nat.le_of_ble_eq_true rfl⟩) rfl rfl (Nat.le_of_ble_eq_true rfl) d_K_join_35 ⟨Nat.le_of_ble_eq_true rfl, Nat.le_of_ble_eq_true rfl⟩ ?_
        obtain ⟨hb38, hf⟩ := gd_some hf
        refine gw_zald C 7 1 wkg_7 rfl hb38 d_K_join_38 ?_
        refine gw_if_eq (tgt := 64) C d_K_join_39 (by decide) (fun c => ?_) (fun c => ?_)
        · have hf := (if_pos c).symm.trans hf
          refine gw_iconst (v := (-1 : Int32)) C d_K_join_64 (by decide) ?_
          exact gw_ireti C d_K_join_65 (wk ad cI cZ cC) hf
        · have hf := (if_neg c).symm.trans hf
          refine gw_aload_n C 0 d_K_join_42 rfl rfl ?_
          refine gw_get C in_K 0 wkg_0 clg_5 9 (by decide) tw_695 rfl rfl d_K_join_43 ?_
          refine gw_iload_n C 2 d_K_join_46 rfl rfl ?_
          refine gw_iload_n C 3 d_K_join_47 rfl rfl ?_
          obtain ⟨r48, M48, hc48, hf⟩ := ob_some hf
          refine gw_callSr (rest := [.ref (ad 7)]) C (c_K_place C.2.2.2.2.2.2.2.2.2.2 hc48) (cwS 2 C.2.2.2.2.1 (gTB_S tw_787 mv_K_place) rfl rfl rfl pd_K_place ⟨Nat.le_of_ble_eq_true rfl, Nat.le_of_ble_eq_true rfl⟩) rfl rfl (Nat.le_of_ble_eq_true rfl) d_K_join_48 ⟨Nat.le_of_ble_eq_true rfl, Nat.le_of_ble_eq_true rfl⟩ ?_
          obtain ⟨hb51, hf⟩ := gd_some hf
          refine gw_zald C 7 1 wkg_7 rfl hb51 d_K_join_51 ?_
          refine gw_if_eq (tgt := 64) C d_K_join_52 (by decide) (fun c => ?_) (fun c => ?_)
          · have hf := (if_pos c).symm.trans hf
            refine gw_iconst (v := (-1 : Int32)) C d_K_join_64 (by decide) ?_
            exact gw_ireti C d_K_join_65 (wk ad cI cZ cC) hf
          · have hf := (if_neg c).symm.trans hf
            refine gw_aload_n C 0 d_K_join_55 rfl rfl ?_
            refine gw_get C in_K 0 wkg_0 clg_5 3 (by decide) tw_689 rfl rfl d_K_join_56 ?_
            refine gw_bipush (v := (120 : Int32)) C d_K_join_59 (by decide) ?_
            refine gw_icmp_ne (tgt := 66) C d_K_join_61 (by decide) (fun c => ?_) (fun c => ?_)
            · have hf := (if_neg c).symm.trans hf
              refine gw_aload_n C 0 d_K_join_66 rfl rfl ?_
              obtain ⟨M67, hc67, hf⟩ := om_some hf
              refine gw_callVv (rest := []) C 0 wkg_0 clg_5 (c_K_clear C.2.2.2.2.2.2.2.2.2.2 hc67) (cwV 0 C.2.2.2.2.1 (gTB_V tw_783 mv_K_clear) rfl rfl rfl pd_K_clear ⟨Nat.le_of_ble_eq_true rfl, Nat.le_of_ble_eq_true rfl⟩) rfl rfl (Nat.le_of_ble_eq_true rfl) d_K_join_67 ⟨Nat.le_of_ble_eq_true rfl, Nat.le_of_ble_eq_true rfl⟩ ?_
              refine gw_iconst (v := (0 : Int32)) C d_K_join_70 (by decide) ?_
              refine gw_istore (lv' := [(4, .int (0 : Int32)), (0, .ref (ad 0)), (1, .int x1), (2, .int x2), (3, .int x3)]) C d_K_join_71 (by decide) rfl ?_
              exact gw_sub [1, 2, 3, 4, 0] rfl (g_K_join_73 C _ _ _ _ _ _ hf)
            · have hf := (if_pos c).symm.trans hf
              refine gw_iconst (v := (-1 : Int32)) C d_K_join_64 (by decide) ?_
              exact gw_ireti C d_K_join_65 (wk ad cI cZ cC) hf
theorem c_K_join (hZ : gw_ZOK Z) {x1 : Int32} {x2 : Int32} {x3 : Int32} {M : Mem} {r : Int32} {M' : Mem} (hf : f_K_join x1 x2 x3 M = some (r, M')) : CW l y_K_join ws_K_join rm_K_join D vwCl (tysW cI cZ cC) Z [.ref (ad 0), .int x1, .int x2, .int x3] (wk ad cI cZ cC M) (some (.int r)) (wk ad cI cZ cC M') 0 0 :=
  CW.ofG hZ (by decide) rfl (Nat.le_of_ble_eq_true rfl) (fun _ _ _ _ _ _ _ _ C _ => g_K_join C hf)
abbrev b_K_isWanted : ByteArray := prog_7_method_15_code
def y_K_isWanted : MethodName := ⟨"NoneWordsModel", "isWanted", "(II)Z"⟩
abbrev ws_K_isWanted : List Cond := Cond.code y_K_isWanted b_K_isWanted 3 (some (FieldType.boolean)) :: TB
set_option maxRecDepth 100000 in
theorem tc_K_isWanted : Cond.code y_K_isWanted b_K_isWanted 3 (some (FieldType.boolean)) ∈ TB := inTB 837 rfl rfl
theorem mv_K_isWanted : Cond.instanceMethod y_K_isWanted ∈ TB ∧ Cond.selects "NoneWordsModel" y_K_isWanted y_K_isWanted ∈ TB ∧ Cond.initialized "NoneWordsModel" ∈ TB ∧ Cond.code y_K_isWanted b_K_isWanted 3 (some (FieldType.boolean)) ∈ TB := ⟨inTB 836 (by decide +kernel) (by decide +kernel), inTB 36 (by decide +kernel) (by decide +kernel), inTB 71 (by decide +kernel) (by decide +kernel), tc_K_isWanted⟩
theorem pd_K_isWanted : y_K_isWanted.cls = "NoneWordsModel" ∧ y_K_isWanted.cls ≠ "java/lang/invoke/MethodHandle" ∧ y_K_isWanted.cls ≠ "java/lang/invoke/VarHandle" ∧ (parseMethodDescriptor y_K_isWanted.desc).map (fun d => d.parameters.length) = some 2 := by decide +kernel
theorem d_K_isWanted_0 : decode b_K_isWanted 0 = .ok (.aload_n 0, 1) := by decide +kernel
theorem d_K_isWanted_1 : decode b_K_isWanted 1 = .ok (.iload_n 1, 1) := by decide +kernel
theorem d_K_isWanted_2 : decode b_K_isWanted 2 = .ok (.iload_n 2, 1) := by decide +kernel
theorem d_K_isWanted_3 : decode b_K_isWanted 3 = .ok (.iconst (-1), 1) := by decide +kernel
theorem d_K_isWanted_4 : decode b_K_isWanted 4 = .ok (.invokevirtual 86, 3) := by decide +kernel
theorem d_K_isWanted_7 : decode b_K_isWanted 7 = .ok (.ifCond .ne 7, 3) := by decide +kernel
theorem d_K_isWanted_10 : decode b_K_isWanted 10 = .ok (.iconst 1, 1) := by decide +kernel
theorem d_K_isWanted_11 : decode b_K_isWanted 11 = .ok (.goto 4, 3) := by decide +kernel
theorem d_K_isWanted_14 : decode b_K_isWanted 14 = .ok (.iconst 0, 1) := by decide +kernel
theorem d_K_isWanted_15 : decode b_K_isWanted 15 = .ok (.ireturn, 1) := by decide +kernel
abbrev rm_K_isWanted : Room := { frames := 2, cells := 0, slots := 0, locals := 44 }
def f_K_isWanted (x1 : Int32) (x2 : Int32) (M : Mem) : Option (Int32 × Mem) :=
  ob (f_K_isSaid x1 x2 (-1 : Int32) M) fun r4 M4 => if r4 = 0 then some ((1 : Int32), M4) else some ((0 : Int32), M4)
set_option maxRecDepth 100000 in
theorem g_K_isWanted {r : Int32} {M' : Mem} (C : GC p s m args meth c b_K_isWanted 3 (some (FieldType.boolean)) "NoneWordsModel" TB D vwCl (tysW cI cZ cC) A Z) {x1 : Int32} {x2 : Int32} {M : Mem} (hf : f_K_isWanted x1 x2 M = some (r, M')) : GW p l e rm_K_isWanted s m args below meth c (MQ below (QW D vwCl (tysW cI cZ cC) A (some (.int r)) (wk ad cI cZ cC M')) args s 0 0 A) D vwCl A 3 0 0 (wk ad cI cZ cC M) 0 [(0, .ref (ad 0)), (1, .int x1), (2, .int x2)] [] := by
  unfold f_K_isWanted at hf
  refine gw_aload_n C 0 d_K_isWanted_0 rfl rfl ?_
  refine gw_iload_n C 1 d_K_isWanted_1 rfl rfl ?_
  refine gw_iload_n C 2 d_K_isWanted_2 rfl rfl ?_
  refine gw_iconst (v := (-1 : Int32)) C d_K_isWanted_3 (by decide) ?_
  obtain ⟨r4, M4, hc4, hf⟩ := ob_some hf
  refine gw_callVr (rest := []) C 0 wkg_0 clg_5 (c_K_isSaid C.2.2.2.2.2.2.2.2.2.2 hc4) (cwV 3 C.2.2.2.2.1 (gTB_V tw_806 mv_K_isSaid) rfl rfl rfl pd_K_isSaid ⟨Nat.le_of_ble_eq_true rfl, Nat.le_of_ble_eq_true rfl⟩) rfl rfl (Nat.le_of_ble_eq_true rfl) d_K_isWanted_4 ⟨Nat.le_of_ble_eq_true rfl, Nat.le_of_ble_eq_true rfl⟩ ?_
  refine gw_if_ne (tgt := 14) C d_K_isWanted_7 (by decide) (fun c => ?_) (fun c => ?_)
  · have hf := (if_neg c).symm.trans hf
    refine gw_iconst (v := (0 : Int32)) C d_K_isWanted_14 (by decide) ?_
    exact gw_zreti C d_K_isWanted_15 (wk ad cI cZ cC) (by decide) hf
  · have hf := (if_pos c).symm.trans hf
    refine gw_iconst (v := (1 : Int32)) C d_K_isWanted_10 (by decide) ?_
    refine gw_goto (tgt := 15) C d_K_isWanted_11 (by decide) ?_
    exact gw_zreti C d_K_isWanted_15 (wk ad cI cZ cC) (by decide) hf
theorem c_K_isWanted (hZ : gw_ZOK Z) {x1 : Int32} {x2 : Int32} {M : Mem} {r : Int32} {M' : Mem} (hf : f_K_isWanted x1 x2 M = some (r, M')) : CW l y_K_isWanted ws_K_isWanted rm_K_isWanted D vwCl (tysW cI cZ cC) Z [.ref (ad 0), .int x1, .int x2] (wk ad cI cZ cC M) (some (.int r)) (wk ad cI cZ cC M') 0 0 :=
  CW.ofG hZ (by decide) rfl (Nat.le_of_ble_eq_true rfl) (fun _ _ _ _ _ _ _ _ C _ => g_K_isWanted C hf)
abbrev b_K_setOf : ByteArray := prog_7_method_16_code
def y_K_setOf : MethodName := ⟨"NoneWordsModel", "setOf", "(II)I"⟩
abbrev ws_K_setOf : List Cond := Cond.code y_K_setOf b_K_setOf 5 (some (FieldType.int)) :: TB
set_option maxRecDepth 100000 in
theorem tc_K_setOf : Cond.code y_K_setOf b_K_setOf 5 (some (FieldType.int)) ∈ TB := inTB 833 rfl rfl
theorem mv_K_setOf : Cond.instanceMethod y_K_setOf ∈ TB ∧ Cond.selects "NoneWordsModel" y_K_setOf y_K_setOf ∈ TB ∧ Cond.initialized "NoneWordsModel" ∈ TB ∧ Cond.code y_K_setOf b_K_setOf 5 (some (FieldType.int)) ∈ TB := ⟨inTB 832 (by decide +kernel) (by decide +kernel), inTB 35 (by decide +kernel) (by decide +kernel), inTB 71 (by decide +kernel) (by decide +kernel), tc_K_setOf⟩
theorem pd_K_setOf : y_K_setOf.cls = "NoneWordsModel" ∧ y_K_setOf.cls ≠ "java/lang/invoke/MethodHandle" ∧ y_K_setOf.cls ≠ "java/lang/invoke/VarHandle" ∧ (parseMethodDescriptor y_K_setOf.desc).map (fun d => d.parameters.length) = some 2 := by decide +kernel
theorem d_K_setOf_0 : decode b_K_setOf 0 = .ok (.iconst 0, 1) := by decide +kernel
theorem d_K_setOf_1 : decode b_K_setOf 1 = .ok (.istore_n 3, 1) := by decide +kernel
theorem d_K_setOf_2 : decode b_K_setOf 2 = .ok (.iconst 0, 1) := by decide +kernel
theorem d_K_setOf_3 : decode b_K_setOf 3 = .ok (.istore 4, 2) := by decide +kernel
theorem d_K_setOf_5 : decode b_K_setOf 5 = .ok (.iload 4, 2) := by decide +kernel
theorem d_K_setOf_7 : decode b_K_setOf 7 = .ok (.aload_n 0, 1) := by decide +kernel
theorem d_K_setOf_8 : decode b_K_setOf 8 = .ok (.getfield 7, 3) := by decide +kernel
theorem d_K_setOf_11 : decode b_K_setOf 11 = .ok (.iload_n 2, 1) := by decide +kernel
theorem d_K_setOf_12 : decode b_K_setOf 12 = .ok (.iaload, 1) := by decide +kernel
theorem d_K_setOf_13 : decode b_K_setOf 13 = .ok (.if_icmp .ge 37, 3) := by decide +kernel
theorem d_K_setOf_16 : decode b_K_setOf 16 = .ok (.iload_n 3, 1) := by decide +kernel
theorem d_K_setOf_17 : decode b_K_setOf 17 = .ok (.aload_n 0, 1) := by decide +kernel
theorem d_K_setOf_18 : decode b_K_setOf 18 = .ok (.iload_n 1, 1) := by decide +kernel
theorem d_K_setOf_19 : decode b_K_setOf 19 = .ok (.iload_n 2, 1) := by decide +kernel
theorem d_K_setOf_20 : decode b_K_setOf 20 = .ok (.iload 4, 2) := by decide +kernel
theorem d_K_setOf_22 : decode b_K_setOf 22 = .ok (.invokevirtual 86, 3) := by decide +kernel
theorem d_K_setOf_25 : decode b_K_setOf 25 = .ok (.aload_n 0, 1) := by decide +kernel
theorem d_K_setOf_26 : decode b_K_setOf 26 = .ok (.iload_n 1, 1) := by decide +kernel
theorem d_K_setOf_27 : decode b_K_setOf 27 = .ok (.iload_n 2, 1) := by decide +kernel
theorem d_K_setOf_28 : decode b_K_setOf 28 = .ok (.invokevirtual 115, 3) := by decide +kernel
theorem d_K_setOf_31 : decode b_K_setOf 31 = .ok (.if_icmp .ne 10, 3) := by decide +kernel
theorem d_K_setOf_34 : decode b_K_setOf 34 = .ok (.iconst 1, 1) := by decide +kernel
theorem d_K_setOf_35 : decode b_K_setOf 35 = .ok (.iload 4, 2) := by decide +kernel
theorem d_K_setOf_37 : decode b_K_setOf 37 = .ok (.ishl, 1) := by decide +kernel
theorem d_K_setOf_38 : decode b_K_setOf 38 = .ok (.goto 4, 3) := by decide +kernel
theorem d_K_setOf_41 : decode b_K_setOf 41 = .ok (.iconst 0, 1) := by decide +kernel
theorem d_K_setOf_42 : decode b_K_setOf 42 = .ok (.ior, 1) := by decide +kernel
theorem d_K_setOf_43 : decode b_K_setOf 43 = .ok (.istore_n 3, 1) := by decide +kernel
theorem d_K_setOf_44 : decode b_K_setOf 44 = .ok (.iinc 4 1, 3) := by decide +kernel
theorem d_K_setOf_47 : decode b_K_setOf 47 = .ok (.goto (-42), 3) := by decide +kernel
theorem d_K_setOf_50 : decode b_K_setOf 50 = .ok (.iload_n 3, 1) := by decide +kernel
theorem d_K_setOf_51 : decode b_K_setOf 51 = .ok (.ireturn, 1) := by decide +kernel
abbrev rm_K_setOf : Room := { frames := 3, cells := 0, slots := 0, locals := 66 }
def f_K_setOf_5 : Nat → Int32 → Int32 → Int32 → Int32 → Mem → Option (Int32 × Mem)
  | 0, _, _, _, _, _ => none
  | n + 1, x1, x2, x3, x4, M => gd (inb x2 5) (if (M 1 x2.toNatClampNeg) ≤ x4 then some (x3, M) else ob (f_K_isSaid x1 x2 x4 M) fun r22 M22 => ob (f_K_isWanted x1 x2 M22) fun r28 M28 => if r22 = r28 then (f_K_setOf_5 n) x1 x2 (x3 ||| ((1 : Int32) <<< (x4 &&& 31))) (x4 + (1 : Int32)) M28 else (f_K_setOf_5 n) x1 x2 (x3 ||| (0 : Int32)) (x4 + (1 : Int32)) M28)
set_option maxRecDepth 100000 in
theorem g_K_setOf_5 {r : Int32} {M' : Mem} (C : GC p s m args meth c b_K_setOf 5 (some (FieldType.int)) "NoneWordsModel" TB D vwCl (tysW cI cZ cC) A Z) : ∀ (n : Nat) (x1 : Int32) (x2 : Int32) (x3 : Int32) (x4 : Int32) (M : Mem), f_K_setOf_5 n x1 x2 x3 x4 M = some (r, M') → GW p l e rm_K_setOf s m args below meth c (MQ below (QW D vwCl (tysW cI cZ cC) A (some (.int r)) (wk ad cI cZ cC M')) args s 0 0 A) D vwCl A 5 0 0 (wk ad cI cZ cC M) 5 [(0, .ref (ad 0)), (1, .int x1), (2, .int x2), (3, .int x3), (4, .int x4)] [] := by
  intro n
  induction n with
  | zero => intro _ _ _ _ _ hf; cases hf
  | succ n ih =>
    intro x1 x2 x3 x4 M hf
    rw [f_K_setOf_5] at hf
    refine gw_iload C 4 d_K_setOf_5 rfl ?_
    refine gw_aload_n C 0 d_K_setOf_7 rfl rfl ?_
    refine gw_get C in_K 0 wkg_0 clg_5 1 (by decide) tw_687 rfl rfl d_K_setOf_8 ?_
    refine gw_iload_n C 2 d_K_setOf_11 rfl rfl ?_
    obtain ⟨hb12, hf⟩ := gd_some hf
    refine gw_iald C 1 0 wkg_1 rfl hb12 d_K_setOf_12 ?_
    refine gw_icmp_ge (tgt := 50) C d_K_setOf_13 (by decide) (fun c => ?_) (fun c => ?_)
    · have hf := (if_pos c).symm.trans hf
      refine gw_iload_n C 3 d_K_setOf_50 rfl rfl ?_
      exact gw_ireti C d_K_setOf_51 (wk ad cI cZ cC) hf
    · have hf := (if_neg c).symm.trans hf
      refine gw_iload_n C 3 d_K_setOf_16 rfl rfl ?_
      refine gw_aload_n C 0 d_K_setOf_17 rfl rfl ?_
      refine gw_iload_n C 1 d_K_setOf_18 rfl rfl ?_
      refine gw_iload_n C 2 d_K_setOf_19 rfl rfl ?_
      refine gw_iload C 4 d_K_setOf_20 rfl ?_
      obtain ⟨r22, M22, hc22, hf⟩ := ob_some hf
      refine gw_callVr (rest := [.int x3]) C 0 wkg_0 clg_5 (c_K_isSaid C.2.2.2.2.2.2.2.2.2.2 hc22) (cwV 3 C.2.2.2.2.1 (gTB_V tw_806 mv_K_isSaid) rfl rfl rfl pd_K_isSaid ⟨Nat.le_of_ble_eq_true rfl, Nat.le_of_ble_eq_true rfl⟩) rfl rfl (Nat.le_of_ble_eq_true rfl) d_K_setOf_22 ⟨Nat.le_of_ble_eq_true rfl, Nat.le_of_ble_eq_true rfl⟩ ?_
      refine gw_aload_n C 0 d_K_setOf_25 rfl rfl ?_
      refine gw_iload_n C 1 d_K_setOf_26 rfl rfl ?_
      refine gw_iload_n C 2 d_K_setOf_27 rfl rfl ?_
      obtain ⟨r28, M28, hc28, hf⟩ := ob_some hf
      refine gw_callVr (rest := [.int r22, .int x3]) C 0 wkg_0 clg_5 (c_K_isWanted C.2.2.2.2.2.2.2.2.2.2 hc28) (cwV 2 C.2.2.2.2.1 (gTB_V tw_834 mv_K_isWanted) rfl rfl rfl pd_K_isWanted ⟨Nat.le_of_ble_eq_true rfl, Nat.le_of_ble_eq_true rfl⟩) rfl rfl (Nat.le_of_ble_eq_true rfl) d_K_setOf_28 ⟨Nat.le_of_ble_eq_true rfl, Nat.le_of_ble_eq_true rfl⟩ ?_
      refine gw_icmp_ne (tgt := 41) C d_K_setOf_31 (by decide) (fun c => ?_) (fun c => ?_)
      · have hf := (if_neg c).symm.trans hf
        refine gw_iconst (v := (0 : Int32)) C d_K_setOf_41 (by decide) ?_
        refine gw_ior C d_K_setOf_42 ?_
        refine gw_istore_n (lv' := [(3, .int (x3 ||| (0 : Int32))), (0, .ref (ad 0)), (1, .int x1), (2, .int x2), (4, .int x4)]) C d_K_setOf_43 rfl (by decide) rfl ?_
        refine gw_iinc (v := x4 + (1 : Int32)) (lv' := [(4, .int (x4 + (1 : Int32))), (3, .int (x3 ||| (0 : Int32))), (0, .ref (ad 0)), (1, .int x1), (2, .int x2)]) C 4 d_K_setOf_44 rfl rfl (by decide) rfl ?_
        refine gw_goto (tgt := 5) C d_K_setOf_47 (by decide) ?_
        exact gw_sub [2, 3, 4, 1, 0] rfl (ih _ _ _ _ _ hf)
      · have hf := (if_pos c).symm.trans hf
        refine gw_iconst (v := (1 : Int32)) C d_K_setOf_34 (by decide) ?_
        refine gw_iload C 4 d_K_setOf_35 rfl ?_
        refine gw_ishl C d_K_setOf_37 ?_
        refine gw_goto (tgt := 42) C d_K_setOf_38 (by decide) ?_
        refine gw_ior C d_K_setOf_42 ?_
        refine gw_istore_n (lv' := [(3, .int (x3 ||| ((1 : Int32) <<< (x4 &&& 31)))), (0, .ref (ad 0)), (1, .int x1), (2, .int x2), (4, .int x4)]) C d_K_setOf_43 rfl (by decide) rfl ?_
        refine gw_iinc (v := x4 + (1 : Int32)) (lv' := [(4, .int (x4 + (1 : Int32))), (3, .int (x3 ||| ((1 : Int32) <<< (x4 &&& 31)))), (0, .ref (ad 0)), (1, .int x1), (2, .int x2)]) C 4 d_K_setOf_44 rfl rfl (by decide) rfl ?_
        refine gw_goto (tgt := 5) C d_K_setOf_47 (by decide) ?_
        exact gw_sub [2, 3, 4, 1, 0] rfl (ih _ _ _ _ _ hf)
def f_K_setOf (x1 : Int32) (x2 : Int32) (M : Mem) : Option (Int32 × Mem) :=
  f_K_setOf_5 100000 x1 x2 (0 : Int32) (0 : Int32) M
set_option maxRecDepth 100000 in
theorem g_K_setOf {r : Int32} {M' : Mem} (C : GC p s m args meth c b_K_setOf 5 (some (FieldType.int)) "NoneWordsModel" TB D vwCl (tysW cI cZ cC) A Z) {x1 : Int32} {x2 : Int32} {M : Mem} (hf : f_K_setOf x1 x2 M = some (r, M')) : GW p l e rm_K_setOf s m args below meth c (MQ below (QW D vwCl (tysW cI cZ cC) A (some (.int r)) (wk ad cI cZ cC M')) args s 0 0 A) D vwCl A 5 0 0 (wk ad cI cZ cC M) 0 [(0, .ref (ad 0)), (1, .int x1), (2, .int x2)] [] := by
  unfold f_K_setOf at hf
  refine gw_iconst (v := (0 : Int32)) C d_K_setOf_0 (by decide) ?_
  refine gw_istore_n (lv' := [(3, .int (0 : Int32)), (0, .ref (ad 0)), (1, .int x1), (2, .int x2)]) C d_K_setOf_1 rfl (by decide) rfl ?_
  refine gw_iconst (v := (0 : Int32)) C d_K_setOf_2 (by decide) ?_
  refine gw_istore (lv' := [(4, .int (0 : Int32)), (3, .int (0 : Int32)), (0, .ref (ad 0)), (1, .int x1), (2, .int x2)]) C d_K_setOf_3 (by decide) rfl ?_
  exact gw_sub [2, 3, 4, 1, 0] rfl (g_K_setOf_5 C _ _ _ _ _ _ hf)
theorem c_K_setOf (hZ : gw_ZOK Z) {x1 : Int32} {x2 : Int32} {M : Mem} {r : Int32} {M' : Mem} (hf : f_K_setOf x1 x2 M = some (r, M')) : CW l y_K_setOf ws_K_setOf rm_K_setOf D vwCl (tysW cI cZ cC) Z [.ref (ad 0), .int x1, .int x2] (wk ad cI cZ cC M) (some (.int r)) (wk ad cI cZ cC M') 0 0 :=
  CW.ofG hZ (by decide) rfl (Nat.le_of_ble_eq_true rfl) (fun _ _ _ _ _ _ _ _ C _ => g_K_setOf C hf)
abbrev b_K_count : ByteArray := prog_7_method_17_code
def y_K_count : MethodName := ⟨"NoneWordsModel", "count", "(I)I"⟩
abbrev ws_K_count : List Cond := Cond.code y_K_count b_K_count 4 (some (FieldType.int)) :: TB
set_option maxRecDepth 100000 in
theorem tc_K_count : Cond.code y_K_count b_K_count 4 (some (FieldType.int)) ∈ TB := inTB 825 rfl rfl
theorem mv_K_count : Cond.instanceMethod y_K_count ∈ TB ∧ Cond.selects "NoneWordsModel" y_K_count y_K_count ∈ TB ∧ Cond.initialized "NoneWordsModel" ∈ TB ∧ Cond.code y_K_count b_K_count 4 (some (FieldType.int)) ∈ TB := ⟨inTB 824 (by decide +kernel) (by decide +kernel), inTB 34 (by decide +kernel) (by decide +kernel), inTB 71 (by decide +kernel) (by decide +kernel), tc_K_count⟩
theorem pd_K_count : y_K_count.cls = "NoneWordsModel" ∧ y_K_count.cls ≠ "java/lang/invoke/MethodHandle" ∧ y_K_count.cls ≠ "java/lang/invoke/VarHandle" ∧ (parseMethodDescriptor y_K_count.desc).map (fun d => d.parameters.length) = some 1 := by decide +kernel
theorem d_K_count_0 : decode b_K_count 0 = .ok (.iconst 0, 1) := by decide +kernel
theorem d_K_count_1 : decode b_K_count 1 = .ok (.istore_n 2, 1) := by decide +kernel
theorem d_K_count_2 : decode b_K_count 2 = .ok (.iconst 0, 1) := by decide +kernel
theorem d_K_count_3 : decode b_K_count 3 = .ok (.istore_n 3, 1) := by decide +kernel
theorem d_K_count_4 : decode b_K_count 4 = .ok (.iload_n 3, 1) := by decide +kernel
theorem d_K_count_5 : decode b_K_count 5 = .ok (.aload_n 0, 1) := by decide +kernel
theorem d_K_count_6 : decode b_K_count 6 = .ok (.getfield 76, 3) := by decide +kernel
theorem d_K_count_9 : decode b_K_count 9 = .ok (.if_icmp .ge 30, 3) := by decide +kernel
theorem d_K_count_12 : decode b_K_count 12 = .ok (.iload_n 2, 1) := by decide +kernel
theorem d_K_count_13 : decode b_K_count 13 = .ok (.aload_n 0, 1) := by decide +kernel
theorem d_K_count_14 : decode b_K_count 14 = .ok (.getfield 28, 3) := by decide +kernel
theorem d_K_count_17 : decode b_K_count 17 = .ok (.iload_n 1, 1) := by decide +kernel
theorem d_K_count_18 : decode b_K_count 18 = .ok (.iload_n 3, 1) := by decide +kernel
theorem d_K_count_19 : decode b_K_count 19 = .ok (.invokestatic 82, 3) := by decide +kernel
theorem d_K_count_22 : decode b_K_count 22 = .ok (.baload, 1) := by decide +kernel
theorem d_K_count_23 : decode b_K_count 23 = .ok (.ifCond .eq 7, 3) := by decide +kernel
theorem d_K_count_26 : decode b_K_count 26 = .ok (.iconst 1, 1) := by decide +kernel
theorem d_K_count_27 : decode b_K_count 27 = .ok (.goto 4, 3) := by decide +kernel
theorem d_K_count_30 : decode b_K_count 30 = .ok (.iconst 0, 1) := by decide +kernel
theorem d_K_count_31 : decode b_K_count 31 = .ok (.iadd, 1) := by decide +kernel
theorem d_K_count_32 : decode b_K_count 32 = .ok (.istore_n 2, 1) := by decide +kernel
theorem d_K_count_33 : decode b_K_count 33 = .ok (.iinc 3 1, 3) := by decide +kernel
theorem d_K_count_36 : decode b_K_count 36 = .ok (.goto (-32), 3) := by decide +kernel
theorem d_K_count_39 : decode b_K_count 39 = .ok (.iload_n 2, 1) := by decide +kernel
theorem d_K_count_40 : decode b_K_count 40 = .ok (.ireturn, 1) := by decide +kernel
abbrev rm_K_count : Room := { frames := 1, cells := 0, slots := 0, locals := 21 }
def f_K_count_4 : Nat → Int32 → Int32 → Int32 → Mem → Option (Int32 × Mem)
  | 0, _, _, _, _ => none
  | n + 1, x1, x2, x3, M => if (M 0 2) ≤ x3 then some (x2, M) else ob (f_K_place x1 x3 M) fun r19 M19 => gd (inb r19 600) (if (M19 7 r19.toNatClampNeg) = 0 then (f_K_count_4 n) x1 (x2 + (0 : Int32)) (x3 + (1 : Int32)) M19 else (f_K_count_4 n) x1 (x2 + (1 : Int32)) (x3 + (1 : Int32)) M19)
set_option maxRecDepth 100000 in
theorem g_K_count_4 {r : Int32} {M' : Mem} (C : GC p s m args meth c b_K_count 4 (some (FieldType.int)) "NoneWordsModel" TB D vwCl (tysW cI cZ cC) A Z) : ∀ (n : Nat) (x1 : Int32) (x2 : Int32) (x3 : Int32) (M : Mem), f_K_count_4 n x1 x2 x3 M = some (r, M') → GW p l e rm_K_count s m args below meth c (MQ below (QW D vwCl (tysW cI cZ cC) A (some (.int r)) (wk ad cI cZ cC M')) args s 0 0 A) D vwCl A 4 0 0 (wk ad cI cZ cC M) 4 [(0, .ref (ad 0)), (1, .int x1), (2, .int x2), (3, .int x3)] [] := by
  intro n
  induction n with
  | zero => intro _ _ _ _ hf; cases hf
  | succ n ih =>
    intro x1 x2 x3 M hf
    rw [f_K_count_4] at hf
    refine gw_iload_n C 3 d_K_count_4 rfl rfl ?_
    refine gw_aload_n C 0 d_K_count_5 rfl rfl ?_
    refine gw_get C in_K 0 wkg_0 clg_5 2 (by decide) tw_688 rfl rfl d_K_count_6 ?_
    refine gw_icmp_ge (tgt := 39) C d_K_count_9 (by decide) (fun c => ?_) (fun c => ?_)
    · have hf := (if_pos c).symm.trans hf
      refine gw_iload_n C 2 d_K_count_39 rfl rfl ?_
      exact gw_ireti C d_K_count_40 (wk ad cI cZ cC) hf
    · have hf := (if_neg c).symm.trans hf
      refine gw_iload_n C 2 d_K_count_12 rfl rfl ?_
      refine gw_aload_n C 0 d_K_count_13 rfl rfl ?_
      refine gw_get C in_K 0 wkg_0 clg_5 9 (by decide) tw_695 rfl rfl d_K_count_14 ?_
      refine gw_iload_n C 1 d_K_count_17 rfl rfl ?_
      refine gw_iload_n C 3 d_K_count_18 rfl rfl ?_
      obtain ⟨r19, M19, hc19, hf⟩ := ob_some hf
      refine gw_callSr (rest := [.ref (ad 7), .int x2]) C (c_K_place C.2.2.2.2.2.2.2.2.2.2 hc19) (cwS 2 C.2.2.2.2.1 (gTB_S tw_787 mv_K_place) rfl rfl rfl pd_K_place ⟨Nat.le_of_ble_eq_true rfl, Nat.le_of_ble_eq_true rfl⟩) rfl rfl (Nat.le_of_ble_eq_true rfl) d_K_count_19 ⟨Nat.le_of_ble_eq_true rfl, Nat.le_of_ble_eq_true rfl⟩ ?_
      obtain ⟨hb22, hf⟩ := gd_some hf
      refine gw_zald C 7 1 wkg_7 rfl hb22 d_K_count_22 ?_
      refine gw_if_eq (tgt := 30) C d_K_count_23 (by decide) (fun c => ?_) (fun c => ?_)
      · have hf := (if_pos c).symm.trans hf
        refine gw_iconst (v := (0 : Int32)) C d_K_count_30 (by decide) ?_
        refine gw_iadd C d_K_count_31 ?_
        refine gw_istore_n (lv' := [(2, .int (x2 + (0 : Int32))), (0, .ref (ad 0)), (1, .int x1), (3, .int x3)]) C d_K_count_32 rfl (by decide) rfl ?_
        refine gw_iinc (v := x3 + (1 : Int32)) (lv' := [(3, .int (x3 + (1 : Int32))), (2, .int (x2 + (0 : Int32))), (0, .ref (ad 0)), (1, .int x1)]) C 3 d_K_count_33 rfl rfl (by decide) rfl ?_
        refine gw_goto (tgt := 4) C d_K_count_36 (by decide) ?_
        exact gw_sub [2, 3, 1, 0] rfl (ih _ _ _ _ hf)
      · have hf := (if_neg c).symm.trans hf
        refine gw_iconst (v := (1 : Int32)) C d_K_count_26 (by decide) ?_
        refine gw_goto (tgt := 31) C d_K_count_27 (by decide) ?_
        refine gw_iadd C d_K_count_31 ?_
        refine gw_istore_n (lv' := [(2, .int (x2 + (1 : Int32))), (0, .ref (ad 0)), (1, .int x1), (3, .int x3)]) C d_K_count_32 rfl (by decide) rfl ?_
        refine gw_iinc (v := x3 + (1 : Int32)) (lv' := [(3, .int (x3 + (1 : Int32))), (2, .int (x2 + (1 : Int32))), (0, .ref (ad 0)), (1, .int x1)]) C 3 d_K_count_33 rfl rfl (by decide) rfl ?_
        refine gw_goto (tgt := 4) C d_K_count_36 (by decide) ?_
        exact gw_sub [2, 3, 1, 0] rfl (ih _ _ _ _ hf)
def f_K_count (x1 : Int32) (M : Mem) : Option (Int32 × Mem) :=
  f_K_count_4 100000 x1 (0 : Int32) (0 : Int32) M
set_option maxRecDepth 100000 in
theorem g_K_count {r : Int32} {M' : Mem} (C : GC p s m args meth c b_K_count 4 (some (FieldType.int)) "NoneWordsModel" TB D vwCl (tysW cI cZ cC) A Z) {x1 : Int32} {M : Mem} (hf : f_K_count x1 M = some (r, M')) : GW p l e rm_K_count s m args below meth c (MQ below (QW D vwCl (tysW cI cZ cC) A (some (.int r)) (wk ad cI cZ cC M')) args s 0 0 A) D vwCl A 4 0 0 (wk ad cI cZ cC M) 0 [(0, .ref (ad 0)), (1, .int x1)] [] := by
  unfold f_K_count at hf
  refine gw_iconst (v := (0 : Int32)) C d_K_count_0 (by decide) ?_
  refine gw_istore_n (lv' := [(2, .int (0 : Int32)), (0, .ref (ad 0)), (1, .int x1)]) C d_K_count_1 rfl (by decide) rfl ?_
  refine gw_iconst (v := (0 : Int32)) C d_K_count_2 (by decide) ?_
  refine gw_istore_n (lv' := [(3, .int (0 : Int32)), (2, .int (0 : Int32)), (0, .ref (ad 0)), (1, .int x1)]) C d_K_count_3 rfl (by decide) rfl ?_
  exact gw_sub [2, 3, 1, 0] rfl (g_K_count_4 C _ _ _ _ _ hf)
theorem c_K_count (hZ : gw_ZOK Z) {x1 : Int32} {M : Mem} {r : Int32} {M' : Mem} (hf : f_K_count x1 M = some (r, M')) : CW l y_K_count ws_K_count rm_K_count D vwCl (tysW cI cZ cC) Z [.ref (ad 0), .int x1] (wk ad cI cZ cC M) (some (.int r)) (wk ad cI cZ cC M') 0 0 :=
  CW.ofG hZ (by decide) rfl (Nat.le_of_ble_eq_true rfl) (fun _ _ _ _ _ _ _ _ C _ => g_K_count C hf)
abbrev b_K_terms : ByteArray := prog_7_method_18_code
def y_K_terms : MethodName := ⟨"NoneWordsModel", "terms", "(I)I"⟩
abbrev ws_K_terms : List Cond := Cond.code y_K_terms b_K_terms 2 (some (FieldType.int)) :: TB
set_option maxRecDepth 100000 in
theorem tc_K_terms : Cond.code y_K_terms b_K_terms 2 (some (FieldType.int)) ∈ TB := inTB 821 rfl rfl
theorem mv_K_terms : Cond.instanceMethod y_K_terms ∈ TB ∧ Cond.selects "NoneWordsModel" y_K_terms y_K_terms ∈ TB ∧ Cond.initialized "NoneWordsModel" ∈ TB ∧ Cond.code y_K_terms b_K_terms 2 (some (FieldType.int)) ∈ TB := ⟨inTB 819 (by decide +kernel) (by decide +kernel), inTB 820 (by decide +kernel) (by decide +kernel), inTB 71 (by decide +kernel) (by decide +kernel), tc_K_terms⟩
theorem pd_K_terms : y_K_terms.cls = "NoneWordsModel" ∧ y_K_terms.cls ≠ "java/lang/invoke/MethodHandle" ∧ y_K_terms.cls ≠ "java/lang/invoke/VarHandle" ∧ (parseMethodDescriptor y_K_terms.desc).map (fun d => d.parameters.length) = some 1 := by decide +kernel
theorem d_K_terms_0 : decode b_K_terms 0 = .ok (.aload_n 0, 1) := by decide +kernel
theorem d_K_terms_1 : decode b_K_terms 1 = .ok (.iconst 0, 1) := by decide +kernel
theorem d_K_terms_2 : decode b_K_terms 2 = .ok (.putfield 72, 3) := by decide +kernel
theorem d_K_terms_5 : decode b_K_terms 5 = .ok (.aload_n 0, 1) := by decide +kernel
theorem d_K_terms_6 : decode b_K_terms 6 = .ok (.iload_n 1, 1) := by decide +kernel
theorem d_K_terms_7 : decode b_K_terms 7 = .ok (.invokevirtual 112, 3) := by decide +kernel
theorem d_K_terms_10 : decode b_K_terms 10 = .ok (.ifCond .eq 11, 3) := by decide +kernel
theorem d_K_terms_13 : decode b_K_terms 13 = .ok (.aload_n 0, 1) := by decide +kernel
theorem d_K_terms_14 : decode b_K_terms 14 = .ok (.iload_n 1, 1) := by decide +kernel
theorem d_K_terms_15 : decode b_K_terms 15 = .ok (.invokevirtual 119, 3) := by decide +kernel
theorem d_K_terms_18 : decode b_K_terms 18 = .ok (.goto 4, 3) := by decide +kernel
theorem d_K_terms_21 : decode b_K_terms 21 = .ok (.iconst (-1), 1) := by decide +kernel
theorem d_K_terms_22 : decode b_K_terms 22 = .ok (.ireturn, 1) := by decide +kernel
abbrev rm_K_terms : Room := { frames := 2, cells := 0, slots := 0, locals := 44 }
def f_K_terms (x1 : Int32) (M : Mem) : Option (Int32 × Mem) :=
  ob (f_K_isNode x1 (ms M 0 0 (0 : Int32))) fun r7 M7 => if r7 = 0 then some ((-1 : Int32), M7) else ob (f_K_count x1 M7) fun r15 M15 => some (r15, M15)
set_option maxRecDepth 100000 in
theorem g_K_terms {r : Int32} {M' : Mem} (C : GC p s m args meth c b_K_terms 2 (some (FieldType.int)) "NoneWordsModel" TB D vwCl (tysW cI cZ cC) A Z) {x1 : Int32} {M : Mem} (hf : f_K_terms x1 M = some (r, M')) : GW p l e rm_K_terms s m args below meth c (MQ below (QW D vwCl (tysW cI cZ cC) A (some (.int r)) (wk ad cI cZ cC M')) args s 0 0 A) D vwCl A 2 0 0 (wk ad cI cZ cC M) 0 [(0, .ref (ad 0)), (1, .int x1)] [] := by
  unfold f_K_terms at hf
  refine gw_aload_n C 0 d_K_terms_0 rfl rfl ?_
  refine gw_iconst (v := (0 : Int32)) C d_K_terms_1 (by decide) ?_
  refine gw_put C in_K ty_K tk_K nm_K 0 wkg_0 clg_5 0 (by decide) tw_686 rfl rfl rfl rfl (Nat.le_of_ble_eq_true rfl) d_K_terms_2 wkf_0_0 ?_
  refine gw_aload_n C 0 d_K_terms_5 rfl rfl ?_
  refine gw_iload_n C 1 d_K_terms_6 rfl rfl ?_
  obtain ⟨r7, M7, hc7, hf⟩ := ob_some hf
  refine gw_callVr (rest := []) C 0 wkg_0 clg_5 (c_K_isNode C.2.2.2.2.2.2.2.2.2.2 hc7) (cwV 1 C.2.2.2.2.1 (gTB_V tw_814 mv_K_isNode) rfl rfl rfl pd_K_isNode ⟨Nat.le_of_ble_eq_true rfl, Nat.le_of_ble_eq_true rfl⟩) rfl rfl (Nat.le_of_ble_eq_true rfl) d_K_terms_7 ⟨Nat.le_of_ble_eq_true rfl, Nat.le_of_ble_eq_true rfl⟩ ?_
  refine gw_if_eq (tgt := 21) C d_K_terms_10 (by decide) (fun c => ?_) (fun c => ?_)
  · have hf := (if_pos c).symm.trans hf
    refine gw_iconst (v := (-1 : Int32)) C d_K_terms_21 (by decide) ?_
    exact gw_ireti C d_K_terms_22 (wk ad cI cZ cC) hf
  · have hf := (if_neg c).symm.trans hf
    refine gw_aload_n C 0 d_K_terms_13 rfl rfl ?_
    refine gw_iload_n C 1 d_K_terms_14 rfl rfl ?_
    obtain ⟨r15, M15, hc15, hf⟩ := ob_some hf
    refine gw_callVr (rest := []) C 0 wkg_0 clg_5 (c_K_count C.2.2.2.2.2.2.2.2.2.2 hc15) (cwV 1 C.2.2.2.2.1 (gTB_V tw_822 mv_K_count) rfl rfl rfl pd_K_count ⟨Nat.le_of_ble_eq_true rfl, Nat.le_of_ble_eq_true rfl⟩) rfl rfl (Nat.le_of_ble_eq_true rfl) d_K_terms_15 ⟨Nat.le_of_ble_eq_true rfl, Nat.le_of_ble_eq_true rfl⟩ ?_
    refine gw_goto (tgt := 22) C d_K_terms_18 (by decide) ?_
    exact gw_ireti C d_K_terms_22 (wk ad cI cZ cC) hf
theorem c_K_terms (hZ : gw_ZOK Z) {x1 : Int32} {M : Mem} {r : Int32} {M' : Mem} (hf : f_K_terms x1 M = some (r, M')) : CW l y_K_terms ws_K_terms rm_K_terms D vwCl (tysW cI cZ cC) Z [.ref (ad 0), .int x1] (wk ad cI cZ cC M) (some (.int r)) (wk ad cI cZ cC M') 0 0 :=
  CW.ofG hZ (by decide) rfl (Nat.le_of_ble_eq_true rfl) (fun _ _ _ _ _ _ _ _ C _ => g_K_terms C hf)
abbrev b_K_term : ByteArray := prog_7_method_19_code
def y_K_term : MethodName := ⟨"NoneWordsModel", "term", "(III)I"⟩
abbrev ws_K_term : List Cond := Cond.code y_K_term b_K_term 6 (some (FieldType.int)) :: TB
set_option maxRecDepth 100000 in
theorem tc_K_term : Cond.code y_K_term b_K_term 6 (some (FieldType.int)) ∈ TB := inTB 829 rfl rfl
theorem mv_K_term : Cond.instanceMethod y_K_term ∈ TB ∧ Cond.selects "NoneWordsModel" y_K_term y_K_term ∈ TB ∧ Cond.initialized "NoneWordsModel" ∈ TB ∧ Cond.code y_K_term b_K_term 6 (some (FieldType.int)) ∈ TB := ⟨inTB 827 (by decide +kernel) (by decide +kernel), inTB 828 (by decide +kernel) (by decide +kernel), inTB 71 (by decide +kernel) (by decide +kernel), tc_K_term⟩
theorem pd_K_term : y_K_term.cls = "NoneWordsModel" ∧ y_K_term.cls ≠ "java/lang/invoke/MethodHandle" ∧ y_K_term.cls ≠ "java/lang/invoke/VarHandle" ∧ (parseMethodDescriptor y_K_term.desc).map (fun d => d.parameters.length) = some 3 := by decide +kernel
theorem d_K_term_0 : decode b_K_term 0 = .ok (.aload_n 0, 1) := by decide +kernel
theorem d_K_term_1 : decode b_K_term 1 = .ok (.iconst 0, 1) := by decide +kernel
theorem d_K_term_2 : decode b_K_term 2 = .ok (.putfield 72, 3) := by decide +kernel
theorem d_K_term_5 : decode b_K_term 5 = .ok (.aload_n 0, 1) := by decide +kernel
theorem d_K_term_6 : decode b_K_term 6 = .ok (.iload_n 1, 1) := by decide +kernel
theorem d_K_term_7 : decode b_K_term 7 = .ok (.invokevirtual 112, 3) := by decide +kernel
theorem d_K_term_10 : decode b_K_term 10 = .ok (.ifCond .ne 5, 3) := by decide +kernel
theorem d_K_term_13 : decode b_K_term 13 = .ok (.iconst (-1), 1) := by decide +kernel
theorem d_K_term_14 : decode b_K_term 14 = .ok (.ireturn, 1) := by decide +kernel
theorem d_K_term_15 : decode b_K_term 15 = .ok (.iload_n 2, 1) := by decide +kernel
theorem d_K_term_16 : decode b_K_term 16 = .ok (.istore 4, 2) := by decide +kernel
theorem d_K_term_18 : decode b_K_term 18 = .ok (.iconst 0, 1) := by decide +kernel
theorem d_K_term_19 : decode b_K_term 19 = .ok (.istore 5, 2) := by decide +kernel
theorem d_K_term_21 : decode b_K_term 21 = .ok (.iload 5, 2) := by decide +kernel
theorem d_K_term_23 : decode b_K_term 23 = .ok (.aload_n 0, 1) := by decide +kernel
theorem d_K_term_24 : decode b_K_term 24 = .ok (.getfield 76, 3) := by decide +kernel
theorem d_K_term_27 : decode b_K_term 27 = .ok (.if_icmp .ge 83, 3) := by decide +kernel
theorem d_K_term_30 : decode b_K_term 30 = .ok (.aload_n 0, 1) := by decide +kernel
theorem d_K_term_31 : decode b_K_term 31 = .ok (.getfield 28, 3) := by decide +kernel
theorem d_K_term_34 : decode b_K_term 34 = .ok (.iload_n 1, 1) := by decide +kernel
theorem d_K_term_35 : decode b_K_term 35 = .ok (.iload 5, 2) := by decide +kernel
theorem d_K_term_37 : decode b_K_term 37 = .ok (.invokestatic 82, 3) := by decide +kernel
theorem d_K_term_40 : decode b_K_term 40 = .ok (.baload, 1) := by decide +kernel
theorem d_K_term_41 : decode b_K_term 41 = .ok (.ifCond .ne 6, 3) := by decide +kernel
theorem d_K_term_44 : decode b_K_term 44 = .ok (.goto 60, 3) := by decide +kernel
theorem d_K_term_47 : decode b_K_term 47 = .ok (.iload 4, 2) := by decide +kernel
theorem d_K_term_49 : decode b_K_term 49 = .ok (.ifCond .ne 52, 3) := by decide +kernel
theorem d_K_term_52 : decode b_K_term 52 = .ok (.iload_n 3, 1) := by decide +kernel
theorem d_K_term_53 : decode b_K_term 53 = .ok (.ifCond .ne 8, 3) := by decide +kernel
theorem d_K_term_56 : decode b_K_term 56 = .ok (.iload 5, 2) := by decide +kernel
theorem d_K_term_58 : decode b_K_term 58 = .ok (.goto 42, 3) := by decide +kernel
theorem d_K_term_61 : decode b_K_term 61 = .ok (.iload_n 3, 1) := by decide +kernel
theorem d_K_term_62 : decode b_K_term 62 = .ok (.iconst 1, 1) := by decide +kernel
theorem d_K_term_63 : decode b_K_term 63 = .ok (.if_icmp .ne 13, 3) := by decide +kernel
theorem d_K_term_66 : decode b_K_term 66 = .ok (.aload_n 0, 1) := by decide +kernel
theorem d_K_term_67 : decode b_K_term 67 = .ok (.iload_n 1, 1) := by decide +kernel
theorem d_K_term_68 : decode b_K_term 68 = .ok (.iload 5, 2) := by decide +kernel
theorem d_K_term_70 : decode b_K_term 70 = .ok (.invokevirtual 123, 3) := by decide +kernel
theorem d_K_term_73 : decode b_K_term 73 = .ok (.goto 27, 3) := by decide +kernel
theorem d_K_term_76 : decode b_K_term 76 = .ok (.iload_n 3, 1) := by decide +kernel
theorem d_K_term_77 : decode b_K_term 77 = .ok (.iconst 2, 1) := by decide +kernel
theorem d_K_term_78 : decode b_K_term 78 = .ok (.if_icmp .ne 21, 3) := by decide +kernel
theorem d_K_term_81 : decode b_K_term 81 = .ok (.aload_n 0, 1) := by decide +kernel
theorem d_K_term_82 : decode b_K_term 82 = .ok (.iload_n 1, 1) := by decide +kernel
theorem d_K_term_83 : decode b_K_term 83 = .ok (.iload 5, 2) := by decide +kernel
theorem d_K_term_85 : decode b_K_term 85 = .ok (.invokevirtual 115, 3) := by decide +kernel
theorem d_K_term_88 : decode b_K_term 88 = .ok (.ifCond .eq 7, 3) := by decide +kernel
theorem d_K_term_91 : decode b_K_term 91 = .ok (.iconst 1, 1) := by decide +kernel
theorem d_K_term_92 : decode b_K_term 92 = .ok (.goto 8, 3) := by decide +kernel
theorem d_K_term_95 : decode b_K_term 95 = .ok (.iconst 0, 1) := by decide +kernel
theorem d_K_term_96 : decode b_K_term 96 = .ok (.goto 4, 3) := by decide +kernel
theorem d_K_term_99 : decode b_K_term 99 = .ok (.iconst (-1), 1) := by decide +kernel
theorem d_K_term_100 : decode b_K_term 100 = .ok (.ireturn, 1) := by decide +kernel
theorem d_K_term_101 : decode b_K_term 101 = .ok (.iinc 4 (-1), 3) := by decide +kernel
theorem d_K_term_104 : decode b_K_term 104 = .ok (.iinc 5 1, 3) := by decide +kernel
theorem d_K_term_107 : decode b_K_term 107 = .ok (.goto (-86), 3) := by decide +kernel
theorem d_K_term_110 : decode b_K_term 110 = .ok (.iconst (-1), 1) := by decide +kernel
theorem d_K_term_111 : decode b_K_term 111 = .ok (.ireturn, 1) := by decide +kernel
abbrev rm_K_term : Room := { frames := 4, cells := 0, slots := 0, locals := 90 }
def f_K_term_21 : Nat → Int32 → Int32 → Int32 → Int32 → Mem → Option (Int32 × Mem)
  | 0, _, _, _, _, _ => none
  | n + 1, x1, x3, x4, x5, M => if (M 0 2) ≤ x5 then some ((-1 : Int32), M) else ob (f_K_place x1 x5 M) fun r37 M37 => gd (inb r37 600) (if (M37 7 r37.toNatClampNeg) = 0 then (f_K_term_21 n) x1 x3 x4 (x5 + (1 : Int32)) M37 else if x4 = 0 then if x3 = 0 then some (x5, M37) else if x3 = (1 : Int32) then ob (f_K_setOf x1 x5 M37) fun r70 M70 => some (r70, M70) else if x3 = (2 : Int32) then ob (f_K_isWanted x1 x5 M37) fun r85 M85 => if r85 = 0 then some ((0 : Int32), M85) else some ((1 : Int32), M85) else some ((-1 : Int32), M37) else (f_K_term_21 n) x1 x3 (x4 + (-1 : Int32)) (x5 + (1 : Int32)) M37)
set_option maxRecDepth 100000 in
theorem g_K_term_21 {r : Int32} {M' : Mem} (C : GC p s m args meth c b_K_term 6 (some (FieldType.int)) "NoneWordsModel" TB D vwCl (tysW cI cZ cC) A Z) : ∀ (n : Nat) (x1 : Int32) (x3 : Int32) (x4 : Int32) (x5 : Int32) (M : Mem), f_K_term_21 n x1 x3 x4 x5 M = some (r, M') → GW p l e rm_K_term s m args below meth c (MQ below (QW D vwCl (tysW cI cZ cC) A (some (.int r)) (wk ad cI cZ cC M')) args s 0 0 A) D vwCl A 6 0 0 (wk ad cI cZ cC M) 21 [(0, .ref (ad 0)), (1, .int x1), (3, .int x3), (4, .int x4), (5, .int x5)] [] := by
  intro n
  induction n with
  | zero => intro _ _ _ _ _ hf; cases hf
  | succ n ih =>
    intro x1 x3 x4 x5 M hf
    rw [f_K_term_21] at hf
    refine gw_iload C 4 d_K_term_21 rfl ?_
    refine gw_aload_n C 0 d_K_term_23 rfl rfl ?_
    refine gw_get C in_K 0 wkg_0 clg_5 2 (by decide) tw_688 rfl rfl d_K_term_24 ?_
    refine gw_icmp_ge (tgt := 110) C d_K_term_27 (by decide) (fun c => ?_) (fun c => ?_)
    · have hf := (if_pos c).symm.trans hf
      refine gw_iconst (v := (-1 : Int32)) C d_K_term_110 (by decide) ?_
      exact gw_ireti C d_K_term_111 (wk ad cI cZ cC) hf
    · have hf := (if_neg c).symm.trans hf
      refine gw_aload_n C 0 d_K_term_30 rfl rfl ?_
      refine gw_get C in_K 0 wkg_0 clg_5 9 (by decide) tw_695 rfl rfl d_K_term_31 ?_
      refine gw_iload_n C 1 d_K_term_34 rfl rfl ?_
      refine gw_iload C 4 d_K_term_35 rfl ?_
      obtain ⟨r37, M37, hc37, hf⟩ := ob_some hf
      refine gw_callSr (rest := [.ref (ad 7)]) C (c_K_place C.2.2.2.2.2.2.2.2.2.2 hc37) (cwS 2 C.2.2.2.2.1 (gTB_S tw_787 mv_K_place) rfl rfl rfl pd_K_place ⟨Nat.le_of_ble_eq_true rfl, Nat.le_of_ble_eq_true rfl⟩) rfl rfl (Nat.le_of_ble_eq_true rfl) d_K_term_37 ⟨Nat.le_of_ble_eq_true rfl, Nat.le_of_ble_eq_true rfl⟩ ?_
      obtain ⟨hb40, hf⟩ := gd_some hf
      refine gw_zald C 7 1 wkg_7 rfl hb40 d_K_term_40 ?_
      refine gw_if_ne (tgt := 47) C d_K_term_41 (by decide) (fun c => ?_) (fun c => ?_)
      · have hf := (if_neg c).symm.trans hf
        refine gw_iload C 3 d_K_term_47 rfl ?_
        refine gw_if_ne (tgt := 101) C d_K_term_49 (by decide) (fun c => ?_) (fun c => ?_)
        · have hf := (if_neg c).symm.trans hf
          refine gw_iinc (v := x4 + (-1 : Int32)) (lv' := [(4, .int (x4 + (-1 : Int32))), (0, .ref (ad 0)), (1, .int x1), (3, .int x3), (5, .int x5)]) C 3 d_K_term_101 rfl rfl (by decide) rfl ?_
          refine gw_iinc (v := x5 + (1 : Int32)) (lv' := [(5, .int (x5 + (1 : Int32))), (4, .int (x4 + (-1 : Int32))), (0, .ref (ad 0)), (1, .int x1), (3, .int x3)]) C 4 d_K_term_104 rfl rfl (by decide) rfl ?_
          refine gw_goto (tgt := 21) C d_K_term_107 (by decide) ?_
          exact gw_sub [2, 3, 4, 1, 0] rfl (ih _ _ _ _ _ hf)
        · have hf := (if_pos c).symm.trans hf
          refine gw_iload_n C 2 d_K_term_52 rfl rfl ?_
          refine gw_if_ne (tgt := 61) C d_K_term_53 (by decide) (fun c => ?_) (fun c => ?_)
          · have hf := (if_neg c).symm.trans hf
            refine gw_iload_n C 2 d_K_term_61 rfl rfl ?_
            refine gw_iconst (v := (1 : Int32)) C d_K_term_62 (by decide) ?_
            refine gw_icmp_ne (tgt := 76) C d_K_term_63 (by decide) (fun c => ?_) (fun c => ?_)
            · have hf := (if_neg c).symm.trans hf
              refine gw_iload_n C 2 d_K_term_76 rfl rfl ?_
              refine gw_iconst (v := (2 : Int32)) C d_K_term_77 (by decide) ?_
              refine gw_icmp_ne (tgt := 99) C d_K_term_78 (by decide) (fun c => ?_) (fun c => ?_)
              · have hf := (if_neg c).symm.trans hf
                refine gw_iconst (v := (-1 : Int32)) C d_K_term_99 (by decide) ?_
                exact gw_ireti C d_K_term_100 (wk ad cI cZ cC) hf
              · have hf := (if_pos c).symm.trans hf
                refine gw_aload_n C 0 d_K_term_81 rfl rfl ?_
                refine gw_iload_n C 1 d_K_term_82 rfl rfl ?_
                refine gw_iload C 4 d_K_term_83 rfl ?_
                obtain ⟨r85, M85, hc85, hf⟩ := ob_some hf
                refine gw_callVr (rest := []) C 0 wkg_0 clg_5 (c_K_isWanted C.2.2.2.2.2.2.2.2.2.2 hc85) (cwV 2 C.2.2.2.2.1 (gTB_V tw_834 mv_K_isWanted) rfl rfl rfl pd_K_isWanted ⟨Nat.le_of_ble_eq_true rfl, Nat.le_of_ble_eq_true rfl⟩) rfl rfl (Nat.le_of_ble_eq_true rfl) d_K_term_85 ⟨Nat.le_of_ble_eq_true rfl, Nat.le_of_ble_eq_true rfl⟩ ?_
                refine gw_if_eq (tgt := 95) C d_K_term_88 (by decide) (fun c => ?_) (fun c => ?_)
                · have hf := (if_pos c).symm.trans hf
                  refine gw_iconst (v := (0 : Int32)) C d_K_term_95 (by decide) ?_
                  refine gw_goto (tgt := 100) C d_K_term_96 (by decide) ?_
                  exact gw_ireti C d_K_term_100 (wk ad cI cZ cC) hf
                · have hf := (if_neg c).symm.trans hf
                  refine gw_iconst (v := (1 : Int32)) C d_K_term_91 (by decide) ?_
                  refine gw_goto (tgt := 100) C d_K_term_92 (by decide) ?_
                  exact gw_ireti C d_K_term_100 (wk ad cI cZ cC) hf
            · have hf := (if_pos c).symm.trans hf
              refine gw_aload_n C 0 d_K_term_66 rfl rfl ?_
              refine gw_iload_n C 1 d_K_term_67 rfl rfl ?_
              refine gw_iload C 4 d_K_term_68 rfl ?_
              obtain ⟨r70, M70, hc70, hf⟩ := ob_some hf
              refine gw_callVr (rest := []) C 0 wkg_0 clg_5 (c_K_setOf C.2.2.2.2.2.2.2.2.2.2 hc70) (cwV 2 C.2.2.2.2.1 (gTB_V tw_830 mv_K_setOf) rfl rfl rfl pd_K_setOf ⟨Nat.le_of_ble_eq_true rfl, Nat.le_of_ble_eq_true rfl⟩) rfl rfl (Nat.le_of_ble_eq_true rfl) d_K_term_70 ⟨Nat.le_of_ble_eq_true rfl, Nat.le_of_ble_eq_true rfl⟩ ?_
              refine gw_goto (tgt := 100) C d_K_term_73 (by decide) ?_
              exact gw_ireti C d_K_term_100 (wk ad cI cZ cC) hf
          · have hf := (if_pos c).symm.trans hf
            refine gw_iload C 4 d_K_term_56 rfl ?_
            refine gw_goto (tgt := 100) C d_K_term_58 (by decide) ?_
            exact gw_ireti C d_K_term_100 (wk ad cI cZ cC) hf
      · have hf := (if_pos c).symm.trans hf
        refine gw_goto (tgt := 104) C d_K_term_44 (by decide) ?_
        refine gw_iinc (v := x5 + (1 : Int32)) (lv' := [(5, .int (x5 + (1 : Int32))), (0, .ref (ad 0)), (1, .int x1), (3, .int x3), (4, .int x4)]) C 4 d_K_term_104 rfl rfl (by decide) rfl ?_
        refine gw_goto (tgt := 21) C d_K_term_107 (by decide) ?_
        exact gw_sub [1, 2, 3, 4, 0] rfl (ih _ _ _ _ _ hf)
def f_K_term (x1 : Int32) (x2 : Int32) (x3 : Int32) (M : Mem) : Option (Int32 × Mem) :=
  ob (f_K_isNode x1 (ms M 0 0 (0 : Int32))) fun r7 M7 => if r7 = 0 then some ((-1 : Int32), M7) else f_K_term_21 100000 x1 x3 x2 (0 : Int32) M7
set_option maxRecDepth 100000 in
theorem g_K_term {r : Int32} {M' : Mem} (C : GC p s m args meth c b_K_term 6 (some (FieldType.int)) "NoneWordsModel" TB D vwCl (tysW cI cZ cC) A Z) {x1 : Int32} {x2 : Int32} {x3 : Int32} {M : Mem} (hf : f_K_term x1 x2 x3 M = some (r, M')) : GW p l e rm_K_term s m args below meth c (MQ below (QW D vwCl (tysW cI cZ cC) A (some (.int r)) (wk ad cI cZ cC M')) args s 0 0 A) D vwCl A 6 0 0 (wk ad cI cZ cC M) 0 [(0, .ref (ad 0)), (1, .int x1), (2, .int x2), (3, .int x3)] [] := by
  unfold f_K_term at hf
  refine gw_aload_n C 0 d_K_term_0 rfl rfl ?_
  refine gw_iconst (v := (0 : Int32)) C d_K_term_1 (by decide) ?_
  refine gw_put C in_K ty_K tk_K nm_K 0 wkg_0 clg_5 0 (by decide) tw_686 rfl rfl rfl rfl (Nat.le_of_ble_eq_true rfl) d_K_term_2 wkf_0_0 ?_
  refine gw_aload_n C 0 d_K_term_5 rfl rfl ?_
  refine gw_iload_n C 1 d_K_term_6 rfl rfl ?_
  obtain ⟨r7, M7, hc7, hf⟩ := ob_some hf
  refine gw_callVr (rest := []) C 0 wkg_0 clg_5 (c_K_isNode C.2.2.2.2.2.2.2.2.2.2 hc7) (cwV 1 C.2.2.2.2.1 (gTB_V tw_814 mv_K_isNode) rfl rfl rfl pd_K_isNode ⟨Nat.le_of_ble_eq_true rfl, Nat.le_of_ble_eq_true rfl⟩) rfl rfl (Nat.le_of_ble_eq_true rfl) d_K_term_7 ⟨Nat.le_of_ble_eq_true rfl, Nat.le_of_ble_eq_true rfl⟩ ?_
  refine gw_if_ne (tgt := 15) C d_K_term_10 (by decide) (fun c => ?_) (fun c => ?_)
  · have hf := (if_neg c).symm.trans hf
    refine gw_iload_n C 2 d_K_term_15 rfl rfl ?_
    refine gw_istore (lv' := [(4, .int x2), (0, .ref (ad 0)), (1, .int x1), (2, .int x2), (3, .int x3)]) C d_K_term_16 (by decide) rfl ?_
    refine gw_iconst (v := (0 : Int32)) C d_K_term_18 (by decide) ?_
    refine gw_istore (lv' := [(5, .int (0 : Int32)), (4, .int x2), (0, .ref (ad 0)), (1, .int x1), (2, .int x2), (3, .int x3)]) C d_K_term_19 (by decide) rfl ?_
    exact gw_sub [2, 3, 5, 1, 0] rfl (g_K_term_21 C _ _ _ _ _ _ hf)
  · have hf := (if_pos c).symm.trans hf
    refine gw_iconst (v := (-1 : Int32)) C d_K_term_13 (by decide) ?_
    exact gw_ireti C d_K_term_14 (wk ad cI cZ cC) hf
theorem c_K_term (hZ : gw_ZOK Z) {x1 : Int32} {x2 : Int32} {x3 : Int32} {M : Mem} {r : Int32} {M' : Mem} (hf : f_K_term x1 x2 x3 M = some (r, M')) : CW l y_K_term ws_K_term rm_K_term D vwCl (tysW cI cZ cC) Z [.ref (ad 0), .int x1, .int x2, .int x3] (wk ad cI cZ cC M) (some (.int r)) (wk ad cI cZ cC M') 0 0 :=
  CW.ofG hZ (by decide) rfl (Nat.le_of_ble_eq_true rfl) (fun _ _ _ _ _ _ _ _ C _ => g_K_term C hf)
end MODEL1
