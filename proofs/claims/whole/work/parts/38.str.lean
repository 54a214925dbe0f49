/-! String constants among the premises, by their places -/
def strCl (i : Nat) : List Cond := [Cond.exactly (tmS i) "java/lang/String", Cond.eq (.field (tmS i) "java/lang/String" "coder" "B") (.int 0), Cond.arrayOf (.field (tmS i) "java/lang/String" "value" "[B") .byte, Cond.eq (.length (.field (tmS i) "java/lang/String" "value" "[B")) (.int (Int32.ofNat (strB.getD i []).length))] ++ (List.range (strB.getD i []).length).map fun j => Cond.eq (.elem (.field (tmS i) "java/lang/String" "value" "[B") (.int (Int32.ofNat j))) (.int (Int32.ofInt ((strB.getD i []).getD j 0)))
theorem strC_0 : strCl 0 = ([42, 43, 44, 45, 46, 47, 48, 49] : List Nat).filterMap (fun k => fl0[k]?) := by decide +kernel
theorem strC_1 : strCl 1 = ([50, 51, 52, 53, 54, 55, 56, 57, 58] : List Nat).filterMap (fun k => fl0[k]?) := by decide +kernel
theorem strC_2 : strCl 2 = ([59, 60, 61, 62, 63, 64] : List Nat).filterMap (fun k => fl0[k]?) := by decide +kernel
theorem strC_3 : strCl 3 = ([65, 66, 67, 68, 69, 70] : List Nat).filterMap (fun k => fl0[k]?) := by decide +kernel
theorem strC_4 : strCl 4 = ([71, 72, 73, 74, 75, 76, 77] : List Nat).filterMap (fun k => fl0[k]?) := by decide +kernel
theorem strC_5 : strCl 5 = ([78, 79, 80, 81, 82, 83] : List Nat).filterMap (fun k => fl0[k]?) := by decide +kernel
theorem strC_6 : strCl 6 = ([84, 85, 86, 87, 88, 89, 90] : List Nat).filterMap (fun k => fl0[k]?) := by decide +kernel
theorem strC_7 : strCl 7 = ([91, 92, 93, 94, 95, 96, 97] : List Nat).filterMap (fun k => fl0[k]?) := by decide +kernel
theorem strC_8 : strCl 8 = ([98, 99, 100, 101, 102, 103, 104] : List Nat).filterMap (fun k => fl0[k]?) := by decide +kernel
theorem strC_9 : strCl 9 = ([105, 106, 107, 108, 109, 110, 111, 112] : List Nat).filterMap (fun k => fl0[k]?) := by decide +kernel
theorem strC_10 : strCl 10 = ([113, 114, 115, 116, 117, 118, 119, 120] : List Nat).filterMap (fun k => fl0[k]?) := by decide +kernel
theorem strC_11 : strCl 11 = ([121, 122, 123, 124, 125, 126, 127] : List Nat).filterMap (fun k => fl0[k]?) := by decide +kernel
theorem strC_12 : strCl 12 = ([128, 129, 130, 131, 132, 133, 134, 135] : List Nat).filterMap (fun k => fl0[k]?) := by decide +kernel
theorem strC_13 : strCl 13 = ([136, 137, 138, 139, 140, 141, 142, 143] : List Nat).filterMap (fun k => fl0[k]?) := by decide +kernel
theorem strC_14 : strCl 14 = ([144, 145, 146, 147, 148, 149, 150, 151, 152] : List Nat).filterMap (fun k => fl0[k]?) := by decide +kernel
theorem strC_15 : strCl 15 = ([153, 154, 155, 156, 157, 158, 159] : List Nat).filterMap (fun k => fl0[k]?) := by decide +kernel
theorem strC_16 : strCl 16 = ([160, 161, 162, 163, 164, 165, 166] : List Nat).filterMap (fun k => fl0[k]?) := by decide +kernel
theorem strC_17 : strCl 17 = ([167, 168, 169, 170, 171, 172, 173, 174] : List Nat).filterMap (fun k => fl0[k]?) := by decide +kernel
theorem strC_18 : strCl 18 = ([175, 176, 177, 178, 179, 180, 181] : List Nat).filterMap (fun k => fl0[k]?) := by decide +kernel
theorem strC_19 : strCl 19 = ([182, 183, 184, 185, 186, 187, 188] : List Nat).filterMap (fun k => fl0[k]?) := by decide +kernel
theorem strC_20 : strCl 20 = ([189, 190, 191, 192, 193, 194] : List Nat).filterMap (fun k => fl0[k]?) := by decide +kernel
theorem strC_21 : strCl 21 = ([195, 196, 197, 198, 199, 200, 201, 202] : List Nat).filterMap (fun k => fl0[k]?) := by decide +kernel
theorem strC_22 : strCl 22 = ([203, 204, 205, 206, 207, 208, 209, 210] : List Nat).filterMap (fun k => fl0[k]?) := by decide +kernel
theorem strC_23 : strCl 23 = ([211, 212, 213, 214, 215, 216] : List Nat).filterMap (fun k => fl0[k]?) := by decide +kernel
theorem strC_24 : strCl 24 = ([217, 218, 219, 220, 221, 222] : List Nat).filterMap (fun k => fl0[k]?) := by decide +kernel
theorem strC_25 : strCl 25 = ([223, 224, 225, 226, 227, 228] : List Nat).filterMap (fun k => fl0[k]?) := by decide +kernel
theorem strC_26 : strCl 26 = ([229, 230, 231, 232, 233, 234] : List Nat).filterMap (fun k => fl0[k]?) := by decide +kernel
theorem strC_27 : strCl 27 = ([235, 236, 237, 238, 239, 240] : List Nat).filterMap (fun k => fl0[k]?) := by decide +kernel
theorem strC_28 : strCl 28 = ([241, 242, 243, 244, 245, 246] : List Nat).filterMap (fun k => fl0[k]?) := by decide +kernel
theorem strC_29 : strCl 29 = ([247, 248, 249, 250, 251, 252] : List Nat).filterMap (fun k => fl0[k]?) := by decide +kernel
theorem strC_30 : strCl 30 = ([253, 254, 255, 256, 257, 258] : List Nat).filterMap (fun k => fl0[k]?) := by decide +kernel
theorem strC_31 : strCl 31 = ([259, 260, 261, 262] : List Nat).filterMap (fun k => fl0[k]?) := by decide +kernel
theorem strC_32 : strCl 32 = ([263, 264, 265, 266, 267, 268] : List Nat).filterMap (fun k => fl0[k]?) := by decide +kernel
theorem strC_33 : strCl 33 = ([270, 271, 272, 273, 274, 275, 276] : List Nat).filterMap (fun k => fl0[k]?) := by decide +kernel
theorem strC_34 : strCl 34 = ([278, 279, 280, 281, 282, 283, 284, 285] : List Nat).filterMap (fun k => fl0[k]?) := by decide +kernel
theorem strC_35 : strCl 35 = ([287, 288, 289, 290, 291, 292, 293, 294, 295] : List Nat).filterMap (fun k => fl0[k]?) := by decide +kernel
theorem strC_36 : strCl 36 = ([297, 298, 299, 300, 301, 302] : List Nat).filterMap (fun k => fl0[k]?) := by decide +kernel
theorem strC_37 : strCl 37 = ([304, 305, 306, 307, 308, 309] : List Nat).filterMap (fun k => fl0[k]?) := by decide +kernel
theorem strC_38 : strCl 38 = ([311, 312, 313, 314, 315, 316, 317] : List Nat).filterMap (fun k => fl0[k]?) := by decide +kernel
theorem strC_39 : strCl 39 = ([319, 320, 321, 322, 323, 324, 325] : List Nat).filterMap (fun k => fl0[k]?) := by decide +kernel
theorem strC_40 : strCl 40 = ([327, 328, 329, 330, 331, 332, 333, 334] : List Nat).filterMap (fun k => fl0[k]?) := by decide +kernel
theorem strC_41 : strCl 41 = ([336, 337, 338, 339, 340, 341, 342, 343] : List Nat).filterMap (fun k => fl0[k]?) := by decide +kernel
theorem strC_42 : strCl 42 = ([345, 346, 347, 348, 349, 350, 351] : List Nat).filterMap (fun k => fl0[k]?) := by decide +kernel
theorem strC_43 : strCl 43 = ([353, 354, 355, 356, 357, 358, 359, 360] : List Nat).filterMap (fun k => fl0[k]?) := by decide +kernel
theorem strC_44 : strCl 44 = ([362, 363, 364, 365, 366, 367, 368] : List Nat).filterMap (fun k => fl0[k]?) := by decide +kernel
theorem strC_45 : strCl 45 = ([370, 371, 372, 373, 374, 375, 376, 377] : List Nat).filterMap (fun k => fl0[k]?) := by decide +kernel
theorem strC_46 : strCl 46 = ([379, 380, 381, 382, 383, 384, 385, 386, 387] : List Nat).filterMap (fun k => fl0[k]?) := by decide +kernel
theorem strC_47 : strCl 47 = ([389, 390, 391, 392, 393, 394, 395] : List Nat).filterMap (fun k => fl0[k]?) := by decide +kernel
theorem strC_48 : strCl 48 = ([397, 398, 399, 400, 401, 402, 403] : List Nat).filterMap (fun k => fl0[k]?) := by decide +kernel
theorem strC_49 : strCl 49 = ([405, 406, 407, 408, 409, 410, 411, 412] : List Nat).filterMap (fun k => fl0[k]?) := by decide +kernel
theorem strC_50 : strCl 50 = ([414, 415, 416, 417, 418, 419, 420] : List Nat).filterMap (fun k => fl0[k]?) := by decide +kernel
theorem strC_51 : strCl 51 = ([422, 423, 424, 425, 426, 427, 428] : List Nat).filterMap (fun k => fl0[k]?) := by decide +kernel
theorem strC_52 : strCl 52 = ([430, 431, 432, 433, 434, 435] : List Nat).filterMap (fun k => fl0[k]?) := by decide +kernel
theorem strC_53 : strCl 53 = ([437, 438, 439, 440, 441, 442, 443, 444] : List Nat).filterMap (fun k => fl0[k]?) := by decide +kernel
theorem strC_54 : strCl 54 = ([446, 447, 448, 449, 450, 451, 452, 453] : List Nat).filterMap (fun k => fl0[k]?) := by decide +kernel
theorem strC_55 : strCl 55 = ([455, 456, 457, 458, 459, 460] : List Nat).filterMap (fun k => fl0[k]?) := by decide +kernel
theorem strC_56 : strCl 56 = ([462, 463, 464, 465, 466, 467] : List Nat).filterMap (fun k => fl0[k]?) := by decide +kernel
theorem strC_57 : strCl 57 = ([469, 470, 471, 472, 473, 474] : List Nat).filterMap (fun k => fl0[k]?) := by decide +kernel
theorem strC_58 : strCl 58 = ([476, 477, 478, 479, 480, 481] : List Nat).filterMap (fun k => fl0[k]?) := by decide +kernel
theorem strC_59 : strCl 59 = ([483, 484, 485, 486, 487, 488] : List Nat).filterMap (fun k => fl0[k]?) := by decide +kernel
theorem strC_60 : strCl 60 = ([490, 491, 492, 493, 494, 495] : List Nat).filterMap (fun k => fl0[k]?) := by decide +kernel
theorem strC_61 : strCl 61 = ([497, 498, 499, 500, 501, 502] : List Nat).filterMap (fun k => fl0[k]?) := by decide +kernel
theorem strC_62 : strCl 62 = ([504, 505, 506, 507, 508, 509] : List Nat).filterMap (fun k => fl0[k]?) := by decide +kernel
theorem strC_m {i : Nat} {ps : List Nat} (e : strCl i = ps.filterMap (fun k => fl0[k]?)) : ∀ w ∈ strCl i, w ∈ fl0 := by
  intro w hw
  rw [e] at hw
  obtain ⟨k, -, hk⟩ := List.mem_filterMap.mp hw
  exact List.mem_of_getElem? hk
theorem strCm : ∀ i, i < NS → ∀ w ∈ strCl i, w ∈ fl0 := by
  intro i hi
  match i, hi with
  | 0, _ => exact strC_m strC_0
  | 1, _ => exact strC_m strC_1
  | 2, _ => exact strC_m strC_2
  | 3, _ => exact strC_m strC_3
  | 4, _ => exact strC_m strC_4
  | 5, _ => exact strC_m strC_5
  | 6, _ => exact strC_m strC_6
  | 7, _ => exact strC_m strC_7
  | 8, _ => exact strC_m strC_8
  | 9, _ => exact strC_m strC_9
  | 10, _ => exact strC_m strC_10
  | 11, _ => exact strC_m strC_11
  | 12, _ => exact strC_m strC_12
  | 13, _ => exact strC_m strC_13
  | 14, _ => exact strC_m strC_14
  | 15, _ => exact strC_m strC_15
  | 16, _ => exact strC_m strC_16
  | 17, _ => exact strC_m strC_17
  | 18, _ => exact strC_m strC_18
  | 19, _ => exact strC_m strC_19
  | 20, _ => exact strC_m strC_20
  | 21, _ => exact strC_m strC_21
  | 22, _ => exact strC_m strC_22
  | 23, _ => exact strC_m strC_23
  | 24, _ => exact strC_m strC_24
  | 25, _ => exact strC_m strC_25
  | 26, _ => exact strC_m strC_26
  | 27, _ => exact strC_m strC_27
  | 28, _ => exact strC_m strC_28
  | 29, _ => exact strC_m strC_29
  | 30, _ => exact strC_m strC_30
  | 31, _ => exact strC_m strC_31
  | 32, _ => exact strC_m strC_32
  | 33, _ => exact strC_m strC_33
  | 34, _ => exact strC_m strC_34
  | 35, _ => exact strC_m strC_35
  | 36, _ => exact strC_m strC_36
  | 37, _ => exact strC_m strC_37
  | 38, _ => exact strC_m strC_38
  | 39, _ => exact strC_m strC_39
  | 40, _ => exact strC_m strC_40
  | 41, _ => exact strC_m strC_41
  | 42, _ => exact strC_m strC_42
  | 43, _ => exact strC_m strC_43
  | 44, _ => exact strC_m strC_44
  | 45, _ => exact strC_m strC_45
  | 46, _ => exact strC_m strC_46
  | 47, _ => exact strC_m strC_47
  | 48, _ => exact strC_m strC_48
  | 49, _ => exact strC_m strC_49
  | 50, _ => exact strC_m strC_50
  | 51, _ => exact strC_m strC_51
  | 52, _ => exact strC_m strC_52
  | 53, _ => exact strC_m strC_53
  | 54, _ => exact strC_m strC_54
  | 55, _ => exact strC_m strC_55
  | 56, _ => exact strC_m strC_56
  | 57, _ => exact strC_m strC_57
  | 58, _ => exact strC_m strC_58
  | 59, _ => exact strC_m strC_59
  | 60, _ => exact strC_m strC_60
  | 61, _ => exact strC_m strC_61
  | 62, _ => exact strC_m strC_62
  | k + 63, h => exact absurd h (by show ¬ k + 63 < 63; omega)
theorem strC (i : Nat) (hi : i < NS) : Cond.exactly (tmS i) "java/lang/String" ∈ fl0 ∧ Cond.eq (.field (tmS i) "java/lang/String" "coder" "B") (.int 0) ∈ fl0 ∧ Cond.arrayOf (.field (tmS i) "java/lang/String" "value" "[B") .byte ∈ fl0 ∧ Cond.eq (.length (.field (tmS i) "java/lang/String" "value" "[B")) (.int (Int32.ofNat (strB.getD i []).length)) ∈ fl0 ∧
    ∀ j, j < (strB.getD i []).length → Cond.eq (.elem (.field (tmS i) "java/lang/String" "value" "[B") (.int (Int32.ofNat j))) (.int (Int32.ofInt ((strB.getD i []).getD j 0))) ∈ fl0 := by
  have h := strCm i hi
  refine ⟨h _ (by simp [strCl]), h _ (by simp [strCl]), h _ (by simp [strCl]), h _ (by simp [strCl]), fun j hj => h _ ?_⟩
  exact List.mem_append_right _ (List.mem_map.mpr ⟨j, List.mem_range.mpr hj, rfl⟩)
