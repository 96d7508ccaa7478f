/-! Words of the tables, by their places. -/
def tFldI : List (List Nat) := [[566, 567, 568, 569, 481, 179, 483, 485, 458, 290, 446, 452, 238, 461, 374, 324, 299, 302, 307, 318, 315, 311, 242, 293, 227, 247, 252, 257, 262, 466, 448, 427, 424, 432, 430, 517, 519, 521, 523, 554, 552], [480, 486, 180, 482, 484, 487, 488, 489, 187, 445, 182, 186, 184, 454, 239, 244, 177, 249, 254, 260, 263, 459, 308, 304, 313, 327, 291, 295, 464, 377, 397, 393, 401, 381, 385, 389], [176, 181, 183, 185, 178, 188], [449, 455, 460, 465, 444, 447, 234, 288, 322, 373], [240, 245, 250, 255, 261, 237], [224, 228], [292, 296, 300, 305, 309, 314, 316, 319, 321, 328, 331, 334, 286, 225, 323], [378, 382, 386, 390, 394, 398, 372], [423, 425, 428, 429, 456, 287, 310, 298, 301, 317, 320, 462, 375, 379, 395, 453, 391, 399, 383, 387, 259, 431, 326, 333, 336, 330], [518, 522, 524, 525, 526, 527, 516, 520, 236, 241, 246, 251, 256, 451, 426], [551, 553, 555, 556, 450, 235, 457, 289, 306, 297, 226, 243, 248, 253, 258, 294, 303, 312, 325, 332, 335, 329, 463, 376, 380, 396, 392, 400, 384, 388], [1341, 1343, 1344, 1345, 1346, 1347, 1348, 1349, 1350, 1351, 1352, 1353, 1354, 1355, 1356, 1357, 1358, 1359, 1360, 1361, 1362, 1363, 1364, 1365, 1366, 1367, 1368, 1369, 1370, 1371, 1381, 1382, 1383, 1384, 1385, 1386, 1387, 1388, 1389, 1390, 1392, 1395, 1396, 1397, 1398, 1399, 1401, 1402, 1403, 1404, 1340, 1342, 1378, 1375, 1372, 1373, 1374, 1376, 1377, 1379, 1380, 1391, 1394, 1393, 1400], [], [], [], []]
def kF (o : Nat) (e : Nat × Nat × Nat × aF) (ix : Nat) : Bool := decide (lw_tbl[ix]? = some (.fieldLink (tCn o) e.1 (tCn e.2.1) (tFT e.2.1 e.2.2.1).2.1 (tFT e.2.1 e.2.2.1).2.2.1)) && (decide (e.2.2.1 < (tFL.getD e.2.1 []).length) && (decide (e.2.1 < 12) && e.2.2.2 == (tFs.getD e.2.1 []).getD e.2.2.1 (0, 0, 0)))
def kFo (o : Nat) : Bool := decide ((tFldL.getD o []).length = (tFldI.getD o []).length) && ((tFldL.getD o []).zip (tFldI.getD o [])).all (fun q => kF o q.1 q.2)
theorem kf_0 : kFo 0 = true := by decide +kernel
theorem kf_1 : kFo 1 = true := by decide +kernel
theorem kf_2 : kFo 2 = true := by decide +kernel
theorem kf_3 : kFo 3 = true := by decide +kernel
theorem kf_4 : kFo 4 = true := by decide +kernel
theorem kf_5 : kFo 5 = true := by decide +kernel
theorem kf_6 : kFo 6 = true := by decide +kernel
theorem kf_7 : kFo 7 = true := by decide +kernel
theorem kf_8 : kFo 8 = true := by decide +kernel
theorem kf_9 : kFo 9 = true := by decide +kernel
theorem kf_10 : kFo 10 = true := by decide +kernel
theorem kf_11 : kFo 11 = true := by decide +kernel
theorem kf_12 : kFo 12 = true := by decide +kernel
theorem kf_13 : kFo 13 = true := by decide +kernel
theorem kf_14 : kFo 14 = true := by decide +kernel
theorem kf_15 : kFo 15 = true := by decide +kernel
theorem kc_0 : u_ws (tCn 0) (tFT 0) 4 = ([570, 572, 574, 576] : List Nat).filterMap (fun i => lw_tbl[i]?) := by decide +kernel
theorem kg_0 : (u_ws (tCn 0) (tFT 0) 4).all goodWord = true := by decide +kernel
theorem kt_0 : ∀ k, k < 4 → parseFieldDescriptor (tFT 0 k).2.2.1 = some (tTy 0 k) := by decide +kernel
theorem kn_0 : ∀ a, a < 4 → ∀ b, b < 4 → a ≠ b → (tFT 0 a).2.1 ≠ (tFT 0 b).2.1 := by decide +kernel
theorem kl9_0 : (tFL.getD 0 []).length = 4 ∧ (tFs.getD 0 []).length = 4 := by decide +kernel
theorem ko_0 : ∀ k, k < 4 → (tFT 0 k).1 = tCn 0 := by decide +kernel
theorem kc_1 : u_ws (tCn 1) (tFT 1) 7 = ([490, 492, 494, 496, 498, 500, 502] : List Nat).filterMap (fun i => lw_tbl[i]?) := by decide +kernel
theorem kg_1 : (u_ws (tCn 1) (tFT 1) 7).all goodWord = true := by decide +kernel
theorem kt_1 : ∀ k, k < 7 → parseFieldDescriptor (tFT 1 k).2.2.1 = some (tTy 1 k) := by decide +kernel
theorem kn_1 : ∀ a, a < 7 → ∀ b, b < 7 → a ≠ b → (tFT 1 a).2.1 ≠ (tFT 1 b).2.1 := by decide +kernel
theorem kl9_1 : (tFL.getD 1 []).length = 7 ∧ (tFs.getD 1 []).length = 7 := by decide +kernel
theorem ko_1 : ∀ k, k < 7 → (tFT 1 k).1 = tCn 1 := by decide +kernel
theorem kc_2 : u_ws (tCn 2) (tFT 2) 6 = ([189, 191, 193, 195, 197, 199] : List Nat).filterMap (fun i => lw_tbl[i]?) := by decide +kernel
theorem kg_2 : (u_ws (tCn 2) (tFT 2) 6).all goodWord = true := by decide +kernel
theorem kt_2 : ∀ k, k < 6 → parseFieldDescriptor (tFT 2 k).2.2.1 = some (tTy 2 k) := by decide +kernel
theorem kn_2 : ∀ a, a < 6 → ∀ b, b < 6 → a ≠ b → (tFT 2 a).2.1 ≠ (tFT 2 b).2.1 := by decide +kernel
theorem kl9_2 : (tFL.getD 2 []).length = 6 ∧ (tFs.getD 2 []).length = 6 := by decide +kernel
theorem ko_2 : ∀ k, k < 6 → (tFT 2 k).1 = tCn 2 := by decide +kernel
theorem kc_3 : u_ws (tCn 3) (tFT 3) 6 = ([467, 469, 471, 473, 475, 477] : List Nat).filterMap (fun i => lw_tbl[i]?) := by decide +kernel
theorem kg_3 : (u_ws (tCn 3) (tFT 3) 6).all goodWord = true := by decide +kernel
theorem kt_3 : ∀ k, k < 6 → parseFieldDescriptor (tFT 3 k).2.2.1 = some (tTy 3 k) := by decide +kernel
theorem kn_3 : ∀ a, a < 6 → ∀ b, b < 6 → a ≠ b → (tFT 3 a).2.1 ≠ (tFT 3 b).2.1 := by decide +kernel
theorem kl9_3 : (tFL.getD 3 []).length = 6 ∧ (tFs.getD 3 []).length = 6 := by decide +kernel
theorem ko_3 : ∀ k, k < 6 → (tFT 3 k).1 = tCn 3 := by decide +kernel
theorem kc_4 : u_ws (tCn 4) (tFT 4) 6 = ([264, 266, 268, 270, 272, 274] : List Nat).filterMap (fun i => lw_tbl[i]?) := by decide +kernel
theorem kg_4 : (u_ws (tCn 4) (tFT 4) 6).all goodWord = true := by decide +kernel
theorem kt_4 : ∀ k, k < 6 → parseFieldDescriptor (tFT 4 k).2.2.1 = some (tTy 4 k) := by decide +kernel
theorem kn_4 : ∀ a, a < 6 → ∀ b, b < 6 → a ≠ b → (tFT 4 a).2.1 ≠ (tFT 4 b).2.1 := by decide +kernel
theorem kl9_4 : (tFL.getD 4 []).length = 6 ∧ (tFs.getD 4 []).length = 6 := by decide +kernel
theorem ko_4 : ∀ k, k < 6 → (tFT 4 k).1 = tCn 4 := by decide +kernel
theorem kc_5 : u_ws (tCn 5) (tFT 5) 2 = ([229, 231] : List Nat).filterMap (fun i => lw_tbl[i]?) := by decide +kernel
theorem kg_5 : (u_ws (tCn 5) (tFT 5) 2).all goodWord = true := by decide +kernel
theorem kt_5 : ∀ k, k < 2 → parseFieldDescriptor (tFT 5 k).2.2.1 = some (tTy 5 k) := by decide +kernel
theorem kn_5 : ∀ a, a < 2 → ∀ b, b < 2 → a ≠ b → (tFT 5 a).2.1 ≠ (tFT 5 b).2.1 := by decide +kernel
theorem kl9_5 : (tFL.getD 5 []).length = 2 ∧ (tFs.getD 5 []).length = 2 := by decide +kernel
theorem ko_5 : ∀ k, k < 2 → (tFT 5 k).1 = tCn 5 := by decide +kernel
theorem kc_6 : u_ws (tCn 6) (tFT 6) 14 = ([337, 339, 341, 343, 345, 347, 349, 351, 353, 355, 357, 359, 361, 363] : List Nat).filterMap (fun i => lw_tbl[i]?) := by decide +kernel
theorem kg_6 : (u_ws (tCn 6) (tFT 6) 14).all goodWord = true := by decide +kernel
theorem kt_6 : ∀ k, k < 14 → parseFieldDescriptor (tFT 6 k).2.2.1 = some (tTy 6 k) := by decide +kernel
theorem kn_6 : ∀ a, a < 14 → ∀ b, b < 14 → a ≠ b → (tFT 6 a).2.1 ≠ (tFT 6 b).2.1 := by decide +kernel
theorem kl9_6 : (tFL.getD 6 []).length = 14 ∧ (tFs.getD 6 []).length = 14 := by decide +kernel
theorem ko_6 : ∀ k, k < 14 → (tFT 6 k).1 = tCn 6 := by decide +kernel
theorem kc_7 : u_ws (tCn 7) (tFT 7) 7 = ([402, 404, 406, 408, 410, 412, 414] : List Nat).filterMap (fun i => lw_tbl[i]?) := by decide +kernel
theorem kg_7 : (u_ws (tCn 7) (tFT 7) 7).all goodWord = true := by decide +kernel
theorem kt_7 : ∀ k, k < 7 → parseFieldDescriptor (tFT 7 k).2.2.1 = some (tTy 7 k) := by decide +kernel
theorem kn_7 : ∀ a, a < 7 → ∀ b, b < 7 → a ≠ b → (tFT 7 a).2.1 ≠ (tFT 7 b).2.1 := by decide +kernel
theorem kl9_7 : (tFL.getD 7 []).length = 7 ∧ (tFs.getD 7 []).length = 7 := by decide +kernel
theorem ko_7 : ∀ k, k < 7 → (tFT 7 k).1 = tCn 7 := by decide +kernel
theorem kc_8 : u_ws (tCn 8) (tFT 8) 5 = ([433, 435, 437, 439, 441] : List Nat).filterMap (fun i => lw_tbl[i]?) := by decide +kernel
theorem kg_8 : (u_ws (tCn 8) (tFT 8) 5).all goodWord = true := by decide +kernel
theorem kt_8 : ∀ k, k < 5 → parseFieldDescriptor (tFT 8 k).2.2.1 = some (tTy 8 k) := by decide +kernel
theorem kn_8 : ∀ a, a < 5 → ∀ b, b < 5 → a ≠ b → (tFT 8 a).2.1 ≠ (tFT 8 b).2.1 := by decide +kernel
theorem kl9_8 : (tFL.getD 8 []).length = 5 ∧ (tFs.getD 8 []).length = 5 := by decide +kernel
theorem ko_8 : ∀ k, k < 5 → (tFT 8 k).1 = tCn 8 := by decide +kernel
theorem kc_9 : u_ws (tCn 9) (tFT 9) 8 = ([528, 530, 532, 534, 536, 538, 540, 542] : List Nat).filterMap (fun i => lw_tbl[i]?) := by decide +kernel
theorem kg_9 : (u_ws (tCn 9) (tFT 9) 8).all goodWord = true := by decide +kernel
theorem kt_9 : ∀ k, k < 8 → parseFieldDescriptor (tFT 9 k).2.2.1 = some (tTy 9 k) := by decide +kernel
theorem kn_9 : ∀ a, a < 8 → ∀ b, b < 8 → a ≠ b → (tFT 9 a).2.1 ≠ (tFT 9 b).2.1 := by decide +kernel
theorem kl9_9 : (tFL.getD 9 []).length = 8 ∧ (tFs.getD 9 []).length = 8 := by decide +kernel
theorem ko_9 : ∀ k, k < 8 → (tFT 9 k).1 = tCn 9 := by decide +kernel
theorem kc_10 : u_ws (tCn 10) (tFT 10) 4 = ([557, 559, 561, 563] : List Nat).filterMap (fun i => lw_tbl[i]?) := by decide +kernel
theorem kg_10 : (u_ws (tCn 10) (tFT 10) 4).all goodWord = true := by decide +kernel
theorem kt_10 : ∀ k, k < 4 → parseFieldDescriptor (tFT 10 k).2.2.1 = some (tTy 10 k) := by decide +kernel
theorem kn_10 : ∀ a, a < 4 → ∀ b, b < 4 → a ≠ b → (tFT 10 a).2.1 ≠ (tFT 10 b).2.1 := by decide +kernel
theorem kl9_10 : (tFL.getD 10 []).length = 4 ∧ (tFs.getD 10 []).length = 4 := by decide +kernel
theorem ko_10 : ∀ k, k < 4 → (tFT 10 k).1 = tCn 10 := by decide +kernel
theorem kc_11 : u_ws (tCn 11) (tFT 11) 65 = ([1405, 1407, 1409, 1411, 1413, 1415, 1417, 1419, 1421, 1423, 1425, 1427, 1429, 1431, 1433, 1435, 1437, 1439, 1441, 1443, 1445, 1447, 1449, 1451, 1453, 1455, 1457, 1459, 1461, 1463, 1465, 1467, 1469, 1471, 1473, 1475, 1477, 1479, 1481, 1483, 1485, 1487, 1489, 1491, 1493, 1495, 1497, 1499, 1501, 1503, 1505, 1507, 1509, 1511, 1513, 1515, 1517, 1519, 1521, 1523, 1525, 1527, 1529, 1531, 1533] : List Nat).filterMap (fun i => lw_tbl[i]?) := by decide +kernel
theorem kg_11 : (u_ws (tCn 11) (tFT 11) 65).all goodWord = true := by decide +kernel
theorem kt_11 : ∀ k, k < 65 → parseFieldDescriptor (tFT 11 k).2.2.1 = some (tTy 11 k) := by decide +kernel
theorem kn_11 : ∀ a, a < 65 → ∀ b, b < 65 → a ≠ b → (tFT 11 a).2.1 ≠ (tFT 11 b).2.1 := by decide +kernel
theorem kl9_11 : (tFL.getD 11 []).length = 65 ∧ (tFs.getD 11 []).length = 65 := by decide +kernel
theorem ko_11 : ∀ k, k < 65 → (tFT 11 k).1 = tCn 11 := by decide +kernel
