/-! Words of the tables, by their places. -/
def tFldI : List (List Nat) := [[636, 637, 638, 639, 547, 259, 549, 551, 524, 356, 512, 518, 304, 527, 440, 390, 365, 368, 373, 384, 381, 377, 308, 359, 192, 313, 318, 323, 328, 532, 514, 493, 490, 498, 496, 583, 585, 587, 589, 621, 619], [546, 552, 260, 548, 550, 553, 554, 555, 267, 511, 262, 266, 264, 520, 305, 310, 257, 315, 320, 326, 329, 525, 370, 379, 374, 393, 357, 361, 530, 443, 463, 459, 467, 447, 451, 455], [256, 261, 263, 265, 269, 258, 268], [515, 521, 526, 531, 510, 513, 300, 354, 388, 439], [306, 311, 316, 321, 327, 303], [189, 193], [358, 362, 366, 371, 375, 380, 382, 385, 387, 394, 397, 400, 352, 190, 389], [444, 448, 452, 456, 460, 464, 438], [489, 491, 494, 495, 522, 353, 376, 364, 367, 383, 386, 528, 441, 445, 461, 519, 457, 465, 449, 453, 324, 497, 392, 399, 402, 396], [584, 588, 590, 591, 592, 593, 582, 586, 302, 307, 312, 317, 322, 517, 492], [618, 622, 620, 623, 624, 516, 301, 523, 355, 372, 363, 191, 309, 314, 319, 325, 360, 369, 378, 391, 398, 401, 395, 529, 442, 446, 462, 458, 466, 450, 454], [1313, 1315, 1316, 1317, 1318, 1319, 1320, 1321, 1322, 1323, 1324, 1325, 1326, 1327, 1328, 1329, 1330, 1331, 1332, 1333, 1334, 1335, 1336, 1337, 1338, 1339, 1340, 1341, 1342, 1343, 1353, 1354, 1355, 1356, 1357, 1358, 1359, 1360, 1361, 1362, 1364, 1367, 1368, 1369, 1370, 1371, 1373, 1374, 1375, 1376, 1312, 1314, 1350, 1347, 1344, 1345, 1346, 1348, 1349, 1351, 1352, 1363, 1366, 1365, 1372], [], [], [], []]
def kF (o : Nat) (e : Nat × Nat × Nat × aF) (ix : Nat) : Bool := decide (lw_tbl[ix]? = some (.fieldLink (tCn o) e.1 (tCn e.2.1) (tFT e.2.1 e.2.2.1).2.1 (tFT e.2.1 e.2.2.1).2.2.1)) && (decide (e.2.2.1 < (tFL.getD e.2.1 []).length) && (decide (e.2.1 < 12) && e.2.2.2 == (tFs.getD e.2.1 []).getD e.2.2.1 (0, 0, 0)))
def kFo (o : Nat) : Bool := decide ((tFldL.getD o []).length = (tFldI.getD o []).length) && ((tFldL.getD o []).zip (tFldI.getD o [])).all (fun q => kF o q.1 q.2)
theorem kf_0 : kFo 0 = true := by decide +kernel
theorem kf_1 : kFo 1 = true := by decide +kernel
theorem kf_2 : kFo 2 = true := by decide +kernel
theorem kf_3 : kFo 3 = true := by decide +kernel
theorem kf_4 : kFo 4 = true := by decide +kernel
theorem kf_5 : kFo 5 = true := by decide +kernel
theorem kf_6 : kFo 6 = true := by decide +kernel
theorem kf_7 : kFo 7 = true := by decide +kernel
theorem kf_8 : kFo 8 = true := by decide +kernel
theorem kf_9 : kFo 9 = true := by decide +kernel
theorem kf_10 : kFo 10 = true := by decide +kernel
theorem kf_11 : kFo 11 = true := by decide +kernel
theorem kf_12 : kFo 12 = true := by decide +kernel
theorem kf_13 : kFo 13 = true := by decide +kernel
theorem kf_14 : kFo 14 = true := by decide +kernel
theorem kf_15 : kFo 15 = true := by decide +kernel
theorem kc_0 : u_ws (tCn 0) (tFT 0) 4 = ([640, 642, 644, 646] : List Nat).filterMap (fun i => lw_tbl[i]?) := by decide +kernel
theorem kg_0 : (u_ws (tCn 0) (tFT 0) 4).all goodWord = true := by decide +kernel
theorem kt_0 : ∀ k, k < 4 → parseFieldDescriptor (tFT 0 k).2.2.1 = some (tTy 0 k) := by decide +kernel
theorem kn_0 : ∀ a, a < 4 → ∀ b, b < 4 → a ≠ b → (tFT 0 a).2.1 ≠ (tFT 0 b).2.1 := by decide +kernel
theorem kl9_0 : (tFL.getD 0 []).length = 4 ∧ (tFs.getD 0 []).length = 4 := by decide +kernel
theorem ko_0 : ∀ k, k < 4 → (tFT 0 k).1 = tCn 0 := by decide +kernel
theorem kc_1 : u_ws (tCn 1) (tFT 1) 7 = ([556, 558, 560, 562, 564, 566, 568] : List Nat).filterMap (fun i => lw_tbl[i]?) := by decide +kernel
theorem kg_1 : (u_ws (tCn 1) (tFT 1) 7).all goodWord = true := by decide +kernel
theorem kt_1 : ∀ k, k < 7 → parseFieldDescriptor (tFT 1 k).2.2.1 = some (tTy 1 k) := by decide +kernel
theorem kn_1 : ∀ a, a < 7 → ∀ b, b < 7 → a ≠ b → (tFT 1 a).2.1 ≠ (tFT 1 b).2.1 := by decide +kernel
theorem kl9_1 : (tFL.getD 1 []).length = 7 ∧ (tFs.getD 1 []).length = 7 := by decide +kernel
theorem ko_1 : ∀ k, k < 7 → (tFT 1 k).1 = tCn 1 := by decide +kernel
theorem kc_2 : u_ws (tCn 2) (tFT 2) 7 = ([270, 272, 274, 276, 278, 280, 282] : List Nat).filterMap (fun i => lw_tbl[i]?) := by decide +kernel
theorem kg_2 : (u_ws (tCn 2) (tFT 2) 7).all goodWord = true := by decide +kernel
theorem kt_2 : ∀ k, k < 7 → parseFieldDescriptor (tFT 2 k).2.2.1 = some (tTy 2 k) := by decide +kernel
theorem kn_2 : ∀ a, a < 7 → ∀ b, b < 7 → a ≠ b → (tFT 2 a).2.1 ≠ (tFT 2 b).2.1 := by decide +kernel
theorem kl9_2 : (tFL.getD 2 []).length = 7 ∧ (tFs.getD 2 []).length = 7 := by decide +kernel
theorem ko_2 : ∀ k, k < 7 → (tFT 2 k).1 = tCn 2 := by decide +kernel
theorem kc_3 : u_ws (tCn 3) (tFT 3) 6 = ([533, 535, 537, 539, 541, 543] : List Nat).filterMap (fun i => lw_tbl[i]?) := by decide +kernel
theorem kg_3 : (u_ws (tCn 3) (tFT 3) 6).all goodWord = true := by decide +kernel
theorem kt_3 : ∀ k, k < 6 → parseFieldDescriptor (tFT 3 k).2.2.1 = some (tTy 3 k) := by decide +kernel
theorem kn_3 : ∀ a, a < 6 → ∀ b, b < 6 → a ≠ b → (tFT 3 a).2.1 ≠ (tFT 3 b).2.1 := by decide +kernel
theorem kl9_3 : (tFL.getD 3 []).length = 6 ∧ (tFs.getD 3 []).length = 6 := by decide +kernel
theorem ko_3 : ∀ k, k < 6 → (tFT 3 k).1 = tCn 3 := by decide +kernel
theorem kc_4 : u_ws (tCn 4) (tFT 4) 6 = ([330, 332, 334, 336, 338, 340] : List Nat).filterMap (fun i => lw_tbl[i]?) := by decide +kernel
theorem kg_4 : (u_ws (tCn 4) (tFT 4) 6).all goodWord = true := by decide +kernel
theorem kt_4 : ∀ k, k < 6 → parseFieldDescriptor (tFT 4 k).2.2.1 = some (tTy 4 k) := by decide +kernel
theorem kn_4 : ∀ a, a < 6 → ∀ b, b < 6 → a ≠ b → (tFT 4 a).2.1 ≠ (tFT 4 b).2.1 := by decide +kernel
theorem kl9_4 : (tFL.getD 4 []).length = 6 ∧ (tFs.getD 4 []).length = 6 := by decide +kernel
theorem ko_4 : ∀ k, k < 6 → (tFT 4 k).1 = tCn 4 := by decide +kernel
theorem kc_5 : u_ws (tCn 5) (tFT 5) 2 = ([194, 196] : List Nat).filterMap (fun i => lw_tbl[i]?) := by decide +kernel
theorem kg_5 : (u_ws (tCn 5) (tFT 5) 2).all goodWord = true := by decide +kernel
theorem kt_5 : ∀ k, k < 2 → parseFieldDescriptor (tFT 5 k).2.2.1 = some (tTy 5 k) := by decide +kernel
theorem kn_5 : ∀ a, a < 2 → ∀ b, b < 2 → a ≠ b → (tFT 5 a).2.1 ≠ (tFT 5 b).2.1 := by decide +kernel
theorem kl9_5 : (tFL.getD 5 []).length = 2 ∧ (tFs.getD 5 []).length = 2 := by decide +kernel
theorem ko_5 : ∀ k, k < 2 → (tFT 5 k).1 = tCn 5 := by decide +kernel
theorem kc_6 : u_ws (tCn 6) (tFT 6) 14 = ([403, 405, 407, 409, 411, 413, 415, 417, 419, 421, 423, 425, 427, 429] : List Nat).filterMap (fun i => lw_tbl[i]?) := by decide +kernel
theorem kg_6 : (u_ws (tCn 6) (tFT 6) 14).all goodWord = true := by decide +kernel
theorem kt_6 : ∀ k, k < 14 → parseFieldDescriptor (tFT 6 k).2.2.1 = some (tTy 6 k) := by decide +kernel
theorem kn_6 : ∀ a, a < 14 → ∀ b, b < 14 → a ≠ b → (tFT 6 a).2.1 ≠ (tFT 6 b).2.1 := by decide +kernel
theorem kl9_6 : (tFL.getD 6 []).length = 14 ∧ (tFs.getD 6 []).length = 14 := by decide +kernel
theorem ko_6 : ∀ k, k < 14 → (tFT 6 k).1 = tCn 6 := by decide +kernel
theorem kc_7 : u_ws (tCn 7) (tFT 7) 7 = ([468, 470, 472, 474, 476, 478, 480] : List Nat).filterMap (fun i => lw_tbl[i]?) := by decide +kernel
theorem kg_7 : (u_ws (tCn 7) (tFT 7) 7).all goodWord = true := by decide +kernel
theorem kt_7 : ∀ k, k < 7 → parseFieldDescriptor (tFT 7 k).2.2.1 = some (tTy 7 k) := by decide +kernel
theorem kn_7 : ∀ a, a < 7 → ∀ b, b < 7 → a ≠ b → (tFT 7 a).2.1 ≠ (tFT 7 b).2.1 := by decide +kernel
theorem kl9_7 : (tFL.getD 7 []).length = 7 ∧ (tFs.getD 7 []).length = 7 := by decide +kernel
theorem ko_7 : ∀ k, k < 7 → (tFT 7 k).1 = tCn 7 := by decide +kernel
theorem kc_8 : u_ws (tCn 8) (tFT 8) 5 = ([499, 501, 503, 505, 507] : List Nat).filterMap (fun i => lw_tbl[i]?) := by decide +kernel
theorem kg_8 : (u_ws (tCn 8) (tFT 8) 5).all goodWord = true := by decide +kernel
theorem kt_8 : ∀ k, k < 5 → parseFieldDescriptor (tFT 8 k).2.2.1 = some (tTy 8 k) := by decide +kernel
theorem kn_8 : ∀ a, a < 5 → ∀ b, b < 5 → a ≠ b → (tFT 8 a).2.1 ≠ (tFT 8 b).2.1 := by decide +kernel
theorem kl9_8 : (tFL.getD 8 []).length = 5 ∧ (tFs.getD 8 []).length = 5 := by decide +kernel
theorem ko_8 : ∀ k, k < 5 → (tFT 8 k).1 = tCn 8 := by decide +kernel
theorem kc_9 : u_ws (tCn 9) (tFT 9) 8 = ([594, 596, 598, 600, 602, 604, 606, 608] : List Nat).filterMap (fun i => lw_tbl[i]?) := by decide +kernel
theorem kg_9 : (u_ws (tCn 9) (tFT 9) 8).all goodWord = true := by decide +kernel
theorem kt_9 : ∀ k, k < 8 → parseFieldDescriptor (tFT 9 k).2.2.1 = some (tTy 9 k) := by decide +kernel
theorem kn_9 : ∀ a, a < 8 → ∀ b, b < 8 → a ≠ b → (tFT 9 a).2.1 ≠ (tFT 9 b).2.1 := by decide +kernel
theorem kl9_9 : (tFL.getD 9 []).length = 8 ∧ (tFs.getD 9 []).length = 8 := by decide +kernel
theorem ko_9 : ∀ k, k < 8 → (tFT 9 k).1 = tCn 9 := by decide +kernel
theorem kc_10 : u_ws (tCn 10) (tFT 10) 5 = ([625, 627, 629, 631, 633] : List Nat).filterMap (fun i => lw_tbl[i]?) := by decide +kernel
theorem kg_10 : (u_ws (tCn 10) (tFT 10) 5).all goodWord = true := by decide +kernel
theorem kt_10 : ∀ k, k < 5 → parseFieldDescriptor (tFT 10 k).2.2.1 = some (tTy 10 k) := by decide +kernel
theorem kn_10 : ∀ a, a < 5 → ∀ b, b < 5 → a ≠ b → (tFT 10 a).2.1 ≠ (tFT 10 b).2.1 := by decide +kernel
theorem kl9_10 : (tFL.getD 10 []).length = 5 ∧ (tFs.getD 10 []).length = 5 := by decide +kernel
theorem ko_10 : ∀ k, k < 5 → (tFT 10 k).1 = tCn 10 := by decide +kernel
theorem kc_11 : u_ws (tCn 11) (tFT 11) 65 = ([1377, 1379, 1381, 1383, 1385, 1387, 1389, 1391, 1393, 1395, 1397, 1399, 1401, 1403, 1405, 1407, 1409, 1411, 1413, 1415, 1417, 1419, 1421, 1423, 1425, 1427, 1429, 1431, 1433, 1435, 1437, 1439, 1441, 1443, 1445, 1447, 1449, 1451, 1453, 1455, 1457, 1459, 1461, 1463, 1465, 1467, 1469, 1471, 1473, 1475, 1477, 1479, 1481, 1483, 1485, 1487, 1489, 1491, 1493, 1495, 1497, 1499, 1501, 1503, 1505] : List Nat).filterMap (fun i => lw_tbl[i]?) := by decide +kernel
theorem kg_11 : (u_ws (tCn 11) (tFT 11) 65).all goodWord = true := by decide +kernel
theorem kt_11 : ∀ k, k < 65 → parseFieldDescriptor (tFT 11 k).2.2.1 = some (tTy 11 k) := by decide +kernel
theorem kn_11 : ∀ a, a < 65 → ∀ b, b < 65 → a ≠ b → (tFT 11 a).2.1 ≠ (tFT 11 b).2.1 := by decide +kernel
theorem kl9_11 : (tFL.getD 11 []).length = 65 ∧ (tFs.getD 11 []).length = 65 := by decide +kernel
theorem ko_11 : ∀ k, k < 65 → (tFT 11 k).1 = tCn 11 := by decide +kernel
