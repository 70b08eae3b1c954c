/-! what is known at the law's entry: the texts -/
def am_nl : List Cond := flatC narrow_1_1 ++ (flatC narrow_1_2 ++ (flatC narrow_1_3 ++ (flatC narrow_1_4 ++ flatC narrow_1_5)))
theorem am_nl_ok {args : Array Value} {s : State} (h : (Jvm.Cond.and given_1 narrow_1).before args s = true) : ∀ w ∈ am_nl, w.before args s = true := by
  have hs := flat_of_before _ h
  intro w hw
  refine hs w ?_
  show w ∈ flatC given_1 ++ ((flatC narrow_1_1 ++ flatC narrow_1_2) ++ (flatC narrow_1_3 ++ (flatC narrow_1_4 ++ flatC narrow_1_5)))
  unfold am_nl at hw
  simp only [List.mem_append] at hw ⊢
  rcases hw with h | h | h | h | h
  · exact Or.inr (Or.inl (Or.inl h))
  · exact Or.inr (Or.inl (Or.inr h))
  · exact Or.inr (Or.inr (Or.inl h))
  · exact Or.inr (Or.inr (Or.inr (Or.inl h)))
  · exact Or.inr (Or.inr (Or.inr (Or.inr h)))
theorem am_nli {w : Cond} (i : Nat) (h : am_nl[i]? = some w) : w ∈ am_nl := List.mem_of_getElem? h
/-- where the texts are named -/
def am_sk : List (String × Nat) := [("MoonlitFloor$Sign", 146), ("MoonlitFloor$Sign", 152), ("MoonlitFloor$Sign", 155), ("MoonlitFloor$Sign", 158), ("MoonlitFloor$Sign", 161), ("MoonlitFloor$Sign", 164), ("MoonlitFloor$Sign", 167), ("MoonlitFloor$Sign", 170), ("MoonlitFloor$Sign", 173), ("MoonlitFloor$Sign", 176), ("MoonlitFloor$Sign", 179), ("MoonlitFloor$Sign", 182), ("MoonlitFloor$Sign", 185), ("MoonlitFloor$Sign", 188), ("MoonlitFloor$Sign", 191), ("MoonlitFloor$Sign", 194), ("MoonlitFloor$Sign", 197), ("MoonlitFloor$Sign", 200), ("MoonlitFloor$Sign", 203), ("MoonlitFloor$Sign", 206), ("MoonlitFloor$Sign", 209), ("MoonlitFloor$Sign", 212), ("MoonlitFloor$Sign", 215), ("MoonlitFloor$Sign", 218), ("MoonlitFloor$Sign", 221), ("MoonlitFloor$Sign", 224), ("MoonlitFloor$Sign", 227), ("MoonlitFloor$Sign", 230), ("MoonlitFloor$Sign", 233), ("MoonlitFloor$Sign", 236), ("MoonlitFloor$Sign", 239), ("MoonlitFloor$Sign", 242), ("MoonlitFloor$Sign", 245), ("MoonlitFloor$Sign", 248), ("MoonlitFloor$Sign", 251), ("MoonlitFloor$Sign", 251), ("MoonlitFloor$Sign", 251), ("MoonlitFloorModel", 118), ("MoonlitFloorModel", 124), ("MoonlitFloorModel", 130), ("MoonlitFloorModel", 132), ("MoonlitFloorModel", 134), ("MoonlitFloorModel", 162), ("MoonlitFloorModel", 167), ("MoonlitFloorModel", 178), ("MoonlitFloorModel", 180), ("MoonlitFloorModel", 182), ("MoonlitFloorModel", 184), ("MoonlitFloorModel", 186), ("MoonlitFloorModel", 188), ("MoonlitFloorModel", 190), ("MoonlitFloorModel", 196), ("MoonlitFloorModel", 198), ("MoonlitFloorModel", 200), ("MoonlitFloorModel", 202), ("MoonlitFloorModel", 204), ("MoonlitFloorModel", 206), ("MoonlitFloorModel", 260), ("MoonlitFloorModel", 262), ("MoonlitFloorModel", 264), ("MoonlitFloorModel", 266), ("MoonlitFloorModel", 268), ("MoonlitFloorModel", 270), ("MoonlitFloorModel", 272), ("MoonlitFloorModel", 274), ("MoonlitFloorModel", 276), ("MoonlitFloorModel", 278), ("MoonlitFloorModel", 310)]
def am_tm (i : Nat) : Term := .string (am_sk.getD i ("", 0)).1 (am_sk.getD i ("", 0)).2
def am_tv (i : Nat) : Term := .field (am_tm i) "java/lang/String" "value" "[B"
def am_SP (i : Nat) : Prop := Cond.exactly (am_tm i) "java/lang/String" ∈ am_nl ∧ Cond.eq (.field (am_tm i) "java/lang/String" "coder" "B") (.int 0) ∈ am_nl ∧ Cond.arrayOf (am_tv i) .byte ∈ am_nl ∧ Cond.eq (.length (am_tv i)) (.int (Int32.ofNat (am_strlen i))) ∈ am_nl ∧ ∀ j, j < am_strlen i → Cond.eq (.elem (am_tv i) (.int (Int32.ofNat j))) (.int (nI ((am_str.getD i []).getD j 0))) ∈ am_nl
theorem ks_0 : am_SP 0 := ⟨am_nli 1444 (by decide +kernel), am_nli 1445 (by decide +kernel), am_nli 1446 (by decide +kernel), am_nli 1447 (by decide +kernel), va_run (p := 1448) (by decide +kernel)⟩
theorem ks_1 : am_SP 1 := ⟨am_nli 1568 (by decide +kernel), am_nli 1569 (by decide +kernel), am_nli 1570 (by decide +kernel), am_nli 1571 (by decide +kernel), va_run (p := 1572) (by decide +kernel)⟩
theorem ks_2 : am_SP 2 := ⟨am_nli 1578 (by decide +kernel), am_nli 1579 (by decide +kernel), am_nli 1580 (by decide +kernel), am_nli 1581 (by decide +kernel), va_run (p := 1582) (by decide +kernel)⟩
theorem ks_3 : am_SP 3 := ⟨am_nli 1587 (by decide +kernel), am_nli 1588 (by decide +kernel), am_nli 1589 (by decide +kernel), am_nli 1590 (by decide +kernel), va_run (p := 1591) (by decide +kernel)⟩
theorem ks_4 : am_SP 4 := ⟨am_nli 1598 (by decide +kernel), am_nli 1599 (by decide +kernel), am_nli 1600 (by decide +kernel), am_nli 1601 (by decide +kernel), va_run (p := 1602) (by decide +kernel)⟩
theorem ks_5 : am_SP 5 := ⟨am_nli 1607 (by decide +kernel), am_nli 1608 (by decide +kernel), am_nli 1609 (by decide +kernel), am_nli 1610 (by decide +kernel), va_run (p := 1611) (by decide +kernel)⟩
theorem ks_6 : am_SP 6 := ⟨am_nli 1619 (by decide +kernel), am_nli 1620 (by decide +kernel), am_nli 1621 (by decide +kernel), am_nli 1622 (by decide +kernel), va_run (p := 1623) (by decide +kernel)⟩
theorem ks_7 : am_SP 7 := ⟨am_nli 1629 (by decide +kernel), am_nli 1630 (by decide +kernel), am_nli 1631 (by decide +kernel), am_nli 1632 (by decide +kernel), va_run (p := 1633) (by decide +kernel)⟩
theorem ks_8 : am_SP 8 := ⟨am_nli 1639 (by decide +kernel), am_nli 1640 (by decide +kernel), am_nli 1641 (by decide +kernel), am_nli 1642 (by decide +kernel), va_run (p := 1643) (by decide +kernel)⟩
theorem ks_9 : am_SP 9 := ⟨am_nli 1650 (by decide +kernel), am_nli 1651 (by decide +kernel), am_nli 1652 (by decide +kernel), am_nli 1653 (by decide +kernel), va_run (p := 1654) (by decide +kernel)⟩
theorem ks_10 : am_SP 10 := ⟨am_nli 1658 (by decide +kernel), am_nli 1659 (by decide +kernel), am_nli 1660 (by decide +kernel), am_nli 1661 (by decide +kernel), va_run (p := 1662) (by decide +kernel)⟩
theorem ks_11 : am_SP 11 := ⟨am_nli 1670 (by decide +kernel), am_nli 1671 (by decide +kernel), am_nli 1672 (by decide +kernel), am_nli 1673 (by decide +kernel), va_run (p := 1674) (by decide +kernel)⟩
theorem ks_12 : am_SP 12 := ⟨am_nli 1539 (by decide +kernel), am_nli 1540 (by decide +kernel), am_nli 1541 (by decide +kernel), am_nli 1542 (by decide +kernel), va_run (p := 1543) (by decide +kernel)⟩
theorem ks_13 : am_SP 13 := ⟨am_nli 1522 (by decide +kernel), am_nli 1523 (by decide +kernel), am_nli 1524 (by decide +kernel), am_nli 1525 (by decide +kernel), va_run (p := 1526) (by decide +kernel)⟩
theorem ks_14 : am_SP 14 := ⟨am_nli 1530 (by decide +kernel), am_nli 1531 (by decide +kernel), am_nli 1532 (by decide +kernel), am_nli 1533 (by decide +kernel), va_run (p := 1534) (by decide +kernel)⟩
theorem ks_15 : am_SP 15 := ⟨am_nli 1682 (by decide +kernel), am_nli 1683 (by decide +kernel), am_nli 1684 (by decide +kernel), am_nli 1685 (by decide +kernel), va_run (p := 1686) (by decide +kernel)⟩
theorem ks_16 : am_SP 16 := ⟨am_nli 1692 (by decide +kernel), am_nli 1693 (by decide +kernel), am_nli 1694 (by decide +kernel), am_nli 1695 (by decide +kernel), va_run (p := 1696) (by decide +kernel)⟩
theorem ks_17 : am_SP 17 := ⟨am_nli 1700 (by decide +kernel), am_nli 1701 (by decide +kernel), am_nli 1702 (by decide +kernel), am_nli 1703 (by decide +kernel), va_run (p := 1704) (by decide +kernel)⟩
theorem ks_18 : am_SP 18 := ⟨am_nli 1709 (by decide +kernel), am_nli 1710 (by decide +kernel), am_nli 1711 (by decide +kernel), am_nli 1712 (by decide +kernel), va_run (p := 1713) (by decide +kernel)⟩
theorem ks_19 : am_SP 19 := ⟨am_nli 1718 (by decide +kernel), am_nli 1719 (by decide +kernel), am_nli 1720 (by decide +kernel), am_nli 1721 (by decide +kernel), va_run (p := 1722) (by decide +kernel)⟩
theorem ks_20 : am_SP 20 := ⟨am_nli 1728 (by decide +kernel), am_nli 1729 (by decide +kernel), am_nli 1730 (by decide +kernel), am_nli 1731 (by decide +kernel), va_run (p := 1732) (by decide +kernel)⟩
theorem ks_21 : am_SP 21 := ⟨am_nli 1486 (by decide +kernel), am_nli 1487 (by decide +kernel), am_nli 1488 (by decide +kernel), am_nli 1489 (by decide +kernel), va_run (p := 1490) (by decide +kernel)⟩
theorem ks_22 : am_SP 22 := ⟨am_nli 1476 (by decide +kernel), am_nli 1477 (by decide +kernel), am_nli 1478 (by decide +kernel), am_nli 1479 (by decide +kernel), va_run (p := 1480) (by decide +kernel)⟩
theorem ks_23 : am_SP 23 := ⟨am_nli 1465 (by decide +kernel), am_nli 1466 (by decide +kernel), am_nli 1467 (by decide +kernel), am_nli 1468 (by decide +kernel), va_run (p := 1469) (by decide +kernel)⟩
theorem ks_24 : am_SP 24 := ⟨am_nli 1503 (by decide +kernel), am_nli 1504 (by decide +kernel), am_nli 1505 (by decide +kernel), am_nli 1506 (by decide +kernel), va_run (p := 1507) (by decide +kernel)⟩
theorem ks_25 : am_SP 25 := ⟨am_nli 1511 (by decide +kernel), am_nli 1512 (by decide +kernel), am_nli 1513 (by decide +kernel), am_nli 1514 (by decide +kernel), va_run (p := 1515) (by decide +kernel)⟩
theorem ks_26 : am_SP 26 := ⟨am_nli 1738 (by decide +kernel), am_nli 1739 (by decide +kernel), am_nli 1740 (by decide +kernel), am_nli 1741 (by decide +kernel), va_run (p := 1742) (by decide +kernel)⟩
theorem ks_27 : am_SP 27 := ⟨am_nli 1747 (by decide +kernel), am_nli 1748 (by decide +kernel), am_nli 1749 (by decide +kernel), am_nli 1750 (by decide +kernel), va_run (p := 1751) (by decide +kernel)⟩
theorem ks_28 : am_SP 28 := ⟨am_nli 1754 (by decide +kernel), am_nli 1755 (by decide +kernel), am_nli 1756 (by decide +kernel), am_nli 1757 (by decide +kernel), va_run (p := 1758) (by decide +kernel)⟩
theorem ks_29 : am_SP 29 := ⟨am_nli 1549 (by decide +kernel), am_nli 1550 (by decide +kernel), am_nli 1551 (by decide +kernel), am_nli 1552 (by decide +kernel), va_run (p := 1553) (by decide +kernel)⟩
theorem ks_30 : am_SP 30 := ⟨am_nli 1558 (by decide +kernel), am_nli 1559 (by decide +kernel), am_nli 1560 (by decide +kernel), am_nli 1561 (by decide +kernel), va_run (p := 1562) (by decide +kernel)⟩
theorem ks_31 : am_SP 31 := ⟨am_nli 1454 (by decide +kernel), am_nli 1455 (by decide +kernel), am_nli 1456 (by decide +kernel), am_nli 1457 (by decide +kernel), va_run (p := 1458) (by decide +kernel)⟩
theorem ks_32 : am_SP 32 := ⟨am_nli 1498 (by decide +kernel), am_nli 1499 (by decide +kernel), am_nli 1500 (by decide +kernel), am_nli 1501 (by decide +kernel), va_run (p := 1502) (by decide +kernel)⟩
theorem ks_33 : am_SP 33 := ⟨am_nli 1459 (by decide +kernel), am_nli 1460 (by decide +kernel), am_nli 1461 (by decide +kernel), am_nli 1462 (by decide +kernel), va_run (p := 1463) (by decide +kernel)⟩
theorem ks_34 : am_SP 34 := ⟨am_nli 1440 (by decide +kernel), am_nli 1441 (by decide +kernel), am_nli 1442 (by decide +kernel), am_nli 1443 (by decide +kernel), va_run (p := 0) (by decide +kernel)⟩
theorem ks_35 : am_SP 35 := ⟨am_nli 1440 (by decide +kernel), am_nli 1441 (by decide +kernel), am_nli 1442 (by decide +kernel), am_nli 1443 (by decide +kernel), va_run (p := 0) (by decide +kernel)⟩
theorem ks_36 : am_SP 36 := ⟨am_nli 1440 (by decide +kernel), am_nli 1441 (by decide +kernel), am_nli 1442 (by decide +kernel), am_nli 1443 (by decide +kernel), va_run (p := 0) (by decide +kernel)⟩
theorem ks_37 : am_SP 37 := ⟨am_nli 1296 (by decide +kernel), am_nli 1297 (by decide +kernel), am_nli 1298 (by decide +kernel), am_nli 1299 (by decide +kernel), va_run (p := 1300) (by decide +kernel)⟩
theorem ks_38 : am_SP 38 := ⟨am_nli 1305 (by decide +kernel), am_nli 1306 (by decide +kernel), am_nli 1307 (by decide +kernel), am_nli 1308 (by decide +kernel), va_run (p := 1309) (by decide +kernel)⟩
theorem ks_39 : am_SP 39 := ⟨am_nli 1313 (by decide +kernel), am_nli 1314 (by decide +kernel), am_nli 1315 (by decide +kernel), am_nli 1316 (by decide +kernel), va_run (p := 1317) (by decide +kernel)⟩
theorem ks_40 : am_SP 40 := ⟨am_nli 1321 (by decide +kernel), am_nli 1322 (by decide +kernel), am_nli 1323 (by decide +kernel), am_nli 1324 (by decide +kernel), va_run (p := 1325) (by decide +kernel)⟩
theorem ks_41 : am_SP 41 := ⟨am_nli 1327 (by decide +kernel), am_nli 1328 (by decide +kernel), am_nli 1329 (by decide +kernel), am_nli 1330 (by decide +kernel), va_run (p := 1331) (by decide +kernel)⟩
theorem ks_42 : am_SP 42 := ⟨am_nli 1335 (by decide +kernel), am_nli 1336 (by decide +kernel), am_nli 1337 (by decide +kernel), am_nli 1338 (by decide +kernel), va_run (p := 1339) (by decide +kernel)⟩
theorem ks_43 : am_SP 43 := ⟨am_nli 1342 (by decide +kernel), am_nli 1343 (by decide +kernel), am_nli 1344 (by decide +kernel), am_nli 1345 (by decide +kernel), va_run (p := 1346) (by decide +kernel)⟩
theorem ks_44 : am_SP 44 := ⟨am_nli 1177 (by decide +kernel), am_nli 1178 (by decide +kernel), am_nli 1179 (by decide +kernel), am_nli 1180 (by decide +kernel), va_run (p := 1181) (by decide +kernel)⟩
theorem ks_45 : am_SP 45 := ⟨am_nli 1186 (by decide +kernel), am_nli 1187 (by decide +kernel), am_nli 1188 (by decide +kernel), am_nli 1189 (by decide +kernel), va_run (p := 1190) (by decide +kernel)⟩
theorem ks_46 : am_SP 46 := ⟨am_nli 1194 (by decide +kernel), am_nli 1195 (by decide +kernel), am_nli 1196 (by decide +kernel), am_nli 1197 (by decide +kernel), va_run (p := 1198) (by decide +kernel)⟩
theorem ks_47 : am_SP 47 := ⟨am_nli 1204 (by decide +kernel), am_nli 1205 (by decide +kernel), am_nli 1206 (by decide +kernel), am_nli 1207 (by decide +kernel), va_run (p := 1208) (by decide +kernel)⟩
theorem ks_48 : am_SP 48 := ⟨am_nli 1212 (by decide +kernel), am_nli 1213 (by decide +kernel), am_nli 1214 (by decide +kernel), am_nli 1215 (by decide +kernel), va_run (p := 1216) (by decide +kernel)⟩
theorem ks_49 : am_SP 49 := ⟨am_nli 1223 (by decide +kernel), am_nli 1224 (by decide +kernel), am_nli 1225 (by decide +kernel), am_nli 1226 (by decide +kernel), va_run (p := 1227) (by decide +kernel)⟩
theorem ks_50 : am_SP 50 := ⟨am_nli 1232 (by decide +kernel), am_nli 1233 (by decide +kernel), am_nli 1234 (by decide +kernel), am_nli 1235 (by decide +kernel), va_run (p := 1236) (by decide +kernel)⟩
theorem ks_51 : am_SP 51 := ⟨am_nli 1241 (by decide +kernel), am_nli 1242 (by decide +kernel), am_nli 1243 (by decide +kernel), am_nli 1244 (by decide +kernel), va_run (p := 1245) (by decide +kernel)⟩
theorem ks_52 : am_SP 52 := ⟨am_nli 1251 (by decide +kernel), am_nli 1252 (by decide +kernel), am_nli 1253 (by decide +kernel), am_nli 1254 (by decide +kernel), va_run (p := 1255) (by decide +kernel)⟩
theorem ks_53 : am_SP 53 := ⟨am_nli 1258 (by decide +kernel), am_nli 1259 (by decide +kernel), am_nli 1260 (by decide +kernel), am_nli 1261 (by decide +kernel), va_run (p := 1262) (by decide +kernel)⟩
theorem ks_54 : am_SP 54 := ⟨am_nli 1269 (by decide +kernel), am_nli 1270 (by decide +kernel), am_nli 1271 (by decide +kernel), am_nli 1272 (by decide +kernel), va_run (p := 1273) (by decide +kernel)⟩
theorem ks_55 : am_SP 55 := ⟨am_nli 1280 (by decide +kernel), am_nli 1281 (by decide +kernel), am_nli 1282 (by decide +kernel), am_nli 1283 (by decide +kernel), va_run (p := 1284) (by decide +kernel)⟩
theorem ks_56 : am_SP 56 := ⟨am_nli 1289 (by decide +kernel), am_nli 1290 (by decide +kernel), am_nli 1291 (by decide +kernel), am_nli 1292 (by decide +kernel), va_run (p := 1293) (by decide +kernel)⟩
theorem ks_57 : am_SP 57 := ⟨am_nli 1352 (by decide +kernel), am_nli 1353 (by decide +kernel), am_nli 1354 (by decide +kernel), am_nli 1355 (by decide +kernel), va_run (p := 1356) (by decide +kernel)⟩
theorem ks_58 : am_SP 58 := ⟨am_nli 1360 (by decide +kernel), am_nli 1361 (by decide +kernel), am_nli 1362 (by decide +kernel), am_nli 1363 (by decide +kernel), va_run (p := 1364) (by decide +kernel)⟩
theorem ks_59 : am_SP 59 := ⟨am_nli 1369 (by decide +kernel), am_nli 1370 (by decide +kernel), am_nli 1371 (by decide +kernel), am_nli 1372 (by decide +kernel), va_run (p := 1373) (by decide +kernel)⟩
theorem ks_60 : am_SP 60 := ⟨am_nli 1376 (by decide +kernel), am_nli 1377 (by decide +kernel), am_nli 1378 (by decide +kernel), am_nli 1379 (by decide +kernel), va_run (p := 1380) (by decide +kernel)⟩
theorem ks_61 : am_SP 61 := ⟨am_nli 1384 (by decide +kernel), am_nli 1385 (by decide +kernel), am_nli 1386 (by decide +kernel), am_nli 1387 (by decide +kernel), va_run (p := 1388) (by decide +kernel)⟩
theorem ks_62 : am_SP 62 := ⟨am_nli 1395 (by decide +kernel), am_nli 1396 (by decide +kernel), am_nli 1397 (by decide +kernel), am_nli 1398 (by decide +kernel), va_run (p := 1399) (by decide +kernel)⟩
theorem ks_63 : am_SP 63 := ⟨am_nli 1405 (by decide +kernel), am_nli 1406 (by decide +kernel), am_nli 1407 (by decide +kernel), am_nli 1408 (by decide +kernel), va_run (p := 1409) (by decide +kernel)⟩
theorem ks_64 : am_SP 64 := ⟨am_nli 1413 (by decide +kernel), am_nli 1414 (by decide +kernel), am_nli 1415 (by decide +kernel), am_nli 1416 (by decide +kernel), va_run (p := 1417) (by decide +kernel)⟩
theorem ks_65 : am_SP 65 := ⟨am_nli 1422 (by decide +kernel), am_nli 1423 (by decide +kernel), am_nli 1424 (by decide +kernel), am_nli 1425 (by decide +kernel), va_run (p := 1426) (by decide +kernel)⟩
theorem ks_66 : am_SP 66 := ⟨am_nli 1431 (by decide +kernel), am_nli 1432 (by decide +kernel), am_nli 1433 (by decide +kernel), am_nli 1434 (by decide +kernel), va_run (p := 1435) (by decide +kernel)⟩
theorem ks_67 : am_SP 67 := ⟨am_nli 1168 (by decide +kernel), am_nli 1169 (by decide +kernel), am_nli 1170 (by decide +kernel), am_nli 1171 (by decide +kernel), va_run (p := 1172) (by decide +kernel)⟩
theorem ks_all (i : Nat) (hi : i < 68) : am_SP i := by
  match i, hi with
  | 0, _ => exact ks_0
  | 1, _ => exact ks_1
  | 2, _ => exact ks_2
  | 3, _ => exact ks_3
  | 4, _ => exact ks_4
  | 5, _ => exact ks_5
  | 6, _ => exact ks_6
  | 7, _ => exact ks_7
  | 8, _ => exact ks_8
  | 9, _ => exact ks_9
  | 10, _ => exact ks_10
  | 11, _ => exact ks_11
  | 12, _ => exact ks_12
  | 13, _ => exact ks_13
  | 14, _ => exact ks_14
  | 15, _ => exact ks_15
  | 16, _ => exact ks_16
  | 17, _ => exact ks_17
  | 18, _ => exact ks_18
  | 19, _ => exact ks_19
  | 20, _ => exact ks_20
  | 21, _ => exact ks_21
  | 22, _ => exact ks_22
  | 23, _ => exact ks_23
  | 24, _ => exact ks_24
  | 25, _ => exact ks_25
  | 26, _ => exact ks_26
  | 27, _ => exact ks_27
  | 28, _ => exact ks_28
  | 29, _ => exact ks_29
  | 30, _ => exact ks_30
  | 31, _ => exact ks_31
  | 32, _ => exact ks_32
  | 33, _ => exact ks_33
  | 34, _ => exact ks_34
  | 35, _ => exact ks_35
  | 36, _ => exact ks_36
  | 37, _ => exact ks_37
  | 38, _ => exact ks_38
  | 39, _ => exact ks_39
  | 40, _ => exact ks_40
  | 41, _ => exact ks_41
  | 42, _ => exact ks_42
  | 43, _ => exact ks_43
  | 44, _ => exact ks_44
  | 45, _ => exact ks_45
  | 46, _ => exact ks_46
  | 47, _ => exact ks_47
  | 48, _ => exact ks_48
  | 49, _ => exact ks_49
  | 50, _ => exact ks_50
  | 51, _ => exact ks_51
  | 52, _ => exact ks_52
  | 53, _ => exact ks_53
  | 54, _ => exact ks_54
  | 55, _ => exact ks_55
  | 56, _ => exact ks_56
  | 57, _ => exact ks_57
  | 58, _ => exact ks_58
  | 59, _ => exact ks_59
  | 60, _ => exact ks_60
  | 61, _ => exact ks_61
  | 62, _ => exact ks_62
  | 63, _ => exact ks_63
  | 64, _ => exact ks_64
  | 65, _ => exact ks_65
  | 66, _ => exact ks_66
  | 67, _ => exact ks_67
  | i + 68, h => exact absurd h (by omega)
theorem am_str0 {args : Array Value} {s : State} {A : Nat → Prop} (hs : ∀ w ∈ am_nl, w.before args s = true) (hA : ∀ a : Nat, a < s.heap.size → ¬ A a) (i : Nat) (hi : i < 68) : ∃ q : Nat × Nat, (am_tm i).eval args s none [] s = some (.ref q.1) ∧ va_O "java/lang/String" q.1 A s s.heap ∧ va_OF "java/lang/String" "coder" "B" (.int 0) q.1 A s s.heap ∧ va_OF "java/lang/String" "value" "[B" (.ref q.2) q.1 A s s.heap ∧ va_T .byte q.2 (am_strlen i) (fun j => .int (nI ((am_str.getD i []).getD j 0))) A s s.heap := by
  obtain ⟨hex, hco, har, hle, hel⟩ := ks_all i hi
  obtain ⟨a, c, cA, kA, q1, q2, q3, q4, q5, q6, -⟩ := Cond.exactly_spec (args := args) (first := s) (o := none) (s := s) (idx := []) (t := am_tm i) (cls := "java/lang/String") (hs _ hex)
  have hN : am_strlen i < 2 ^ 31 := by
    have key : ∀ i, i < 68 → am_strlen i < 2 ^ 31 := by decide +kernel
    exact key i hi
  obtain ⟨t, ht, hT⟩ := va_Tof (f := fun j => .int (nI ((am_str.getD i []).getD j 0))) (A := A) hN (hs _ har) (va_eqt (hs _ hle)) (fun j hj => va_eqt (hs _ (hel j hj))) hA
  exact ⟨(a, t), q1, ⟨cA, q3, q5, by rw [q6]; exact q2, hA a (Array.getElem?_eq_some_iff.mp q3).1⟩, vk_OFof q1 (va_eqt (hs _ hco)) hA, vk_OFof q1 ht hA, hT⟩
