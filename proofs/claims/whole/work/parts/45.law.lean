def SL_law_1663 (xs : Nat → Int32) (L : Nat) (k18 : Int32 → St → Option (Int32 × St)) (x3 : Int32) (σ : St) : Option (Int32 × St) := k18 (x3 + 7) σ
def BL_law_18 (xs : Nat → Int32) (L : Nat) (rec : Int32 → St → Option (Int32 × St)) (x3 : Int32) (σ : St) : Option (Int32 × St) := if ((nI L) - (7 : Int32)) < x3 then (some ((1 : Int32), σ)) else (if inb x3 L then (if ((xs (x3).toNatClampNeg) &&& (63 : Int32)) = 0 then (if inb (x3 + (1 : Int32)) L then (bnd (S8_count (xs ((x3 + (1 : Int32))).toNatClampNeg) σ) fun r1434 σ1433 => if inb (x3 + (1 : Int32)) L then (bnd (S9_count (xs ((x3 + (1 : Int32))).toNatClampNeg) σ1433) fun r1438 σ1437 => if r1434 = r1438 then (SL_law_1663 xs L rec x3 σ1437) else (some ((0 : Int32), σ1437))) else none) else none) else (if ((xs (x3).toNatClampNeg) &&& (63 : Int32)) = 1 then (if inb (x3 + (1 : Int32)) L then (if inb (x3 + (2 : Int32)) L then (if inb (x3 + (3 : Int32)) L then (if inb (x3 + (4 : Int32)) L then (if inb (x3 + (5 : Int32)) L then (if inb (x3 + (6 : Int32)) L then (bnd (S8_feed (xs ((x3 + (1 : Int32))).toNatClampNeg) (xs ((x3 + (2 : Int32))).toNatClampNeg) (xs ((x3 + (3 : Int32))).toNatClampNeg) (xs ((x3 + (4 : Int32))).toNatClampNeg) (xs ((x3 + (5 : Int32))).toNatClampNeg) (xs ((x3 + (6 : Int32))).toNatClampNeg) σ) fun r1449 σ1448 => if inb (x3 + (1 : Int32)) L then (if inb (x3 + (2 : Int32)) L then (if inb (x3 + (3 : Int32)) L then (if inb (x3 + (4 : Int32)) L then (if inb (x3 + (5 : Int32)) L then (if inb (x3 + (6 : Int32)) L then (bnd (S9_feed (xs ((x3 + (1 : Int32))).toNatClampNeg) (xs ((x3 + (2 : Int32))).toNatClampNeg) (xs ((x3 + (3 : Int32))).toNatClampNeg) (xs ((x3 + (4 : Int32))).toNatClampNeg) (xs ((x3 + (5 : Int32))).toNatClampNeg) (xs ((x3 + (6 : Int32))).toNatClampNeg) σ1448) fun r1458 σ1457 => if r1449 = r1458 then (SL_law_1663 xs L rec x3 σ1457) else (some ((0 : Int32), σ1457))) else none) else none) else none) else none) else none) else none) else none) else none) else none) else none) else none) else none) else (if ((xs (x3).toNatClampNeg) &&& (63 : Int32)) = 2 then (bnd (S8_text σ) fun r1463 σ1462 => bnd (S9_text σ1462) fun r1466 σ1465 => if r1463 = r1466 then (SL_law_1663 xs L rec x3 σ1465) else (some ((0 : Int32), σ1465))) else (if ((xs (x3).toNatClampNeg) &&& (63 : Int32)) = 3 then (if inb (x3 + (1 : Int32)) L then (bnd (S8_force (xs ((x3 + (1 : Int32))).toNatClampNeg) σ) fun r1472 σ1471 => if inb (x3 + (1 : Int32)) L then (bnd (S9_force (xs ((x3 + (1 : Int32))).toNatClampNeg) σ1471) fun r1476 σ1475 => if r1472 = r1476 then (SL_law_1663 xs L rec x3 σ1475) else (some ((0 : Int32), σ1475))) else none) else none) else (if ((xs (x3).toNatClampNeg) &&& (63 : Int32)) = 4 then (if inb (x3 + (1 : Int32)) L then (if inb (x3 + (2 : Int32)) L then (if inb (x3 + (3 : Int32)) L then (if inb (x3 + (4 : Int32)) L then (bnd (S8_asks (xs ((x3 + (1 : Int32))).toNatClampNeg) (xs ((x3 + (2 : Int32))).toNatClampNeg) (xs ((x3 + (3 : Int32))).toNatClampNeg) (xs ((x3 + (4 : Int32))).toNatClampNeg) σ) fun r1485 σ1484 => if inb (x3 + (1 : Int32)) L then (if inb (x3 + (2 : Int32)) L then (if inb (x3 + (3 : Int32)) L then (if inb (x3 + (4 : Int32)) L then (bnd (S9_asks (xs ((x3 + (1 : Int32))).toNatClampNeg) (xs ((x3 + (2 : Int32))).toNatClampNeg) (xs ((x3 + (3 : Int32))).toNatClampNeg) (xs ((x3 + (4 : Int32))).toNatClampNeg) σ1484) fun r1492 σ1491 => if r1485 = r1492 then (SL_law_1663 xs L rec x3 σ1491) else (some ((0 : Int32), σ1491))) else none) else none) else none) else none) else none) else none) else none) else none) else (if ((xs (x3).toNatClampNeg) &&& (63 : Int32)) = 5 then (if inb (x3 + (1 : Int32)) L then (if inb (x3 + (2 : Int32)) L then (bnd (S8_man (xs ((x3 + (1 : Int32))).toNatClampNeg) (xs ((x3 + (2 : Int32))).toNatClampNeg) σ) fun r1499 σ1498 => if inb (x3 + (1 : Int32)) L then (if inb (x3 + (2 : Int32)) L then (bnd (S9_man (xs ((x3 + (1 : Int32))).toNatClampNeg) (xs ((x3 + (2 : Int32))).toNatClampNeg) σ1498) fun r1504 σ1503 => if r1499 = r1504 then (SL_law_1663 xs L rec x3 σ1503) else (some ((0 : Int32), σ1503))) else none) else none) else none) else none) else (if ((xs (x3).toNatClampNeg) &&& (63 : Int32)) = 6 then (if inb (x3 + (1 : Int32)) L then (if inb (x3 + (2 : Int32)) L then (if inb (x3 + (3 : Int32)) L then (bnd (S8_put (xs ((x3 + (1 : Int32))).toNatClampNeg) (xs ((x3 + (2 : Int32))).toNatClampNeg) (xs ((x3 + (3 : Int32))).toNatClampNeg) σ) fun r1512 σ1511 => if inb (x3 + (1 : Int32)) L then (if inb (x3 + (2 : Int32)) L then (if inb (x3 + (3 : Int32)) L then (bnd (S9_put (xs ((x3 + (1 : Int32))).toNatClampNeg) (xs ((x3 + (2 : Int32))).toNatClampNeg) (xs ((x3 + (3 : Int32))).toNatClampNeg) σ1511) fun r1518 σ1517 => if r1512 = r1518 then (SL_law_1663 xs L rec x3 σ1517) else (some ((0 : Int32), σ1517))) else none) else none) else none) else none) else none) else none) else (if ((xs (x3).toNatClampNeg) &&& (63 : Int32)) = 7 then (if inb (x3 + (1 : Int32)) L then (if inb (x3 + (2 : Int32)) L then (bnd (S8_told (xs ((x3 + (1 : Int32))).toNatClampNeg) (xs ((x3 + (2 : Int32))).toNatClampNeg) σ) fun r1525 σ1524 => if inb (x3 + (1 : Int32)) L then (if inb (x3 + (2 : Int32)) L then (bnd (S9_told (xs ((x3 + (1 : Int32))).toNatClampNeg) (xs ((x3 + (2 : Int32))).toNatClampNeg) σ1524) fun r1530 σ1529 => if r1525 = r1530 then (SL_law_1663 xs L rec x3 σ1529) else (some ((0 : Int32), σ1529))) else none) else none) else none) else none) else (if ((xs (x3).toNatClampNeg) &&& (63 : Int32)) = 8 then (if inb (x3 + (1 : Int32)) L then (if inb (x3 + (2 : Int32)) L then (if inb (x3 + (3 : Int32)) L then (if inb (x3 + (4 : Int32)) L then (bnd (S8_bout (xs ((x3 + (1 : Int32))).toNatClampNeg) (xs ((x3 + (2 : Int32))).toNatClampNeg) (xs ((x3 + (3 : Int32))).toNatClampNeg) (xs ((x3 + (4 : Int32))).toNatClampNeg) σ) fun r1539 σ1538 => if inb (x3 + (1 : Int32)) L then (if inb (x3 + (2 : Int32)) L then (if inb (x3 + (3 : Int32)) L then (if inb (x3 + (4 : Int32)) L then (bnd (S9_bout (xs ((x3 + (1 : Int32))).toNatClampNeg) (xs ((x3 + (2 : Int32))).toNatClampNeg) (xs ((x3 + (3 : Int32))).toNatClampNeg) (xs ((x3 + (4 : Int32))).toNatClampNeg) σ1538) fun r1546 σ1545 => if r1539 = r1546 then (SL_law_1663 xs L rec x3 σ1545) else (some ((0 : Int32), σ1545))) else none) else none) else none) else none) else none) else none) else none) else none) else (if ((xs (x3).toNatClampNeg) &&& (63 : Int32)) = 9 then (if inb (x3 + (1 : Int32)) L then (if inb (x3 + (2 : Int32)) L then (if inb (x3 + (3 : Int32)) L then (if inb (x3 + (4 : Int32)) L then (bnd (S8_fight (xs ((x3 + (1 : Int32))).toNatClampNeg) (xs ((x3 + (2 : Int32))).toNatClampNeg) (xs ((x3 + (3 : Int32))).toNatClampNeg) (xs ((x3 + (4 : Int32))).toNatClampNeg) σ) fun r1555 σ1554 => if inb (x3 + (1 : Int32)) L then (if inb (x3 + (2 : Int32)) L then (if inb (x3 + (3 : Int32)) L then (if inb (x3 + (4 : Int32)) L then (bnd (S9_fight (xs ((x3 + (1 : Int32))).toNatClampNeg) (xs ((x3 + (2 : Int32))).toNatClampNeg) (xs ((x3 + (3 : Int32))).toNatClampNeg) (xs ((x3 + (4 : Int32))).toNatClampNeg) σ1554) fun r1562 σ1561 => if r1555 = r1562 then (SL_law_1663 xs L rec x3 σ1561) else (some ((0 : Int32), σ1561))) else none) else none) else none) else none) else none) else none) else none) else none) else (if ((xs (x3).toNatClampNeg) &&& (63 : Int32)) = 10 then (if inb (x3 + (1 : Int32)) L then (if inb (x3 + (2 : Int32)) L then (if inb (x3 + (3 : Int32)) L then (if inb (x3 + (4 : Int32)) L then (bnd (S8_best (xs ((x3 + (1 : Int32))).toNatClampNeg) (xs ((x3 + (2 : Int32))).toNatClampNeg) (xs ((x3 + (3 : Int32))).toNatClampNeg) (xs ((x3 + (4 : Int32))).toNatClampNeg) σ) fun r1571 σ1570 => if inb (x3 + (1 : Int32)) L then (if inb (x3 + (2 : Int32)) L then (if inb (x3 + (3 : Int32)) L then (if inb (x3 + (4 : Int32)) L then (bnd (S9_best (xs ((x3 + (1 : Int32))).toNatClampNeg) (xs ((x3 + (2 : Int32))).toNatClampNeg) (xs ((x3 + (3 : Int32))).toNatClampNeg) (xs ((x3 + (4 : Int32))).toNatClampNeg) σ1570) fun r1578 σ1577 => if r1571 = r1578 then (SL_law_1663 xs L rec x3 σ1577) else (some ((0 : Int32), σ1577))) else none) else none) else none) else none) else none) else none) else none) else none) else (if ((xs (x3).toNatClampNeg) &&& (63 : Int32)) = 11 then (if inb (x3 + (1 : Int32)) L then (if inb (x3 + (2 : Int32)) L then (if inb (x3 + (3 : Int32)) L then (bnd (S8_sure (xs ((x3 + (1 : Int32))).toNatClampNeg) (xs ((x3 + (2 : Int32))).toNatClampNeg) (xs ((x3 + (3 : Int32))).toNatClampNeg) σ) fun r1586 σ1585 => if inb (x3 + (1 : Int32)) L then (if inb (x3 + (2 : Int32)) L then (if inb (x3 + (3 : Int32)) L then (bnd (S9_sure (xs ((x3 + (1 : Int32))).toNatClampNeg) (xs ((x3 + (2 : Int32))).toNatClampNeg) (xs ((x3 + (3 : Int32))).toNatClampNeg) σ1585) fun r1592 σ1591 => if r1586 = r1592 then (SL_law_1663 xs L rec x3 σ1591) else (some ((0 : Int32), σ1591))) else none) else none) else none) else none) else none) else none) else (if ((xs (x3).toNatClampNeg) &&& (63 : Int32)) = 12 then (if inb (x3 + (1 : Int32)) L then (if inb (x3 + (2 : Int32)) L then (if inb (x3 + (3 : Int32)) L then (bnd (S8_chance (xs ((x3 + (1 : Int32))).toNatClampNeg) (xs ((x3 + (2 : Int32))).toNatClampNeg) (xs ((x3 + (3 : Int32))).toNatClampNeg) σ) fun r1600 σ1599 => if inb (x3 + (1 : Int32)) L then (if inb (x3 + (2 : Int32)) L then (if inb (x3 + (3 : Int32)) L then (bnd (S9_chance (xs ((x3 + (1 : Int32))).toNatClampNeg) (xs ((x3 + (2 : Int32))).toNatClampNeg) (xs ((x3 + (3 : Int32))).toNatClampNeg) σ1599) fun r1606 σ1605 => if (lg_cmp r1600 r1606) = 0 then (SL_law_1663 xs L rec x3 σ1605) else (some ((0 : Int32), σ1605))) else none) else none) else none) else none) else none) else none) else (if ((xs (x3).toNatClampNeg) &&& (63 : Int32)) = 13 then (if inb (x3 + (1 : Int32)) L then (if inb (x3 + (2 : Int32)) L then (if inb (x3 + (3 : Int32)) L then (bnd (S8_knees (xs ((x3 + (1 : Int32))).toNatClampNeg) (xs ((x3 + (2 : Int32))).toNatClampNeg) (xs ((x3 + (3 : Int32))).toNatClampNeg) σ) fun r1614 σ1613 => if inb (x3 + (1 : Int32)) L then (if inb (x3 + (2 : Int32)) L then (if inb (x3 + (3 : Int32)) L then (bnd (S9_knees (xs ((x3 + (1 : Int32))).toNatClampNeg) (xs ((x3 + (2 : Int32))).toNatClampNeg) (xs ((x3 + (3 : Int32))).toNatClampNeg) σ1613) fun r1620 σ1619 => if r1614 = r1620 then (SL_law_1663 xs L rec x3 σ1619) else (some ((0 : Int32), σ1619))) else none) else none) else none) else none) else none) else none) else (if ((xs (x3).toNatClampNeg) &&& (63 : Int32)) = 14 then (if inb (x3 + (1 : Int32)) L then (if inb (x3 + (2 : Int32)) L then (if inb (x3 + (3 : Int32)) L then (bnd (S8_beats (xs ((x3 + (1 : Int32))).toNatClampNeg) (xs ((x3 + (2 : Int32))).toNatClampNeg) (xs ((x3 + (3 : Int32))).toNatClampNeg) σ) fun r1628 σ1627 => if inb (x3 + (1 : Int32)) L then (if inb (x3 + (2 : Int32)) L then (if inb (x3 + (3 : Int32)) L then (bnd (S9_beats (xs ((x3 + (1 : Int32))).toNatClampNeg) (xs ((x3 + (2 : Int32))).toNatClampNeg) (xs ((x3 + (3 : Int32))).toNatClampNeg) σ1627) fun r1634 σ1633 => if r1628 = r1634 then (SL_law_1663 xs L rec x3 σ1633) else (some ((0 : Int32), σ1633))) else none) else none) else none) else none) else none) else none) else (if ((xs (x3).toNatClampNeg) &&& (63 : Int32)) = 15 then (if inb (x3 + (1 : Int32)) L then (if inb (x3 + (2 : Int32)) L then (bnd (S8_meet (xs ((x3 + (1 : Int32))).toNatClampNeg) (xs ((x3 + (2 : Int32))).toNatClampNeg) σ) fun r1641 σ1640 => if inb (x3 + (1 : Int32)) L then (if inb (x3 + (2 : Int32)) L then (bnd (S9_meet (xs ((x3 + (1 : Int32))).toNatClampNeg) (xs ((x3 + (2 : Int32))).toNatClampNeg) σ1640) fun r1646 σ1645 => if r1641 = r1646 then (SL_law_1663 xs L rec x3 σ1645) else (some ((0 : Int32), σ1645))) else none) else none) else none) else none) else (if ((xs (x3).toNatClampNeg) &&& (63 : Int32)) = 16 then (if inb (x3 + (1 : Int32)) L then (if inb (x3 + (2 : Int32)) L then (if inb (x3 + (3 : Int32)) L then (bnd (S8_run (xs ((x3 + (1 : Int32))).toNatClampNeg) (xs ((x3 + (2 : Int32))).toNatClampNeg) (xs ((x3 + (3 : Int32))).toNatClampNeg) σ) fun r1654 σ1653 => if inb (x3 + (1 : Int32)) L then (if inb (x3 + (2 : Int32)) L then (if inb (x3 + (3 : Int32)) L then (bnd (S9_run (xs ((x3 + (1 : Int32))).toNatClampNeg) (xs ((x3 + (2 : Int32))).toNatClampNeg) (xs ((x3 + (3 : Int32))).toNatClampNeg) σ1653) fun r1660 σ1659 => if r1654 = r1660 then (SL_law_1663 xs L rec x3 σ1659) else (some ((0 : Int32), σ1659))) else none) else none) else none) else none) else none) else none) else (if ((xs (x3).toNatClampNeg) &&& (63 : Int32)) = 17 then (if inb (x3 + (1 : Int32)) L then (if inb (x3 + (2 : Int32)) L then (if inb (x3 + (3 : Int32)) L then (if inb (x3 + (4 : Int32)) L then (bnd (S8_judge (xs ((x3 + (1 : Int32))).toNatClampNeg) (xs ((x3 + (2 : Int32))).toNatClampNeg) (xs ((x3 + (3 : Int32))).toNatClampNeg) (xs ((x3 + (4 : Int32))).toNatClampNeg) σ) fun r1669 σ1668 => if inb (x3 + (1 : Int32)) L then (if inb (x3 + (2 : Int32)) L then (if inb (x3 + (3 : Int32)) L then (if inb (x3 + (4 : Int32)) L then (bnd (S9_judge (xs ((x3 + (1 : Int32))).toNatClampNeg) (xs ((x3 + (2 : Int32))).toNatClampNeg) (xs ((x3 + (3 : Int32))).toNatClampNeg) (xs ((x3 + (4 : Int32))).toNatClampNeg) σ1668) fun r1676 σ1675 => if r1669 = r1676 then (SL_law_1663 xs L rec x3 σ1675) else (some ((0 : Int32), σ1675))) else none) else none) else none) else none) else none) else none) else none) else none) else (if ((xs (x3).toNatClampNeg) &&& (63 : Int32)) = 18 then (if inb (x3 + (1 : Int32)) L then (if inb (x3 + (2 : Int32)) L then (if inb (x3 + (3 : Int32)) L then (if inb (x3 + (4 : Int32)) L then (if inb (x3 + (5 : Int32)) L then (bnd (S8_kinds (xs ((x3 + (1 : Int32))).toNatClampNeg) (xs ((x3 + (2 : Int32))).toNatClampNeg) (xs ((x3 + (3 : Int32))).toNatClampNeg) (xs ((x3 + (4 : Int32))).toNatClampNeg) (xs ((x3 + (5 : Int32))).toNatClampNeg) σ) fun r1686 σ1685 => if inb (x3 + (1 : Int32)) L then (if inb (x3 + (2 : Int32)) L then (if inb (x3 + (3 : Int32)) L then (if inb (x3 + (4 : Int32)) L then (if inb (x3 + (5 : Int32)) L then (bnd (S9_kinds (xs ((x3 + (1 : Int32))).toNatClampNeg) (xs ((x3 + (2 : Int32))).toNatClampNeg) (xs ((x3 + (3 : Int32))).toNatClampNeg) (xs ((x3 + (4 : Int32))).toNatClampNeg) (xs ((x3 + (5 : Int32))).toNatClampNeg) σ1685) fun r1694 σ1693 => if r1686 = r1694 then (SL_law_1663 xs L rec x3 σ1693) else (some ((0 : Int32), σ1693))) else none) else none) else none) else none) else none) else none) else none) else none) else none) else none) else (if ((xs (x3).toNatClampNeg) &&& (63 : Int32)) = 19 then (if inb (x3 + (1 : Int32)) L then (if inb (x3 + (2 : Int32)) L then (if inb (x3 + (3 : Int32)) L then (if inb (x3 + (4 : Int32)) L then (if inb (x3 + (5 : Int32)) L then (bnd (S8_acts (xs ((x3 + (1 : Int32))).toNatClampNeg) (xs ((x3 + (2 : Int32))).toNatClampNeg) (xs ((x3 + (3 : Int32))).toNatClampNeg) (xs ((x3 + (4 : Int32))).toNatClampNeg) (xs ((x3 + (5 : Int32))).toNatClampNeg) σ) fun r1704 σ1703 => if inb (x3 + (1 : Int32)) L then (if inb (x3 + (2 : Int32)) L then (if inb (x3 + (3 : Int32)) L then (if inb (x3 + (4 : Int32)) L then (if inb (x3 + (5 : Int32)) L then (bnd (S9_acts (xs ((x3 + (1 : Int32))).toNatClampNeg) (xs ((x3 + (2 : Int32))).toNatClampNeg) (xs ((x3 + (3 : Int32))).toNatClampNeg) (xs ((x3 + (4 : Int32))).toNatClampNeg) (xs ((x3 + (5 : Int32))).toNatClampNeg) σ1703) fun r1712 σ1711 => if r1704 = r1712 then (SL_law_1663 xs L rec x3 σ1711) else (some ((0 : Int32), σ1711))) else none) else none) else none) else none) else none) else none) else none) else none) else none) else none) else (if ((xs (x3).toNatClampNeg) &&& (63 : Int32)) = 20 then (if inb (x3 + (1 : Int32)) L then (if inb (x3 + (2 : Int32)) L then (if inb (x3 + (3 : Int32)) L then (if inb (x3 + (4 : Int32)) L then (if inb (x3 + (5 : Int32)) L then (bnd (S8_heavy (xs ((x3 + (1 : Int32))).toNatClampNeg) (xs ((x3 + (2 : Int32))).toNatClampNeg) (xs ((x3 + (3 : Int32))).toNatClampNeg) (xs ((x3 + (4 : Int32))).toNatClampNeg) (xs ((x3 + (5 : Int32))).toNatClampNeg) σ) fun r1722 σ1721 => if inb (x3 + (1 : Int32)) L then (if inb (x3 + (2 : Int32)) L then (if inb (x3 + (3 : Int32)) L then (if inb (x3 + (4 : Int32)) L then (if inb (x3 + (5 : Int32)) L then (bnd (S9_heavy (xs ((x3 + (1 : Int32))).toNatClampNeg) (xs ((x3 + (2 : Int32))).toNatClampNeg) (xs ((x3 + (3 : Int32))).toNatClampNeg) (xs ((x3 + (4 : Int32))).toNatClampNeg) (xs ((x3 + (5 : Int32))).toNatClampNeg) σ1721) fun r1730 σ1729 => if r1722 = r1730 then (SL_law_1663 xs L rec x3 σ1729) else (some ((0 : Int32), σ1729))) else none) else none) else none) else none) else none) else none) else none) else none) else none) else none) else (if ((xs (x3).toNatClampNeg) &&& (63 : Int32)) = 21 then (if inb (x3 + (1 : Int32)) L then (if inb (x3 + (2 : Int32)) L then (if inb (x3 + (3 : Int32)) L then (if inb (x3 + (4 : Int32)) L then (bnd (S8_laws (xs ((x3 + (1 : Int32))).toNatClampNeg) (xs ((x3 + (2 : Int32))).toNatClampNeg) (xs ((x3 + (3 : Int32))).toNatClampNeg) (xs ((x3 + (4 : Int32))).toNatClampNeg) σ) fun r1739 σ1738 => if inb (x3 + (1 : Int32)) L then (if inb (x3 + (2 : Int32)) L then (if inb (x3 + (3 : Int32)) L then (if inb (x3 + (4 : Int32)) L then (bnd (S9_laws (xs ((x3 + (1 : Int32))).toNatClampNeg) (xs ((x3 + (2 : Int32))).toNatClampNeg) (xs ((x3 + (3 : Int32))).toNatClampNeg) (xs ((x3 + (4 : Int32))).toNatClampNeg) σ1738) fun r1746 σ1745 => if r1739 = r1746 then (SL_law_1663 xs L rec x3 σ1745) else (some ((0 : Int32), σ1745))) else none) else none) else none) else none) else none) else none) else none) else none) else (if ((xs (x3).toNatClampNeg) &&& (63 : Int32)) = 22 then (if inb (x3 + (1 : Int32)) L then (if inb (x3 + (2 : Int32)) L then (if inb (x3 + (3 : Int32)) L then (if inb (x3 + (4 : Int32)) L then (bnd (S8_whose (xs ((x3 + (1 : Int32))).toNatClampNeg) (xs ((x3 + (2 : Int32))).toNatClampNeg) (xs ((x3 + (3 : Int32))).toNatClampNeg) (xs ((x3 + (4 : Int32))).toNatClampNeg) σ) fun r1755 σ1754 => if inb (x3 + (1 : Int32)) L then (if inb (x3 + (2 : Int32)) L then (if inb (x3 + (3 : Int32)) L then (if inb (x3 + (4 : Int32)) L then (bnd (S9_whose (xs ((x3 + (1 : Int32))).toNatClampNeg) (xs ((x3 + (2 : Int32))).toNatClampNeg) (xs ((x3 + (3 : Int32))).toNatClampNeg) (xs ((x3 + (4 : Int32))).toNatClampNeg) σ1754) fun r1762 σ1761 => if r1755 = r1762 then (SL_law_1663 xs L rec x3 σ1761) else (some ((0 : Int32), σ1761))) else none) else none) else none) else none) else none) else none) else none) else none) else (if ((xs (x3).toNatClampNeg) &&& (63 : Int32)) = 23 then (if inb (x3 + (1 : Int32)) L then (if inb (x3 + (2 : Int32)) L then (if inb (x3 + (3 : Int32)) L then (if inb (x3 + (4 : Int32)) L then (bnd (S8_film (xs ((x3 + (1 : Int32))).toNatClampNeg) (xs ((x3 + (2 : Int32))).toNatClampNeg) (xs ((x3 + (3 : Int32))).toNatClampNeg) (xs ((x3 + (4 : Int32))).toNatClampNeg) σ) fun r1771 σ1770 => if inb (x3 + (1 : Int32)) L then (if inb (x3 + (2 : Int32)) L then (if inb (x3 + (3 : Int32)) L then (if inb (x3 + (4 : Int32)) L then (bnd (S9_film (xs ((x3 + (1 : Int32))).toNatClampNeg) (xs ((x3 + (2 : Int32))).toNatClampNeg) (xs ((x3 + (3 : Int32))).toNatClampNeg) (xs ((x3 + (4 : Int32))).toNatClampNeg) σ1770) fun r1778 σ1777 => if r1771 = r1778 then (SL_law_1663 xs L rec x3 σ1777) else (some ((0 : Int32), σ1777))) else none) else none) else none) else none) else none) else none) else none) else none) else (if ((xs (x3).toNatClampNeg) &&& (63 : Int32)) = 24 then (if inb (x3 + (1 : Int32)) L then (if inb (x3 + (2 : Int32)) L then (if inb (x3 + (3 : Int32)) L then (if inb (x3 + (4 : Int32)) L then (bnd (S8_drawn (xs ((x3 + (1 : Int32))).toNatClampNeg) (xs ((x3 + (2 : Int32))).toNatClampNeg) (xs ((x3 + (3 : Int32))).toNatClampNeg) (xs ((x3 + (4 : Int32))).toNatClampNeg) σ) fun r1787 σ1786 => if inb (x3 + (1 : Int32)) L then (if inb (x3 + (2 : Int32)) L then (if inb (x3 + (3 : Int32)) L then (if inb (x3 + (4 : Int32)) L then (bnd (S9_drawn (xs ((x3 + (1 : Int32))).toNatClampNeg) (xs ((x3 + (2 : Int32))).toNatClampNeg) (xs ((x3 + (3 : Int32))).toNatClampNeg) (xs ((x3 + (4 : Int32))).toNatClampNeg) σ1786) fun r1794 σ1793 => if r1787 = r1794 then (SL_law_1663 xs L rec x3 σ1793) else (some ((0 : Int32), σ1793))) else none) else none) else none) else none) else none) else none) else none) else none) else (if ((xs (x3).toNatClampNeg) &&& (63 : Int32)) = 25 then (if inb (x3 + (1 : Int32)) L then (if inb (x3 + (2 : Int32)) L then (if inb (x3 + (3 : Int32)) L then (if inb (x3 + (4 : Int32)) L then (if inb (x3 + (5 : Int32)) L then (bnd (S8_odds (xs ((x3 + (1 : Int32))).toNatClampNeg) (xs ((x3 + (2 : Int32))).toNatClampNeg) (xs ((x3 + (3 : Int32))).toNatClampNeg) (xs ((x3 + (4 : Int32))).toNatClampNeg) (xs ((x3 + (5 : Int32))).toNatClampNeg) σ) fun r1804 σ1803 => if inb (x3 + (1 : Int32)) L then (if inb (x3 + (2 : Int32)) L then (if inb (x3 + (3 : Int32)) L then (if inb (x3 + (4 : Int32)) L then (if inb (x3 + (5 : Int32)) L then (bnd (S9_odds (xs ((x3 + (1 : Int32))).toNatClampNeg) (xs ((x3 + (2 : Int32))).toNatClampNeg) (xs ((x3 + (3 : Int32))).toNatClampNeg) (xs ((x3 + (4 : Int32))).toNatClampNeg) (xs ((x3 + (5 : Int32))).toNatClampNeg) σ1803) fun r1812 σ1811 => if (lg_cmp r1804 r1812) = 0 then (SL_law_1663 xs L rec x3 σ1811) else (some ((0 : Int32), σ1811))) else none) else none) else none) else none) else none) else none) else none) else none) else none) else none) else (if ((xs (x3).toNatClampNeg) &&& (63 : Int32)) = 26 then (bnd (S8_image σ) fun r1817 σ1816 => bnd (S9_image σ1816) fun r1820 σ1819 => if r1817 = r1820 then (SL_law_1663 xs L rec x3 σ1819) else (some ((0 : Int32), σ1819))) else (if ((xs (x3).toNatClampNeg) &&& (63 : Int32)) = 27 then (bnd (S8_back σ) fun r1825 σ1824 => bnd (S9_back σ1824) fun r1828 σ1827 => if r1825 = r1828 then (SL_law_1663 xs L rec x3 σ1827) else (some ((0 : Int32), σ1827))) else (if ((xs (x3).toNatClampNeg) &&& (63 : Int32)) = 28 then (if inb (x3 + (1 : Int32)) L then (if inb (x3 + (2 : Int32)) L then (if inb (x3 + (3 : Int32)) L then (bnd (S8_sheet (xs ((x3 + (1 : Int32))).toNatClampNeg) (xs ((x3 + (2 : Int32))).toNatClampNeg) (xs ((x3 + (3 : Int32))).toNatClampNeg) σ) fun r1836 σ1835 => if inb (x3 + (1 : Int32)) L then (if inb (x3 + (2 : Int32)) L then (if inb (x3 + (3 : Int32)) L then (bnd (S9_sheet (xs ((x3 + (1 : Int32))).toNatClampNeg) (xs ((x3 + (2 : Int32))).toNatClampNeg) (xs ((x3 + (3 : Int32))).toNatClampNeg) σ1835) fun r1842 σ1841 => if r1836 = r1842 then (SL_law_1663 xs L rec x3 σ1841) else (some ((0 : Int32), σ1841))) else none) else none) else none) else none) else none) else none) else (if ((xs (x3).toNatClampNeg) &&& (63 : Int32)) = 29 then (if inb (x3 + (1 : Int32)) L then (if inb (x3 + (2 : Int32)) L then (if inb (x3 + (3 : Int32)) L then (bnd (S8_cell (xs ((x3 + (1 : Int32))).toNatClampNeg) (xs ((x3 + (2 : Int32))).toNatClampNeg) (xs ((x3 + (3 : Int32))).toNatClampNeg) σ) fun r1850 σ1849 => if inb (x3 + (1 : Int32)) L then (if inb (x3 + (2 : Int32)) L then (if inb (x3 + (3 : Int32)) L then (bnd (S9_cell (xs ((x3 + (1 : Int32))).toNatClampNeg) (xs ((x3 + (2 : Int32))).toNatClampNeg) (xs ((x3 + (3 : Int32))).toNatClampNeg) σ1849) fun r1856 σ1855 => if r1850 = r1856 then (SL_law_1663 xs L rec x3 σ1855) else (some ((0 : Int32), σ1855))) else none) else none) else none) else none) else none) else none) else (if ((xs (x3).toNatClampNeg) &&& (63 : Int32)) = 30 then (if inb (x3 + (1 : Int32)) L then (if inb (x3 + (2 : Int32)) L then (if inb (x3 + (3 : Int32)) L then (if inb (x3 + (4 : Int32)) L then (if inb (x3 + (5 : Int32)) L then (bnd (S8_copy (xs ((x3 + (1 : Int32))).toNatClampNeg) (xs ((x3 + (2 : Int32))).toNatClampNeg) (xs ((x3 + (3 : Int32))).toNatClampNeg) (xs ((x3 + (4 : Int32))).toNatClampNeg) (xs ((x3 + (5 : Int32))).toNatClampNeg) σ) fun r1866 σ1865 => if inb (x3 + (1 : Int32)) L then (if inb (x3 + (2 : Int32)) L then (if inb (x3 + (3 : Int32)) L then (if inb (x3 + (4 : Int32)) L then (if inb (x3 + (5 : Int32)) L then (bnd (S9_copy (xs ((x3 + (1 : Int32))).toNatClampNeg) (xs ((x3 + (2 : Int32))).toNatClampNeg) (xs ((x3 + (3 : Int32))).toNatClampNeg) (xs ((x3 + (4 : Int32))).toNatClampNeg) (xs ((x3 + (5 : Int32))).toNatClampNeg) σ1865) fun r1874 σ1873 => if r1866 = r1874 then (SL_law_1663 xs L rec x3 σ1873) else (some ((0 : Int32), σ1873))) else none) else none) else none) else none) else none) else none) else none) else none) else none) else none) else (if ((xs (x3).toNatClampNeg) &&& (63 : Int32)) = 31 then (if inb (x3 + (1 : Int32)) L then (if inb (x3 + (2 : Int32)) L then (if inb (x3 + (3 : Int32)) L then (if inb (x3 + (4 : Int32)) L then (bnd (S8_menBy (xs ((x3 + (1 : Int32))).toNatClampNeg) (xs ((x3 + (2 : Int32))).toNatClampNeg) (xs ((x3 + (3 : Int32))).toNatClampNeg) (xs ((x3 + (4 : Int32))).toNatClampNeg) σ) fun r1883 σ1882 => if inb (x3 + (1 : Int32)) L then (if inb (x3 + (2 : Int32)) L then (if inb (x3 + (3 : Int32)) L then (if inb (x3 + (4 : Int32)) L then (bnd (S9_menBy (xs ((x3 + (1 : Int32))).toNatClampNeg) (xs ((x3 + (2 : Int32))).toNatClampNeg) (xs ((x3 + (3 : Int32))).toNatClampNeg) (xs ((x3 + (4 : Int32))).toNatClampNeg) σ1882) fun r1890 σ1889 => if r1883 = r1890 then (SL_law_1663 xs L rec x3 σ1889) else (some ((0 : Int32), σ1889))) else none) else none) else none) else none) else none) else none) else none) else none) else (if ((xs (x3).toNatClampNeg) &&& (63 : Int32)) = 32 then (if inb (x3 + (1 : Int32)) L then (if inb (x3 + (2 : Int32)) L then (bnd (S8_taken (xs ((x3 + (1 : Int32))).toNatClampNeg) (xs ((x3 + (2 : Int32))).toNatClampNeg) σ) fun r1897 σ1896 => if inb (x3 + (1 : Int32)) L then (if inb (x3 + (2 : Int32)) L then (bnd (S9_taken (xs ((x3 + (1 : Int32))).toNatClampNeg) (xs ((x3 + (2 : Int32))).toNatClampNeg) σ1896) fun r1902 σ1901 => if r1897 = r1902 then (SL_law_1663 xs L rec x3 σ1901) else (some ((0 : Int32), σ1901))) else none) else none) else none) else none) else (SL_law_1663 xs L rec x3 σ)))))))))))))))))))))))))))))))))) else none)
def SL_law_18 (xs : Nat → Int32) (L : Nat) : Nat → Int32 → St → Option (Int32 × St)
  | 0, _, _ => none
  | n + 1, x3, σ => BL_law_18 xs L (SL_law_18 xs L n) x3 σ
def SL_law (xs : Nat → Int32) (L : Nat) (σ : St) : Option (Int32 × St) := SL_law_18 xs L 4096 (0 : Int32) σ
set_option maxRecDepth 100000 in
set_option maxHeartbeats 8000000 in
theorem vL_law_1663 {g : GT} {X : XT} {xs : Nat → Int32} {L : Nat} (hX : OkX g X (mL)) (hN : 95 ≤ g.N) {b : Nat} (hSc : HScr g X b L xs) {res : Int32 × St} (hQ : QL g X res.1)  {k18 : Int32 → St → Option (Int32 × St)} (hk18 : ∀ (x3 : Int32) (σ : St), k18 x3 σ = some res → V g X (mL) 18 [(0, .ref b), (1, .ref (g.ad (0))), (2, .ref (g.ad (75))), (3, .int (x3))] [] σ) (x3 : Int32) (σ : St)  (h : SL_law_1663 xs L k18 x3 σ = some res) : V g X (mL) 1663 [(0, .ref b), (1, .ref (g.ad (0))), (2, .ref (g.ad (75))), (3, .int (x3))] [] σ := by
  unfold SL_law_1663 at h
  refine V_iinc (v := (x3 + 7)) (lv' := [(3, .int ((x3 + 7))), (0, .ref b), (1, .ref (g.ad (0))), (2, .ref (g.ad (75)))]) (q := 1666) hX dL_law_1663 3 rfl (by rfl) rfl rfl rfl ?_
  refine V_goto hX dL_law_1666 (q := 18) (by decide) ?_
  refine V.pick [1, 2, 3, 0] rfl ?_
  exact hk18 (x3 + 7) σ  h
set_option maxRecDepth 100000 in
set_option maxHeartbeats 8000000 in
theorem vL_law_18n {g : GT} {X : XT} {xs : Nat → Int32} {L : Nat} (hX : OkX g X (mL)) (hN : 95 ≤ g.N) {b : Nat} (hSc : HScr g X b L xs) {res : Int32 × St} (hQ : QL g X res.1)   (n : Nat) : ∀ (x3 : Int32) (σ : St) , SL_law_18 xs L n x3 σ = some res → V g X (mL) 18 [(0, .ref b), (1, .ref (g.ad (0))), (2, .ref (g.ad (75))), (3, .int (x3))] [] σ := by
  induction n with
  | zero => intro x3 σ; intro h; cases h
  | succ n ih =>
    intro x3 σ h
    have h : BL_law_18 xs L (SL_law_18 xs L n) x3 σ = some res := h
    unfold BL_law_18 at h
    refine V_iload_n (q := 19) hX dL_law_18 3 rfl rfl ?_
    refine V_aload_n (q := 20) hX dL_law_19 0 rfl rfl ?_
    refine V_slenx (q := 21) hX hSc dL_law_20 rfl ?_
    refine V_bipush (v := 7) (q := 23) hX dL_law_21 (by decide) rfl ?_
    refine V_isub (q := 24) hX dL_law_23 rfl ?_
    refine V_icmp_gt (q := 27) (t := 1669) hX dL_law_24 (by decide) rfl (fun z1429 => ?_) (fun z1429 => ?_)
    · have h := ite_t z1429 h
      refine V_iconst (v := 1) (q := 1670) hX dL_law_1669 (by decide) rfl ?_
      obtain ⟨f1, f2⟩ := some2 h
      rw [f1] at hQ
      exact V_lawret hX hQ rfl dL_law_1670
    have h := ite_f z1429 h
    refine V_aload_n (q := 28) hX dL_law_27 0 rfl rfl ?_
    refine V_iload_n (q := 29) hX dL_law_28 3 rfl rfl ?_
    obtain ⟨z1430, h⟩ := chk_t h
    refine V_sld (q := 30) hX hSc z1430 dL_law_29 rfl ?_
    refine V_bipush (v := 63) (q := 32) hX dL_law_30 (by decide) rfl ?_
    refine V_iand (q := 33) hX dL_law_32 rfl ?_
    by_cases z1431 : ((xs (x3).toNatClampNeg) &&& (63 : Int32)) = 0
    · have h := ite_t z1431 h
      refine V_tsw (q := 180) (off := 147) hX dL_law_33 (by rw [z1431]; decide) (by rw [z1431]; decide) (by rw [z1431]; decide) (by decide) ?_
      refine V_aload_n (q := 181) hX dL_law_180 1 rfl rfl ?_
      refine V_aload_n (q := 182) hX dL_law_181 0 rfl rfl ?_
      refine V_iload_n (q := 183) hX dL_law_182 3 rfl rfl ?_
      refine V_iconst (v := 1) (q := 184) hX dL_law_183 (by decide) rfl ?_
      refine V_iadd (q := 185) hX dL_law_184 rfl ?_
      obtain ⟨z1432, h⟩ := chk_t h
      refine V_sld (q := 186) hX hSc z1432 dL_law_185 rfl ?_
      obtain ⟨r1434, σ1433, e1435, h⟩ := bnd_some h
      refine V_cvI (n := 75) (c := 8) (nf := 11) (C := RX8) (T := TX8) (As := [.int ((xs ((x3 + (1 : Int32))).toNatClampNeg))]) (q := 189) hX (c8_count hX.2.2.2.2.1 (Nat.le_trans (by decide) hN) e1435) (goodV_of k2_210 k2_211 k2_212 k1_1 (cons_g k2_213)) (nA := 1) (by decide) rfl rfl rfl rfl rfl ⟨rfl, by decide⟩ (Nat.le_trans (by decide) hN) rfl rfl rfl dL_law_186 rfl ?_
      refine V_aload_n (q := 190) hX dL_law_189 2 rfl rfl ?_
      refine V_aload_n (q := 191) hX dL_law_190 0 rfl rfl ?_
      refine V_iload_n (q := 192) hX dL_law_191 3 rfl rfl ?_
      refine V_iconst (v := 1) (q := 193) hX dL_law_192 (by decide) rfl ?_
      refine V_iadd (q := 194) hX dL_law_193 rfl ?_
      obtain ⟨z1436, h⟩ := chk_t h
      refine V_sld (q := 195) hX hSc z1436 dL_law_194 rfl ?_
      obtain ⟨r1438, σ1437, e1439, h⟩ := bnd_some h
      refine V_cvI (n := 95) (c := 9) (nf := 39) (C := RX9) (T := TX9) (As := [.int ((xs ((x3 + (1 : Int32))).toNatClampNeg))]) (q := 198) hX (c9_count hX.2.2.2.2.1 hN e1439) (goodV_of k5_60 k5_61 k5_62 k1_16 (cons_g k5_63)) (nA := 1) (by decide) rfl rfl rfl rfl rfl ⟨rfl, by decide⟩ hN rfl rfl rfl dL_law_195 rfl ?_
      refine V_icmp_eq (q := 201) (t := 1663) hX dL_law_198 (by decide) rfl (fun z1440 => ?_) (fun z1440 => ?_)
      · have h := ite_t z1440 h
        refine V.pick [0, 1, 2, 3] rfl ?_
        exact vL_law_1663 hX hN hSc hQ ih x3 σ1437 h
      have h := ite_f z1440 h
      refine V_iconst (v := 0) (q := 202) hX dL_law_201 (by decide) rfl ?_
      obtain ⟨f1, f2⟩ := some2 h
      rw [f1] at hQ
      exact V_lawret hX hQ rfl dL_law_202
    have h := ite_f z1431 h
    by_cases z1441 : ((xs (x3).toNatClampNeg) &&& (63 : Int32)) = 1
    · have h := ite_t z1441 h
      refine V_tsw (q := 203) (off := 170) hX dL_law_33 (by rw [z1441]; decide) (by rw [z1441]; decide) (by rw [z1441]; decide) (by decide) ?_
      refine V_aload_n (q := 204) hX dL_law_203 1 rfl rfl ?_
      refine V_aload_n (q := 205) hX dL_law_204 0 rfl rfl ?_
      refine V_iload_n (q := 206) hX dL_law_205 3 rfl rfl ?_
      refine V_iconst (v := 1) (q := 207) hX dL_law_206 (by decide) rfl ?_
      refine V_iadd (q := 208) hX dL_law_207 rfl ?_
      obtain ⟨z1442, h⟩ := chk_t h
      refine V_sld (q := 209) hX hSc z1442 dL_law_208 rfl ?_
      refine V_aload_n (q := 210) hX dL_law_209 0 rfl rfl ?_
      refine V_iload_n (q := 211) hX dL_law_210 3 rfl rfl ?_
      refine V_iconst (v := 2) (q := 212) hX dL_law_211 (by decide) rfl ?_
      refine V_iadd (q := 213) hX dL_law_212 rfl ?_
      obtain ⟨z1443, h⟩ := chk_t h
      refine V_sld (q := 214) hX hSc z1443 dL_law_213 rfl ?_
      refine V_aload_n (q := 215) hX dL_law_214 0 rfl rfl ?_
      refine V_iload_n (q := 216) hX dL_law_215 3 rfl rfl ?_
      refine V_iconst (v := 3) (q := 217) hX dL_law_216 (by decide) rfl ?_
      refine V_iadd (q := 218) hX dL_law_217 rfl ?_
      obtain ⟨z1444, h⟩ := chk_t h
      refine V_sld (q := 219) hX hSc z1444 dL_law_218 rfl ?_
      refine V_aload_n (q := 220) hX dL_law_219 0 rfl rfl ?_
      refine V_iload_n (q := 221) hX dL_law_220 3 rfl rfl ?_
      refine V_iconst (v := 4) (q := 222) hX dL_law_221 (by decide) rfl ?_
      refine V_iadd (q := 223) hX dL_law_222 rfl ?_
      obtain ⟨z1445, h⟩ := chk_t h
      refine V_sld (q := 224) hX hSc z1445 dL_law_223 rfl ?_
      refine V_aload_n (q := 225) hX dL_law_224 0 rfl rfl ?_
      refine V_iload_n (q := 226) hX dL_law_225 3 rfl rfl ?_
      refine V_iconst (v := 5) (q := 227) hX dL_law_226 (by decide) rfl ?_
      refine V_iadd (q := 228) hX dL_law_227 rfl ?_
      obtain ⟨z1446, h⟩ := chk_t h
      refine V_sld (q := 229) hX hSc z1446 dL_law_228 rfl ?_
      refine V_aload_n (q := 230) hX dL_law_229 0 rfl rfl ?_
      refine V_iload_n (q := 231) hX dL_law_230 3 rfl rfl ?_
      refine V_bipush (v := 6) (q := 233) hX dL_law_231 (by decide) rfl ?_
      refine V_iadd (q := 234) hX dL_law_233 rfl ?_
      obtain ⟨z1447, h⟩ := chk_t h
      refine V_sld (q := 235) hX hSc z1447 dL_law_234 rfl ?_
      obtain ⟨r1449, σ1448, e1450, h⟩ := bnd_some h
      refine V_cvI (n := 75) (c := 8) (nf := 11) (C := RX8) (T := TX8) (As := [.int ((xs ((x3 + (1 : Int32))).toNatClampNeg)), .int ((xs ((x3 + (2 : Int32))).toNatClampNeg)), .int ((xs ((x3 + (3 : Int32))).toNatClampNeg)), .int ((xs ((x3 + (4 : Int32))).toNatClampNeg)), .int ((xs ((x3 + (5 : Int32))).toNatClampNeg)), .int ((xs ((x3 + (6 : Int32))).toNatClampNeg))]) (q := 238) hX (c8_feed hX.2.2.2.2.1 (Nat.le_trans (by decide) hN) e1450) (goodV_of k2_214 k2_215 k2_216 k1_1 (cons_g k2_217)) (nA := 6) (by decide) rfl rfl rfl rfl rfl ⟨rfl, by decide⟩ (Nat.le_trans (by decide) hN) rfl rfl rfl dL_law_235 rfl ?_
      refine V_aload_n (q := 239) hX dL_law_238 2 rfl rfl ?_
      refine V_aload_n (q := 240) hX dL_law_239 0 rfl rfl ?_
      refine V_iload_n (q := 241) hX dL_law_240 3 rfl rfl ?_
      refine V_iconst (v := 1) (q := 242) hX dL_law_241 (by decide) rfl ?_
      refine V_iadd (q := 243) hX dL_law_242 rfl ?_
      obtain ⟨z1451, h⟩ := chk_t h
      refine V_sld (q := 244) hX hSc z1451 dL_law_243 rfl ?_
      refine V_aload_n (q := 245) hX dL_law_244 0 rfl rfl ?_
      refine V_iload_n (q := 246) hX dL_law_245 3 rfl rfl ?_
      refine V_iconst (v := 2) (q := 247) hX dL_law_246 (by decide) rfl ?_
      refine V_iadd (q := 248) hX dL_law_247 rfl ?_
      obtain ⟨z1452, h⟩ := chk_t h
      refine V_sld (q := 249) hX hSc z1452 dL_law_248 rfl ?_
      refine V_aload_n (q := 250) hX dL_law_249 0 rfl rfl ?_
      refine V_iload_n (q := 251) hX dL_law_250 3 rfl rfl ?_
      refine V_iconst (v := 3) (q := 252) hX dL_law_251 (by decide) rfl ?_
      refine V_iadd (q := 253) hX dL_law_252 rfl ?_
      obtain ⟨z1453, h⟩ := chk_t h
      refine V_sld (q := 254) hX hSc z1453 dL_law_253 rfl ?_
      refine V_aload_n (q := 255) hX dL_law_254 0 rfl rfl ?_
      refine V_iload_n (q := 256) hX dL_law_255 3 rfl rfl ?_
      refine V_iconst (v := 4) (q := 257) hX dL_law_256 (by decide) rfl ?_
      refine V_iadd (q := 258) hX dL_law_257 rfl ?_
      obtain ⟨z1454, h⟩ := chk_t h
      refine V_sld (q := 259) hX hSc z1454 dL_law_258 rfl ?_
      refine V_aload_n (q := 260) hX dL_law_259 0 rfl rfl ?_
      refine V_iload_n (q := 261) hX dL_law_260 3 rfl rfl ?_
      refine V_iconst (v := 5) (q := 262) hX dL_law_261 (by decide) rfl ?_
      refine V_iadd (q := 263) hX dL_law_262 rfl ?_
      obtain ⟨z1455, h⟩ := chk_t h
      refine V_sld (q := 264) hX hSc z1455 dL_law_263 rfl ?_
      refine V_aload_n (q := 265) hX dL_law_264 0 rfl rfl ?_
      refine V_iload_n (q := 266) hX dL_law_265 3 rfl rfl ?_
      refine V_bipush (v := 6) (q := 268) hX dL_law_266 (by decide) rfl ?_
      refine V_iadd (q := 269) hX dL_law_268 rfl ?_
      obtain ⟨z1456, h⟩ := chk_t h
      refine V_sld (q := 270) hX hSc z1456 dL_law_269 rfl ?_
      obtain ⟨r1458, σ1457, e1459, h⟩ := bnd_some h
      refine V_cvI (n := 95) (c := 9) (nf := 39) (C := RX9) (T := TX9) (As := [.int ((xs ((x3 + (1 : Int32))).toNatClampNeg)), .int ((xs ((x3 + (2 : Int32))).toNatClampNeg)), .int ((xs ((x3 + (3 : Int32))).toNatClampNeg)), .int ((xs ((x3 + (4 : Int32))).toNatClampNeg)), .int ((xs ((x3 + (5 : Int32))).toNatClampNeg)), .int ((xs ((x3 + (6 : Int32))).toNatClampNeg))]) (q := 273) hX (c9_feed hX.2.2.2.2.1 hN e1459) (goodV_of k5_64 k5_65 k5_66 k1_16 (cons_g k5_67)) (nA := 6) (by decide) rfl rfl rfl rfl rfl ⟨rfl, by decide⟩ hN rfl rfl rfl dL_law_270 rfl ?_
      refine V_icmp_eq (q := 276) (t := 1663) hX dL_law_273 (by decide) rfl (fun z1460 => ?_) (fun z1460 => ?_)
      · have h := ite_t z1460 h
        refine V.pick [0, 1, 2, 3] rfl ?_
        exact vL_law_1663 hX hN hSc hQ ih x3 σ1457 h
      have h := ite_f z1460 h
      refine V_iconst (v := 0) (q := 277) hX dL_law_276 (by decide) rfl ?_
      obtain ⟨f1, f2⟩ := some2 h
      rw [f1] at hQ
      exact V_lawret hX hQ rfl dL_law_277
    have h := ite_f z1441 h
    by_cases z1461 : ((xs (x3).toNatClampNeg) &&& (63 : Int32)) = 2
    · have h := ite_t z1461 h
      refine V_tsw (q := 278) (off := 245) hX dL_law_33 (by rw [z1461]; decide) (by rw [z1461]; decide) (by rw [z1461]; decide) (by decide) ?_
      refine V_aload_n (q := 279) hX dL_law_278 1 rfl rfl ?_
      obtain ⟨r1463, σ1462, e1464, h⟩ := bnd_some h
      refine V_cvI (n := 75) (c := 8) (nf := 11) (C := RX8) (T := TX8) (As := []) (q := 282) hX (c8_text hX.2.2.2.2.1 (Nat.le_trans (by decide) hN) e1464) (goodV_of k2_221 k2_222 k2_223 k1_1 (cons_g k2_224)) (nA := 0) (by decide) rfl rfl rfl rfl rfl ⟨rfl, by decide⟩ (Nat.le_trans (by decide) hN) rfl rfl rfl dL_law_279 rfl ?_
      refine V_aload_n (q := 283) hX dL_law_282 2 rfl rfl ?_
      obtain ⟨r1466, σ1465, e1467, h⟩ := bnd_some h
      refine V_cvI (n := 95) (c := 9) (nf := 39) (C := RX9) (T := TX9) (As := []) (q := 286) hX (c9_text hX.2.2.2.2.1 hN e1467) (goodV_of k5_71 k4_136 k4_137 k1_16 (cons_g k4_138)) (nA := 0) (by decide) rfl rfl rfl rfl rfl ⟨rfl, by decide⟩ hN rfl rfl rfl dL_law_283 rfl ?_
      refine V_icmp_eq (q := 289) (t := 1663) hX dL_law_286 (by decide) rfl (fun z1468 => ?_) (fun z1468 => ?_)
      · have h := ite_t z1468 h
        refine V.pick [0, 1, 2, 3] rfl ?_
        exact vL_law_1663 hX hN hSc hQ ih x3 σ1465 h
      have h := ite_f z1468 h
      refine V_iconst (v := 0) (q := 290) hX dL_law_289 (by decide) rfl ?_
      obtain ⟨f1, f2⟩ := some2 h
      rw [f1] at hQ
      exact V_lawret hX hQ rfl dL_law_290
    have h := ite_f z1461 h
    by_cases z1469 : ((xs (x3).toNatClampNeg) &&& (63 : Int32)) = 3
    · have h := ite_t z1469 h
      refine V_tsw (q := 291) (off := 258) hX dL_law_33 (by rw [z1469]; decide) (by rw [z1469]; decide) (by rw [z1469]; decide) (by decide) ?_
      refine V_aload_n (q := 292) hX dL_law_291 1 rfl rfl ?_
      refine V_aload_n (q := 293) hX dL_law_292 0 rfl rfl ?_
      refine V_iload_n (q := 294) hX dL_law_293 3 rfl rfl ?_
      refine V_iconst (v := 1) (q := 295) hX dL_law_294 (by decide) rfl ?_
      refine V_iadd (q := 296) hX dL_law_295 rfl ?_
      obtain ⟨z1470, h⟩ := chk_t h
      refine V_sld (q := 297) hX hSc z1470 dL_law_296 rfl ?_
      obtain ⟨r1472, σ1471, e1473, h⟩ := bnd_some h
      refine V_cvI (n := 75) (c := 8) (nf := 11) (C := RX8) (T := TX8) (As := [.int ((xs ((x3 + (1 : Int32))).toNatClampNeg))]) (q := 300) hX (c8_force hX.2.2.2.2.1 (Nat.le_trans (by decide) hN) e1473) (goodV_of k2_229 k2_230 k2_231 k1_1 (cons_g k2_232)) (nA := 1) (by decide) rfl rfl rfl rfl rfl ⟨rfl, by decide⟩ (Nat.le_trans (by decide) hN) rfl rfl rfl dL_law_297 rfl ?_
      refine V_aload_n (q := 301) hX dL_law_300 2 rfl rfl ?_
      refine V_aload_n (q := 302) hX dL_law_301 0 rfl rfl ?_
      refine V_iload_n (q := 303) hX dL_law_302 3 rfl rfl ?_
      refine V_iconst (v := 1) (q := 304) hX dL_law_303 (by decide) rfl ?_
      refine V_iadd (q := 305) hX dL_law_304 rfl ?_
      obtain ⟨z1474, h⟩ := chk_t h
      refine V_sld (q := 306) hX hSc z1474 dL_law_305 rfl ?_
      obtain ⟨r1476, σ1475, e1477, h⟩ := bnd_some h
      refine V_cvI (n := 95) (c := 9) (nf := 39) (C := RX9) (T := TX9) (As := [.int ((xs ((x3 + (1 : Int32))).toNatClampNeg))]) (q := 309) hX (c9_force hX.2.2.2.2.1 hN e1477) (goodV_of k5_72 k5_73 k5_74 k1_16 (cons_g k5_75)) (nA := 1) (by decide) rfl rfl rfl rfl rfl ⟨rfl, by decide⟩ hN rfl rfl rfl dL_law_306 rfl ?_
      refine V_icmp_eq (q := 312) (t := 1663) hX dL_law_309 (by decide) rfl (fun z1478 => ?_) (fun z1478 => ?_)
      · have h := ite_t z1478 h
        refine V.pick [0, 1, 2, 3] rfl ?_
        exact vL_law_1663 hX hN hSc hQ ih x3 σ1475 h
      have h := ite_f z1478 h
      refine V_iconst (v := 0) (q := 313) hX dL_law_312 (by decide) rfl ?_
      obtain ⟨f1, f2⟩ := some2 h
      rw [f1] at hQ
      exact V_lawret hX hQ rfl dL_law_313
    have h := ite_f z1469 h
    by_cases z1479 : ((xs (x3).toNatClampNeg) &&& (63 : Int32)) = 4
    · have h := ite_t z1479 h
      refine V_tsw (q := 314) (off := 281) hX dL_law_33 (by rw [z1479]; decide) (by rw [z1479]; decide) (by rw [z1479]; decide) (by decide) ?_
      refine V_aload_n (q := 315) hX dL_law_314 1 rfl rfl ?_
      refine V_aload_n (q := 316) hX dL_law_315 0 rfl rfl ?_
      refine V_iload_n (q := 317) hX dL_law_316 3 rfl rfl ?_
      refine V_iconst (v := 1) (q := 318) hX dL_law_317 (by decide) rfl ?_
      refine V_iadd (q := 319) hX dL_law_318 rfl ?_
      obtain ⟨z1480, h⟩ := chk_t h
      refine V_sld (q := 320) hX hSc z1480 dL_law_319 rfl ?_
      refine V_aload_n (q := 321) hX dL_law_320 0 rfl rfl ?_
      refine V_iload_n (q := 322) hX dL_law_321 3 rfl rfl ?_
      refine V_iconst (v := 2) (q := 323) hX dL_law_322 (by decide) rfl ?_
      refine V_iadd (q := 324) hX dL_law_323 rfl ?_
      obtain ⟨z1481, h⟩ := chk_t h
      refine V_sld (q := 325) hX hSc z1481 dL_law_324 rfl ?_
      refine V_aload_n (q := 326) hX dL_law_325 0 rfl rfl ?_
      refine V_iload_n (q := 327) hX dL_law_326 3 rfl rfl ?_
      refine V_iconst (v := 3) (q := 328) hX dL_law_327 (by decide) rfl ?_
      refine V_iadd (q := 329) hX dL_law_328 rfl ?_
      obtain ⟨z1482, h⟩ := chk_t h
      refine V_sld (q := 330) hX hSc z1482 dL_law_329 rfl ?_
      refine V_aload_n (q := 331) hX dL_law_330 0 rfl rfl ?_
      refine V_iload_n (q := 332) hX dL_law_331 3 rfl rfl ?_
      refine V_iconst (v := 4) (q := 333) hX dL_law_332 (by decide) rfl ?_
      refine V_iadd (q := 334) hX dL_law_333 rfl ?_
      obtain ⟨z1483, h⟩ := chk_t h
      refine V_sld (q := 335) hX hSc z1483 dL_law_334 rfl ?_
      obtain ⟨r1485, σ1484, e1486, h⟩ := bnd_some h
      refine V_cvI (n := 75) (c := 8) (nf := 11) (C := RX8) (T := TX8) (As := [.int ((xs ((x3 + (1 : Int32))).toNatClampNeg)), .int ((xs ((x3 + (2 : Int32))).toNatClampNeg)), .int ((xs ((x3 + (3 : Int32))).toNatClampNeg)), .int ((xs ((x3 + (4 : Int32))).toNatClampNeg))]) (q := 338) hX (c8_asks hX.2.2.2.2.1 (Nat.le_trans (by decide) hN) e1486) (goodV_of k2_233 k2_234 k2_235 k1_1 (cons_g k2_236)) (nA := 4) (by decide) rfl rfl rfl rfl rfl ⟨rfl, by decide⟩ (Nat.le_trans (by decide) hN) rfl rfl rfl dL_law_335 rfl ?_
      refine V_aload_n (q := 339) hX dL_law_338 2 rfl rfl ?_
      refine V_aload_n (q := 340) hX dL_law_339 0 rfl rfl ?_
      refine V_iload_n (q := 341) hX dL_law_340 3 rfl rfl ?_
      refine V_iconst (v := 1) (q := 342) hX dL_law_341 (by decide) rfl ?_
      refine V_iadd (q := 343) hX dL_law_342 rfl ?_
      obtain ⟨z1487, h⟩ := chk_t h
      refine V_sld (q := 344) hX hSc z1487 dL_law_343 rfl ?_
      refine V_aload_n (q := 345) hX dL_law_344 0 rfl rfl ?_
      refine V_iload_n (q := 346) hX dL_law_345 3 rfl rfl ?_
      refine V_iconst (v := 2) (q := 347) hX dL_law_346 (by decide) rfl ?_
      refine V_iadd (q := 348) hX dL_law_347 rfl ?_
      obtain ⟨z1488, h⟩ := chk_t h
      refine V_sld (q := 349) hX hSc z1488 dL_law_348 rfl ?_
      refine V_aload_n (q := 350) hX dL_law_349 0 rfl rfl ?_
      refine V_iload_n (q := 351) hX dL_law_350 3 rfl rfl ?_
      refine V_iconst (v := 3) (q := 352) hX dL_law_351 (by decide) rfl ?_
      refine V_iadd (q := 353) hX dL_law_352 rfl ?_
      obtain ⟨z1489, h⟩ := chk_t h
      refine V_sld (q := 354) hX hSc z1489 dL_law_353 rfl ?_
      refine V_aload_n (q := 355) hX dL_law_354 0 rfl rfl ?_
      refine V_iload_n (q := 356) hX dL_law_355 3 rfl rfl ?_
      refine V_iconst (v := 4) (q := 357) hX dL_law_356 (by decide) rfl ?_
      refine V_iadd (q := 358) hX dL_law_357 rfl ?_
      obtain ⟨z1490, h⟩ := chk_t h
      refine V_sld (q := 359) hX hSc z1490 dL_law_358 rfl ?_
      obtain ⟨r1492, σ1491, e1493, h⟩ := bnd_some h
      refine V_cvI (n := 95) (c := 9) (nf := 39) (C := RX9) (T := TX9) (As := [.int ((xs ((x3 + (1 : Int32))).toNatClampNeg)), .int ((xs ((x3 + (2 : Int32))).toNatClampNeg)), .int ((xs ((x3 + (3 : Int32))).toNatClampNeg)), .int ((xs ((x3 + (4 : Int32))).toNatClampNeg))]) (q := 362) hX (c9_asks hX.2.2.2.2.1 hN e1493) (goodV_of k5_76 k5_77 k5_78 k1_16 (cons_g k5_79)) (nA := 4) (by decide) rfl rfl rfl rfl rfl ⟨rfl, by decide⟩ hN rfl rfl rfl dL_law_359 rfl ?_
      refine V_icmp_eq (q := 365) (t := 1663) hX dL_law_362 (by decide) rfl (fun z1494 => ?_) (fun z1494 => ?_)
      · have h := ite_t z1494 h
        refine V.pick [0, 1, 2, 3] rfl ?_
        exact vL_law_1663 hX hN hSc hQ ih x3 σ1491 h
      have h := ite_f z1494 h
      refine V_iconst (v := 0) (q := 366) hX dL_law_365 (by decide) rfl ?_
      obtain ⟨f1, f2⟩ := some2 h
      rw [f1] at hQ
      exact V_lawret hX hQ rfl dL_law_366
    have h := ite_f z1479 h
    by_cases z1495 : ((xs (x3).toNatClampNeg) &&& (63 : Int32)) = 5
    · have h := ite_t z1495 h
      refine V_tsw (q := 367) (off := 334) hX dL_law_33 (by rw [z1495]; decide) (by rw [z1495]; decide) (by rw [z1495]; decide) (by decide) ?_
      refine V_aload_n (q := 368) hX dL_law_367 1 rfl rfl ?_
      refine V_aload_n (q := 369) hX dL_law_368 0 rfl rfl ?_
      refine V_iload_n (q := 370) hX dL_law_369 3 rfl rfl ?_
      refine V_iconst (v := 1) (q := 371) hX dL_law_370 (by decide) rfl ?_
      refine V_iadd (q := 372) hX dL_law_371 rfl ?_
      obtain ⟨z1496, h⟩ := chk_t h
      refine V_sld (q := 373) hX hSc z1496 dL_law_372 rfl ?_
      refine V_aload_n (q := 374) hX dL_law_373 0 rfl rfl ?_
      refine V_iload_n (q := 375) hX dL_law_374 3 rfl rfl ?_
      refine V_iconst (v := 2) (q := 376) hX dL_law_375 (by decide) rfl ?_
      refine V_iadd (q := 377) hX dL_law_376 rfl ?_
      obtain ⟨z1497, h⟩ := chk_t h
      refine V_sld (q := 378) hX hSc z1497 dL_law_377 rfl ?_
      obtain ⟨r1499, σ1498, e1500, h⟩ := bnd_some h
      refine V_cvI (n := 75) (c := 8) (nf := 11) (C := RX8) (T := TX8) (As := [.int ((xs ((x3 + (1 : Int32))).toNatClampNeg)), .int ((xs ((x3 + (2 : Int32))).toNatClampNeg))]) (q := 381) hX (c8_man hX.2.2.2.2.1 (Nat.le_trans (by decide) hN) e1500) (goodV_of k3_39 k3_40 k3_41 k1_1 (cons_g k3_42)) (nA := 2) (by decide) rfl rfl rfl rfl rfl ⟨rfl, by decide⟩ (Nat.le_trans (by decide) hN) rfl rfl rfl dL_law_378 rfl ?_
      refine V_aload_n (q := 382) hX dL_law_381 2 rfl rfl ?_
      refine V_aload_n (q := 383) hX dL_law_382 0 rfl rfl ?_
      refine V_iload_n (q := 384) hX dL_law_383 3 rfl rfl ?_
      refine V_iconst (v := 1) (q := 385) hX dL_law_384 (by decide) rfl ?_
      refine V_iadd (q := 386) hX dL_law_385 rfl ?_
      obtain ⟨z1501, h⟩ := chk_t h
      refine V_sld (q := 387) hX hSc z1501 dL_law_386 rfl ?_
      refine V_aload_n (q := 388) hX dL_law_387 0 rfl rfl ?_
      refine V_iload_n (q := 389) hX dL_law_388 3 rfl rfl ?_
      refine V_iconst (v := 2) (q := 390) hX dL_law_389 (by decide) rfl ?_
      refine V_iadd (q := 391) hX dL_law_390 rfl ?_
      obtain ⟨z1502, h⟩ := chk_t h
      refine V_sld (q := 392) hX hSc z1502 dL_law_391 rfl ?_
      obtain ⟨r1504, σ1503, e1505, h⟩ := bnd_some h
      refine V_cvI (n := 95) (c := 9) (nf := 39) (C := RX9) (T := TX9) (As := [.int ((xs ((x3 + (1 : Int32))).toNatClampNeg)), .int ((xs ((x3 + (2 : Int32))).toNatClampNeg))]) (q := 395) hX (c9_man hX.2.2.2.2.1 hN e1505) (goodV_of k5_98 k5_99 k5_100 k1_16 (cons_g k5_101)) (nA := 2) (by decide) rfl rfl rfl rfl rfl ⟨rfl, by decide⟩ hN rfl rfl rfl dL_law_392 rfl ?_
      refine V_icmp_eq (q := 398) (t := 1663) hX dL_law_395 (by decide) rfl (fun z1506 => ?_) (fun z1506 => ?_)
      · have h := ite_t z1506 h
        refine V.pick [0, 1, 2, 3] rfl ?_
        exact vL_law_1663 hX hN hSc hQ ih x3 σ1503 h
      have h := ite_f z1506 h
      refine V_iconst (v := 0) (q := 399) hX dL_law_398 (by decide) rfl ?_
      obtain ⟨f1, f2⟩ := some2 h
      rw [f1] at hQ
      exact V_lawret hX hQ rfl dL_law_399
    have h := ite_f z1495 h
    by_cases z1507 : ((xs (x3).toNatClampNeg) &&& (63 : Int32)) = 6
    · have h := ite_t z1507 h
      refine V_tsw (q := 400) (off := 367) hX dL_law_33 (by rw [z1507]; decide) (by rw [z1507]; decide) (by rw [z1507]; decide) (by decide) ?_
      refine V_aload_n (q := 401) hX dL_law_400 1 rfl rfl ?_
      refine V_aload_n (q := 402) hX dL_law_401 0 rfl rfl ?_
      refine V_iload_n (q := 403) hX dL_law_402 3 rfl rfl ?_
      refine V_iconst (v := 1) (q := 404) hX dL_law_403 (by decide) rfl ?_
      refine V_iadd (q := 405) hX dL_law_404 rfl ?_
      obtain ⟨z1508, h⟩ := chk_t h
      refine V_sld (q := 406) hX hSc z1508 dL_law_405 rfl ?_
      refine V_aload_n (q := 407) hX dL_law_406 0 rfl rfl ?_
      refine V_iload_n (q := 408) hX dL_law_407 3 rfl rfl ?_
      refine V_iconst (v := 2) (q := 409) hX dL_law_408 (by decide) rfl ?_
      refine V_iadd (q := 410) hX dL_law_409 rfl ?_
      obtain ⟨z1509, h⟩ := chk_t h
      refine V_sld (q := 411) hX hSc z1509 dL_law_410 rfl ?_
      refine V_aload_n (q := 412) hX dL_law_411 0 rfl rfl ?_
      refine V_iload_n (q := 413) hX dL_law_412 3 rfl rfl ?_
      refine V_iconst (v := 3) (q := 414) hX dL_law_413 (by decide) rfl ?_
      refine V_iadd (q := 415) hX dL_law_414 rfl ?_
      obtain ⟨z1510, h⟩ := chk_t h
      refine V_sld (q := 416) hX hSc z1510 dL_law_415 rfl ?_
      obtain ⟨r1512, σ1511, e1513, h⟩ := bnd_some h
      refine V_cvI (n := 75) (c := 8) (nf := 11) (C := RX8) (T := TX8) (As := [.int ((xs ((x3 + (1 : Int32))).toNatClampNeg)), .int ((xs ((x3 + (2 : Int32))).toNatClampNeg)), .int ((xs ((x3 + (3 : Int32))).toNatClampNeg))]) (q := 419) hX (c8_put hX.2.2.2.2.1 (Nat.le_trans (by decide) hN) e1513) (goodV_of k3_47 k3_48 k3_49 k1_1 (cons_g k3_50)) (nA := 3) (by decide) rfl rfl rfl rfl rfl ⟨rfl, by decide⟩ (Nat.le_trans (by decide) hN) rfl rfl rfl dL_law_416 rfl ?_
      refine V_aload_n (q := 420) hX dL_law_419 2 rfl rfl ?_
      refine V_aload_n (q := 421) hX dL_law_420 0 rfl rfl ?_
      refine V_iload_n (q := 422) hX dL_law_421 3 rfl rfl ?_
      refine V_iconst (v := 1) (q := 423) hX dL_law_422 (by decide) rfl ?_
      refine V_iadd (q := 424) hX dL_law_423 rfl ?_
      obtain ⟨z1514, h⟩ := chk_t h
      refine V_sld (q := 425) hX hSc z1514 dL_law_424 rfl ?_
      refine V_aload_n (q := 426) hX dL_law_425 0 rfl rfl ?_
      refine V_iload_n (q := 427) hX dL_law_426 3 rfl rfl ?_
      refine V_iconst (v := 2) (q := 428) hX dL_law_427 (by decide) rfl ?_
      refine V_iadd (q := 429) hX dL_law_428 rfl ?_
      obtain ⟨z1515, h⟩ := chk_t h
      refine V_sld (q := 430) hX hSc z1515 dL_law_429 rfl ?_
      refine V_aload_n (q := 431) hX dL_law_430 0 rfl rfl ?_
      refine V_iload_n (q := 432) hX dL_law_431 3 rfl rfl ?_
      refine V_iconst (v := 3) (q := 433) hX dL_law_432 (by decide) rfl ?_
      refine V_iadd (q := 434) hX dL_law_433 rfl ?_
      obtain ⟨z1516, h⟩ := chk_t h
      refine V_sld (q := 435) hX hSc z1516 dL_law_434 rfl ?_
      obtain ⟨r1518, σ1517, e1519, h⟩ := bnd_some h
      refine V_cvI (n := 95) (c := 9) (nf := 39) (C := RX9) (T := TX9) (As := [.int ((xs ((x3 + (1 : Int32))).toNatClampNeg)), .int ((xs ((x3 + (2 : Int32))).toNatClampNeg)), .int ((xs ((x3 + (3 : Int32))).toNatClampNeg))]) (q := 438) hX (c9_put hX.2.2.2.2.1 hN e1519) (goodV_of k5_102 k5_103 k5_104 k1_16 (cons_g k5_105)) (nA := 3) (by decide) rfl rfl rfl rfl rfl ⟨rfl, by decide⟩ hN rfl rfl rfl dL_law_435 rfl ?_
      refine V_icmp_eq (q := 441) (t := 1663) hX dL_law_438 (by decide) rfl (fun z1520 => ?_) (fun z1520 => ?_)
      · have h := ite_t z1520 h
        refine V.pick [0, 1, 2, 3] rfl ?_
        exact vL_law_1663 hX hN hSc hQ ih x3 σ1517 h
      have h := ite_f z1520 h
      refine V_iconst (v := 0) (q := 442) hX dL_law_441 (by decide) rfl ?_
      obtain ⟨f1, f2⟩ := some2 h
      rw [f1] at hQ
      exact V_lawret hX hQ rfl dL_law_442
    have h := ite_f z1507 h
    by_cases z1521 : ((xs (x3).toNatClampNeg) &&& (63 : Int32)) = 7
    · have h := ite_t z1521 h
      refine V_tsw (q := 443) (off := 410) hX dL_law_33 (by rw [z1521]; decide) (by rw [z1521]; decide) (by rw [z1521]; decide) (by decide) ?_
      refine V_aload_n (q := 444) hX dL_law_443 1 rfl rfl ?_
      refine V_aload_n (q := 445) hX dL_law_444 0 rfl rfl ?_
      refine V_iload_n (q := 446) hX dL_law_445 3 rfl rfl ?_
      refine V_iconst (v := 1) (q := 447) hX dL_law_446 (by decide) rfl ?_
      refine V_iadd (q := 448) hX dL_law_447 rfl ?_
      obtain ⟨z1522, h⟩ := chk_t h
      refine V_sld (q := 449) hX hSc z1522 dL_law_448 rfl ?_
      refine V_aload_n (q := 450) hX dL_law_449 0 rfl rfl ?_
      refine V_iload_n (q := 451) hX dL_law_450 3 rfl rfl ?_
      refine V_iconst (v := 2) (q := 452) hX dL_law_451 (by decide) rfl ?_
      refine V_iadd (q := 453) hX dL_law_452 rfl ?_
      obtain ⟨z1523, h⟩ := chk_t h
      refine V_sld (q := 454) hX hSc z1523 dL_law_453 rfl ?_
      obtain ⟨r1525, σ1524, e1526, h⟩ := bnd_some h
      refine V_cvI (n := 75) (c := 8) (nf := 11) (C := RX8) (T := TX8) (As := [.int ((xs ((x3 + (1 : Int32))).toNatClampNeg)), .int ((xs ((x3 + (2 : Int32))).toNatClampNeg))]) (q := 457) hX (c8_told hX.2.2.2.2.1 (Nat.le_trans (by decide) hN) e1526) (goodV_of k3_59 k3_60 k3_61 k1_1 (cons_g k3_62)) (nA := 2) (by decide) rfl rfl rfl rfl rfl ⟨rfl, by decide⟩ (Nat.le_trans (by decide) hN) rfl rfl rfl dL_law_454 rfl ?_
      refine V_aload_n (q := 458) hX dL_law_457 2 rfl rfl ?_
      refine V_aload_n (q := 459) hX dL_law_458 0 rfl rfl ?_
      refine V_iload_n (q := 460) hX dL_law_459 3 rfl rfl ?_
      refine V_iconst (v := 1) (q := 461) hX dL_law_460 (by decide) rfl ?_
      refine V_iadd (q := 462) hX dL_law_461 rfl ?_
      obtain ⟨z1527, h⟩ := chk_t h
      refine V_sld (q := 463) hX hSc z1527 dL_law_462 rfl ?_
      refine V_aload_n (q := 464) hX dL_law_463 0 rfl rfl ?_
      refine V_iload_n (q := 465) hX dL_law_464 3 rfl rfl ?_
      refine V_iconst (v := 2) (q := 466) hX dL_law_465 (by decide) rfl ?_
      refine V_iadd (q := 467) hX dL_law_466 rfl ?_
      obtain ⟨z1528, h⟩ := chk_t h
      refine V_sld (q := 468) hX hSc z1528 dL_law_467 rfl ?_
      obtain ⟨r1530, σ1529, e1531, h⟩ := bnd_some h
      refine V_cvI (n := 95) (c := 9) (nf := 39) (C := RX9) (T := TX9) (As := [.int ((xs ((x3 + (1 : Int32))).toNatClampNeg)), .int ((xs ((x3 + (2 : Int32))).toNatClampNeg))]) (q := 471) hX (c9_told hX.2.2.2.2.1 hN e1531) (goodV_of k5_106 k5_107 k5_108 k1_16 (cons_g k5_109)) (nA := 2) (by decide) rfl rfl rfl rfl rfl ⟨rfl, by decide⟩ hN rfl rfl rfl dL_law_468 rfl ?_
      refine V_icmp_eq (q := 474) (t := 1663) hX dL_law_471 (by decide) rfl (fun z1532 => ?_) (fun z1532 => ?_)
      · have h := ite_t z1532 h
        refine V.pick [0, 1, 2, 3] rfl ?_
        exact vL_law_1663 hX hN hSc hQ ih x3 σ1529 h
      have h := ite_f z1532 h
      refine V_iconst (v := 0) (q := 475) hX dL_law_474 (by decide) rfl ?_
      obtain ⟨f1, f2⟩ := some2 h
      rw [f1] at hQ
      exact V_lawret hX hQ rfl dL_law_475
    have h := ite_f z1521 h
    by_cases z1533 : ((xs (x3).toNatClampNeg) &&& (63 : Int32)) = 8
    · have h := ite_t z1533 h
      refine V_tsw (q := 476) (off := 443) hX dL_law_33 (by rw [z1533]; decide) (by rw [z1533]; decide) (by rw [z1533]; decide) (by decide) ?_
      refine V_aload_n (q := 477) hX dL_law_476 1 rfl rfl ?_
      refine V_aload_n (q := 478) hX dL_law_477 0 rfl rfl ?_
      refine V_iload_n (q := 479) hX dL_law_478 3 rfl rfl ?_
      refine V_iconst (v := 1) (q := 480) hX dL_law_479 (by decide) rfl ?_
      refine V_iadd (q := 481) hX dL_law_480 rfl ?_
      obtain ⟨z1534, h⟩ := chk_t h
      refine V_sld (q := 482) hX hSc z1534 dL_law_481 rfl ?_
      refine V_aload_n (q := 483) hX dL_law_482 0 rfl rfl ?_
      refine V_iload_n (q := 484) hX dL_law_483 3 rfl rfl ?_
      refine V_iconst (v := 2) (q := 485) hX dL_law_484 (by decide) rfl ?_
      refine V_iadd (q := 486) hX dL_law_485 rfl ?_
      obtain ⟨z1535, h⟩ := chk_t h
      refine V_sld (q := 487) hX hSc z1535 dL_law_486 rfl ?_
      refine V_aload_n (q := 488) hX dL_law_487 0 rfl rfl ?_
      refine V_iload_n (q := 489) hX dL_law_488 3 rfl rfl ?_
      refine V_iconst (v := 3) (q := 490) hX dL_law_489 (by decide) rfl ?_
      refine V_iadd (q := 491) hX dL_law_490 rfl ?_
      obtain ⟨z1536, h⟩ := chk_t h
      refine V_sld (q := 492) hX hSc z1536 dL_law_491 rfl ?_
      refine V_aload_n (q := 493) hX dL_law_492 0 rfl rfl ?_
      refine V_iload_n (q := 494) hX dL_law_493 3 rfl rfl ?_
      refine V_iconst (v := 4) (q := 495) hX dL_law_494 (by decide) rfl ?_
      refine V_iadd (q := 496) hX dL_law_495 rfl ?_
      obtain ⟨z1537, h⟩ := chk_t h
      refine V_sld (q := 497) hX hSc z1537 dL_law_496 rfl ?_
      obtain ⟨r1539, σ1538, e1540, h⟩ := bnd_some h
      refine V_cvI (n := 75) (c := 8) (nf := 11) (C := RX8) (T := TX8) (As := [.int ((xs ((x3 + (1 : Int32))).toNatClampNeg)), .int ((xs ((x3 + (2 : Int32))).toNatClampNeg)), .int ((xs ((x3 + (3 : Int32))).toNatClampNeg)), .int ((xs ((x3 + (4 : Int32))).toNatClampNeg))]) (q := 500) hX (c8_bout hX.2.2.2.2.1 (Nat.le_trans (by decide) hN) e1540) (goodV_of k3_63 k3_64 k3_65 k1_1 (cons_g k3_66)) (nA := 4) (by decide) rfl rfl rfl rfl rfl ⟨rfl, by decide⟩ (Nat.le_trans (by decide) hN) rfl rfl rfl dL_law_497 rfl ?_
      refine V_aload_n (q := 501) hX dL_law_500 2 rfl rfl ?_
      refine V_aload_n (q := 502) hX dL_law_501 0 rfl rfl ?_
      refine V_iload_n (q := 503) hX dL_law_502 3 rfl rfl ?_
      refine V_iconst (v := 1) (q := 504) hX dL_law_503 (by decide) rfl ?_
      refine V_iadd (q := 505) hX dL_law_504 rfl ?_
      obtain ⟨z1541, h⟩ := chk_t h
      refine V_sld (q := 506) hX hSc z1541 dL_law_505 rfl ?_
      refine V_aload_n (q := 507) hX dL_law_506 0 rfl rfl ?_
      refine V_iload_n (q := 508) hX dL_law_507 3 rfl rfl ?_
      refine V_iconst (v := 2) (q := 509) hX dL_law_508 (by decide) rfl ?_
      refine V_iadd (q := 510) hX dL_law_509 rfl ?_
      obtain ⟨z1542, h⟩ := chk_t h
      refine V_sld (q := 511) hX hSc z1542 dL_law_510 rfl ?_
      refine V_aload_n (q := 512) hX dL_law_511 0 rfl rfl ?_
      refine V_iload_n (q := 513) hX dL_law_512 3 rfl rfl ?_
      refine V_iconst (v := 3) (q := 514) hX dL_law_513 (by decide) rfl ?_
      refine V_iadd (q := 515) hX dL_law_514 rfl ?_
      obtain ⟨z1543, h⟩ := chk_t h
      refine V_sld (q := 516) hX hSc z1543 dL_law_515 rfl ?_
      refine V_aload_n (q := 517) hX dL_law_516 0 rfl rfl ?_
      refine V_iload_n (q := 518) hX dL_law_517 3 rfl rfl ?_
      refine V_iconst (v := 4) (q := 519) hX dL_law_518 (by decide) rfl ?_
      refine V_iadd (q := 520) hX dL_law_519 rfl ?_
      obtain ⟨z1544, h⟩ := chk_t h
      refine V_sld (q := 521) hX hSc z1544 dL_law_520 rfl ?_
      obtain ⟨r1546, σ1545, e1547, h⟩ := bnd_some h
      refine V_cvI (n := 95) (c := 9) (nf := 39) (C := RX9) (T := TX9) (As := [.int ((xs ((x3 + (1 : Int32))).toNatClampNeg)), .int ((xs ((x3 + (2 : Int32))).toNatClampNeg)), .int ((xs ((x3 + (3 : Int32))).toNatClampNeg)), .int ((xs ((x3 + (4 : Int32))).toNatClampNeg))]) (q := 524) hX (c9_bout hX.2.2.2.2.1 hN e1547) (goodV_of k5_110 k5_111 k5_112 k1_16 (cons_g k5_113)) (nA := 4) (by decide) rfl rfl rfl rfl rfl ⟨rfl, by decide⟩ hN rfl rfl rfl dL_law_521 rfl ?_
      refine V_icmp_eq (q := 527) (t := 1663) hX dL_law_524 (by decide) rfl (fun z1548 => ?_) (fun z1548 => ?_)
      · have h := ite_t z1548 h
        refine V.pick [0, 1, 2, 3] rfl ?_
        exact vL_law_1663 hX hN hSc hQ ih x3 σ1545 h
      have h := ite_f z1548 h
      refine V_iconst (v := 0) (q := 528) hX dL_law_527 (by decide) rfl ?_
      obtain ⟨f1, f2⟩ := some2 h
      rw [f1] at hQ
      exact V_lawret hX hQ rfl dL_law_528
    have h := ite_f z1533 h
    by_cases z1549 : ((xs (x3).toNatClampNeg) &&& (63 : Int32)) = 9
    · have h := ite_t z1549 h
      refine V_tsw (q := 529) (off := 496) hX dL_law_33 (by rw [z1549]; decide) (by rw [z1549]; decide) (by rw [z1549]; decide) (by decide) ?_
      refine V_aload_n (q := 530) hX dL_law_529 1 rfl rfl ?_
      refine V_aload_n (q := 531) hX dL_law_530 0 rfl rfl ?_
      refine V_iload_n (q := 532) hX dL_law_531 3 rfl rfl ?_
      refine V_iconst (v := 1) (q := 533) hX dL_law_532 (by decide) rfl ?_
      refine V_iadd (q := 534) hX dL_law_533 rfl ?_
      obtain ⟨z1550, h⟩ := chk_t h
      refine V_sld (q := 535) hX hSc z1550 dL_law_534 rfl ?_
      refine V_aload_n (q := 536) hX dL_law_535 0 rfl rfl ?_
      refine V_iload_n (q := 537) hX dL_law_536 3 rfl rfl ?_
      refine V_iconst (v := 2) (q := 538) hX dL_law_537 (by decide) rfl ?_
      refine V_iadd (q := 539) hX dL_law_538 rfl ?_
      obtain ⟨z1551, h⟩ := chk_t h
      refine V_sld (q := 540) hX hSc z1551 dL_law_539 rfl ?_
      refine V_aload_n (q := 541) hX dL_law_540 0 rfl rfl ?_
      refine V_iload_n (q := 542) hX dL_law_541 3 rfl rfl ?_
      refine V_iconst (v := 3) (q := 543) hX dL_law_542 (by decide) rfl ?_
      refine V_iadd (q := 544) hX dL_law_543 rfl ?_
      obtain ⟨z1552, h⟩ := chk_t h
      refine V_sld (q := 545) hX hSc z1552 dL_law_544 rfl ?_
      refine V_aload_n (q := 546) hX dL_law_545 0 rfl rfl ?_
      refine V_iload_n (q := 547) hX dL_law_546 3 rfl rfl ?_
      refine V_iconst (v := 4) (q := 548) hX dL_law_547 (by decide) rfl ?_
      refine V_iadd (q := 549) hX dL_law_548 rfl ?_
      obtain ⟨z1553, h⟩ := chk_t h
      refine V_sld (q := 550) hX hSc z1553 dL_law_549 rfl ?_
      obtain ⟨r1555, σ1554, e1556, h⟩ := bnd_some h
      refine V_cvI (n := 75) (c := 8) (nf := 11) (C := RX8) (T := TX8) (As := [.int ((xs ((x3 + (1 : Int32))).toNatClampNeg)), .int ((xs ((x3 + (2 : Int32))).toNatClampNeg)), .int ((xs ((x3 + (3 : Int32))).toNatClampNeg)), .int ((xs ((x3 + (4 : Int32))).toNatClampNeg))]) (q := 553) hX (c8_fight hX.2.2.2.2.1 (Nat.le_trans (by decide) hN) e1556) (goodV_of k3_163 k3_164 k3_165 k1_1 (cons_g k3_166)) (nA := 4) (by decide) rfl rfl rfl rfl rfl ⟨rfl, by decide⟩ (Nat.le_trans (by decide) hN) rfl rfl rfl dL_law_550 rfl ?_
      refine V_aload_n (q := 554) hX dL_law_553 2 rfl rfl ?_
      refine V_aload_n (q := 555) hX dL_law_554 0 rfl rfl ?_
      refine V_iload_n (q := 556) hX dL_law_555 3 rfl rfl ?_
      refine V_iconst (v := 1) (q := 557) hX dL_law_556 (by decide) rfl ?_
      refine V_iadd (q := 558) hX dL_law_557 rfl ?_
      obtain ⟨z1557, h⟩ := chk_t h
      refine V_sld (q := 559) hX hSc z1557 dL_law_558 rfl ?_
      refine V_aload_n (q := 560) hX dL_law_559 0 rfl rfl ?_
      refine V_iload_n (q := 561) hX dL_law_560 3 rfl rfl ?_
      refine V_iconst (v := 2) (q := 562) hX dL_law_561 (by decide) rfl ?_
      refine V_iadd (q := 563) hX dL_law_562 rfl ?_
      obtain ⟨z1558, h⟩ := chk_t h
      refine V_sld (q := 564) hX hSc z1558 dL_law_563 rfl ?_
      refine V_aload_n (q := 565) hX dL_law_564 0 rfl rfl ?_
      refine V_iload_n (q := 566) hX dL_law_565 3 rfl rfl ?_
      refine V_iconst (v := 3) (q := 567) hX dL_law_566 (by decide) rfl ?_
      refine V_iadd (q := 568) hX dL_law_567 rfl ?_
      obtain ⟨z1559, h⟩ := chk_t h
      refine V_sld (q := 569) hX hSc z1559 dL_law_568 rfl ?_
      refine V_aload_n (q := 570) hX dL_law_569 0 rfl rfl ?_
      refine V_iload_n (q := 571) hX dL_law_570 3 rfl rfl ?_
      refine V_iconst (v := 4) (q := 572) hX dL_law_571 (by decide) rfl ?_
      refine V_iadd (q := 573) hX dL_law_572 rfl ?_
      obtain ⟨z1560, h⟩ := chk_t h
      refine V_sld (q := 574) hX hSc z1560 dL_law_573 rfl ?_
      obtain ⟨r1562, σ1561, e1563, h⟩ := bnd_some h
      refine V_cvI (n := 95) (c := 9) (nf := 39) (C := RX9) (T := TX9) (As := [.int ((xs ((x3 + (1 : Int32))).toNatClampNeg)), .int ((xs ((x3 + (2 : Int32))).toNatClampNeg)), .int ((xs ((x3 + (3 : Int32))).toNatClampNeg)), .int ((xs ((x3 + (4 : Int32))).toNatClampNeg))]) (q := 577) hX (c9_fight hX.2.2.2.2.1 hN e1563) (goodV_of k5_158 k5_159 k5_160 k1_16 (cons_g k5_161)) (nA := 4) (by decide) rfl rfl rfl rfl rfl ⟨rfl, by decide⟩ hN rfl rfl rfl dL_law_574 rfl ?_
      refine V_icmp_eq (q := 580) (t := 1663) hX dL_law_577 (by decide) rfl (fun z1564 => ?_) (fun z1564 => ?_)
      · have h := ite_t z1564 h
        refine V.pick [0, 1, 2, 3] rfl ?_
        exact vL_law_1663 hX hN hSc hQ ih x3 σ1561 h
      have h := ite_f z1564 h
      refine V_iconst (v := 0) (q := 581) hX dL_law_580 (by decide) rfl ?_
      obtain ⟨f1, f2⟩ := some2 h
      rw [f1] at hQ
      exact V_lawret hX hQ rfl dL_law_581
    have h := ite_f z1549 h
    by_cases z1565 : ((xs (x3).toNatClampNeg) &&& (63 : Int32)) = 10
    · have h := ite_t z1565 h
      refine V_tsw (q := 582) (off := 549) hX dL_law_33 (by rw [z1565]; decide) (by rw [z1565]; decide) (by rw [z1565]; decide) (by decide) ?_
      refine V_aload_n (q := 583) hX dL_law_582 1 rfl rfl ?_
      refine V_aload_n (q := 584) hX dL_law_583 0 rfl rfl ?_
      refine V_iload_n (q := 585) hX dL_law_584 3 rfl rfl ?_
      refine V_iconst (v := 1) (q := 586) hX dL_law_585 (by decide) rfl ?_
      refine V_iadd (q := 587) hX dL_law_586 rfl ?_
      obtain ⟨z1566, h⟩ := chk_t h
      refine V_sld (q := 588) hX hSc z1566 dL_law_587 rfl ?_
      refine V_aload_n (q := 589) hX dL_law_588 0 rfl rfl ?_
      refine V_iload_n (q := 590) hX dL_law_589 3 rfl rfl ?_
      refine V_iconst (v := 2) (q := 591) hX dL_law_590 (by decide) rfl ?_
      refine V_iadd (q := 592) hX dL_law_591 rfl ?_
      obtain ⟨z1567, h⟩ := chk_t h
      refine V_sld (q := 593) hX hSc z1567 dL_law_592 rfl ?_
      refine V_aload_n (q := 594) hX dL_law_593 0 rfl rfl ?_
      refine V_iload_n (q := 595) hX dL_law_594 3 rfl rfl ?_
      refine V_iconst (v := 3) (q := 596) hX dL_law_595 (by decide) rfl ?_
      refine V_iadd (q := 597) hX dL_law_596 rfl ?_
      obtain ⟨z1568, h⟩ := chk_t h
      refine V_sld (q := 598) hX hSc z1568 dL_law_597 rfl ?_
      refine V_aload_n (q := 599) hX dL_law_598 0 rfl rfl ?_
      refine V_iload_n (q := 600) hX dL_law_599 3 rfl rfl ?_
      refine V_iconst (v := 4) (q := 601) hX dL_law_600 (by decide) rfl ?_
      refine V_iadd (q := 602) hX dL_law_601 rfl ?_
      obtain ⟨z1569, h⟩ := chk_t h
      refine V_sld (q := 603) hX hSc z1569 dL_law_602 rfl ?_
      obtain ⟨r1571, σ1570, e1572, h⟩ := bnd_some h
      refine V_cvI (n := 75) (c := 8) (nf := 11) (C := RX8) (T := TX8) (As := [.int ((xs ((x3 + (1 : Int32))).toNatClampNeg)), .int ((xs ((x3 + (2 : Int32))).toNatClampNeg)), .int ((xs ((x3 + (3 : Int32))).toNatClampNeg)), .int ((xs ((x3 + (4 : Int32))).toNatClampNeg))]) (q := 606) hX (c8_best hX.2.2.2.2.1 (Nat.le_trans (by decide) hN) e1572) (goodV_of k3_171 k3_172 k3_173 k1_1 (cons_g k3_174)) (nA := 4) (by decide) rfl rfl rfl rfl rfl ⟨rfl, by decide⟩ (Nat.le_trans (by decide) hN) rfl rfl rfl dL_law_603 rfl ?_
      refine V_aload_n (q := 607) hX dL_law_606 2 rfl rfl ?_
      refine V_aload_n (q := 608) hX dL_law_607 0 rfl rfl ?_
      refine V_iload_n (q := 609) hX dL_law_608 3 rfl rfl ?_
      refine V_iconst (v := 1) (q := 610) hX dL_law_609 (by decide) rfl ?_
      refine V_iadd (q := 611) hX dL_law_610 rfl ?_
      obtain ⟨z1573, h⟩ := chk_t h
      refine V_sld (q := 612) hX hSc z1573 dL_law_611 rfl ?_
      refine V_aload_n (q := 613) hX dL_law_612 0 rfl rfl ?_
      refine V_iload_n (q := 614) hX dL_law_613 3 rfl rfl ?_
      refine V_iconst (v := 2) (q := 615) hX dL_law_614 (by decide) rfl ?_
      refine V_iadd (q := 616) hX dL_law_615 rfl ?_
      obtain ⟨z1574, h⟩ := chk_t h
      refine V_sld (q := 617) hX hSc z1574 dL_law_616 rfl ?_
      refine V_aload_n (q := 618) hX dL_law_617 0 rfl rfl ?_
      refine V_iload_n (q := 619) hX dL_law_618 3 rfl rfl ?_
      refine V_iconst (v := 3) (q := 620) hX dL_law_619 (by decide) rfl ?_
      refine V_iadd (q := 621) hX dL_law_620 rfl ?_
      obtain ⟨z1575, h⟩ := chk_t h
      refine V_sld (q := 622) hX hSc z1575 dL_law_621 rfl ?_
      refine V_aload_n (q := 623) hX dL_law_622 0 rfl rfl ?_
      refine V_iload_n (q := 624) hX dL_law_623 3 rfl rfl ?_
      refine V_iconst (v := 4) (q := 625) hX dL_law_624 (by decide) rfl ?_
      refine V_iadd (q := 626) hX dL_law_625 rfl ?_
      obtain ⟨z1576, h⟩ := chk_t h
      refine V_sld (q := 627) hX hSc z1576 dL_law_626 rfl ?_
      obtain ⟨r1578, σ1577, e1579, h⟩ := bnd_some h
      refine V_cvI (n := 95) (c := 9) (nf := 39) (C := RX9) (T := TX9) (As := [.int ((xs ((x3 + (1 : Int32))).toNatClampNeg)), .int ((xs ((x3 + (2 : Int32))).toNatClampNeg)), .int ((xs ((x3 + (3 : Int32))).toNatClampNeg)), .int ((xs ((x3 + (4 : Int32))).toNatClampNeg))]) (q := 630) hX (c9_best hX.2.2.2.2.1 hN e1579) (goodV_of k5_166 k5_167 k5_168 k1_16 (cons_g k5_169)) (nA := 4) (by decide) rfl rfl rfl rfl rfl ⟨rfl, by decide⟩ hN rfl rfl rfl dL_law_627 rfl ?_
      refine V_icmp_eq (q := 633) (t := 1663) hX dL_law_630 (by decide) rfl (fun z1580 => ?_) (fun z1580 => ?_)
      · have h := ite_t z1580 h
        refine V.pick [0, 1, 2, 3] rfl ?_
        exact vL_law_1663 hX hN hSc hQ ih x3 σ1577 h
      have h := ite_f z1580 h
      refine V_iconst (v := 0) (q := 634) hX dL_law_633 (by decide) rfl ?_
      obtain ⟨f1, f2⟩ := some2 h
      rw [f1] at hQ
      exact V_lawret hX hQ rfl dL_law_634
    have h := ite_f z1565 h
    by_cases z1581 : ((xs (x3).toNatClampNeg) &&& (63 : Int32)) = 11
    · have h := ite_t z1581 h
      refine V_tsw (q := 635) (off := 602) hX dL_law_33 (by rw [z1581]; decide) (by rw [z1581]; decide) (by rw [z1581]; decide) (by decide) ?_
      refine V_aload_n (q := 636) hX dL_law_635 1 rfl rfl ?_
      refine V_aload_n (q := 637) hX dL_law_636 0 rfl rfl ?_
      refine V_iload_n (q := 638) hX dL_law_637 3 rfl rfl ?_
      refine V_iconst (v := 1) (q := 639) hX dL_law_638 (by decide) rfl ?_
      refine V_iadd (q := 640) hX dL_law_639 rfl ?_
      obtain ⟨z1582, h⟩ := chk_t h
      refine V_sld (q := 641) hX hSc z1582 dL_law_640 rfl ?_
      refine V_aload_n (q := 642) hX dL_law_641 0 rfl rfl ?_
      refine V_iload_n (q := 643) hX dL_law_642 3 rfl rfl ?_
      refine V_iconst (v := 2) (q := 644) hX dL_law_643 (by decide) rfl ?_
      refine V_iadd (q := 645) hX dL_law_644 rfl ?_
      obtain ⟨z1583, h⟩ := chk_t h
      refine V_sld (q := 646) hX hSc z1583 dL_law_645 rfl ?_
      refine V_aload_n (q := 647) hX dL_law_646 0 rfl rfl ?_
      refine V_iload_n (q := 648) hX dL_law_647 3 rfl rfl ?_
      refine V_iconst (v := 3) (q := 649) hX dL_law_648 (by decide) rfl ?_
      refine V_iadd (q := 650) hX dL_law_649 rfl ?_
      obtain ⟨z1584, h⟩ := chk_t h
      refine V_sld (q := 651) hX hSc z1584 dL_law_650 rfl ?_
      obtain ⟨r1586, σ1585, e1587, h⟩ := bnd_some h
      refine V_cvI (n := 75) (c := 8) (nf := 11) (C := RX8) (T := TX8) (As := [.int ((xs ((x3 + (1 : Int32))).toNatClampNeg)), .int ((xs ((x3 + (2 : Int32))).toNatClampNeg)), .int ((xs ((x3 + (3 : Int32))).toNatClampNeg))]) (q := 654) hX (c8_sure hX.2.2.2.2.1 (Nat.le_trans (by decide) hN) e1587) (goodV_of k3_182 k3_183 k3_184 k1_1 (cons_g k3_185)) (nA := 3) (by decide) rfl rfl rfl rfl rfl ⟨rfl, by decide⟩ (Nat.le_trans (by decide) hN) rfl rfl rfl dL_law_651 rfl ?_
      refine V_aload_n (q := 655) hX dL_law_654 2 rfl rfl ?_
      refine V_aload_n (q := 656) hX dL_law_655 0 rfl rfl ?_
      refine V_iload_n (q := 657) hX dL_law_656 3 rfl rfl ?_
      refine V_iconst (v := 1) (q := 658) hX dL_law_657 (by decide) rfl ?_
      refine V_iadd (q := 659) hX dL_law_658 rfl ?_
      obtain ⟨z1588, h⟩ := chk_t h
      refine V_sld (q := 660) hX hSc z1588 dL_law_659 rfl ?_
      refine V_aload_n (q := 661) hX dL_law_660 0 rfl rfl ?_
      refine V_iload_n (q := 662) hX dL_law_661 3 rfl rfl ?_
      refine V_iconst (v := 2) (q := 663) hX dL_law_662 (by decide) rfl ?_
      refine V_iadd (q := 664) hX dL_law_663 rfl ?_
      obtain ⟨z1589, h⟩ := chk_t h
      refine V_sld (q := 665) hX hSc z1589 dL_law_664 rfl ?_
      refine V_aload_n (q := 666) hX dL_law_665 0 rfl rfl ?_
      refine V_iload_n (q := 667) hX dL_law_666 3 rfl rfl ?_
      refine V_iconst (v := 3) (q := 668) hX dL_law_667 (by decide) rfl ?_
      refine V_iadd (q := 669) hX dL_law_668 rfl ?_
      obtain ⟨z1590, h⟩ := chk_t h
      refine V_sld (q := 670) hX hSc z1590 dL_law_669 rfl ?_
      obtain ⟨r1592, σ1591, e1593, h⟩ := bnd_some h
      refine V_cvI (n := 95) (c := 9) (nf := 39) (C := RX9) (T := TX9) (As := [.int ((xs ((x3 + (1 : Int32))).toNatClampNeg)), .int ((xs ((x3 + (2 : Int32))).toNatClampNeg)), .int ((xs ((x3 + (3 : Int32))).toNatClampNeg))]) (q := 673) hX (c9_sure hX.2.2.2.2.1 hN e1593) (goodV_of k5_173 k5_174 k5_175 k1_16 (cons_g k5_176)) (nA := 3) (by decide) rfl rfl rfl rfl rfl ⟨rfl, by decide⟩ hN rfl rfl rfl dL_law_670 rfl ?_
      refine V_icmp_eq (q := 676) (t := 1663) hX dL_law_673 (by decide) rfl (fun z1594 => ?_) (fun z1594 => ?_)
      · have h := ite_t z1594 h
        refine V.pick [0, 1, 2, 3] rfl ?_
        exact vL_law_1663 hX hN hSc hQ ih x3 σ1591 h
      have h := ite_f z1594 h
      refine V_iconst (v := 0) (q := 677) hX dL_law_676 (by decide) rfl ?_
      obtain ⟨f1, f2⟩ := some2 h
      rw [f1] at hQ
      exact V_lawret hX hQ rfl dL_law_677
    have h := ite_f z1581 h
    by_cases z1595 : ((xs (x3).toNatClampNeg) &&& (63 : Int32)) = 12
    · have h := ite_t z1595 h
      refine V_tsw (q := 678) (off := 645) hX dL_law_33 (by rw [z1595]; decide) (by rw [z1595]; decide) (by rw [z1595]; decide) (by decide) ?_
      refine V_aload_n (q := 679) hX dL_law_678 1 rfl rfl ?_
      refine V_aload_n (q := 680) hX dL_law_679 0 rfl rfl ?_
      refine V_iload_n (q := 681) hX dL_law_680 3 rfl rfl ?_
      refine V_iconst (v := 1) (q := 682) hX dL_law_681 (by decide) rfl ?_
      refine V_iadd (q := 683) hX dL_law_682 rfl ?_
      obtain ⟨z1596, h⟩ := chk_t h
      refine V_sld (q := 684) hX hSc z1596 dL_law_683 rfl ?_
      refine V_aload_n (q := 685) hX dL_law_684 0 rfl rfl ?_
      refine V_iload_n (q := 686) hX dL_law_685 3 rfl rfl ?_
      refine V_iconst (v := 2) (q := 687) hX dL_law_686 (by decide) rfl ?_
      refine V_iadd (q := 688) hX dL_law_687 rfl ?_
      obtain ⟨z1597, h⟩ := chk_t h
      refine V_sld (q := 689) hX hSc z1597 dL_law_688 rfl ?_
      refine V_aload_n (q := 690) hX dL_law_689 0 rfl rfl ?_
      refine V_iload_n (q := 691) hX dL_law_690 3 rfl rfl ?_
      refine V_iconst (v := 3) (q := 692) hX dL_law_691 (by decide) rfl ?_
      refine V_iadd (q := 693) hX dL_law_692 rfl ?_
      obtain ⟨z1598, h⟩ := chk_t h
      refine V_sld (q := 694) hX hSc z1598 dL_law_693 rfl ?_
      obtain ⟨r1600, σ1599, e1601, h⟩ := bnd_some h
      refine V_cvJ (n := 75) (c := 8) (nf := 11) (C := RX8) (T := TX8) (As := [.int ((xs ((x3 + (1 : Int32))).toNatClampNeg)), .int ((xs ((x3 + (2 : Int32))).toNatClampNeg)), .int ((xs ((x3 + (3 : Int32))).toNatClampNeg))]) (q := 697) hX (c8_chance hX.2.2.2.2.1 (Nat.le_trans (by decide) hN) e1601) (goodV_of k3_190 k3_191 k3_192 k1_1 (cons_g k3_193)) (nA := 3) (by decide) rfl rfl rfl rfl rfl ⟨rfl, by decide⟩ (Nat.le_trans (by decide) hN) rfl rfl rfl dL_law_694 rfl ?_
      refine V_aload_n (q := 698) hX dL_law_697 2 rfl rfl ?_
      refine V_aload_n (q := 699) hX dL_law_698 0 rfl rfl ?_
      refine V_iload_n (q := 700) hX dL_law_699 3 rfl rfl ?_
      refine V_iconst (v := 1) (q := 701) hX dL_law_700 (by decide) rfl ?_
      refine V_iadd (q := 702) hX dL_law_701 rfl ?_
      obtain ⟨z1602, h⟩ := chk_t h
      refine V_sld (q := 703) hX hSc z1602 dL_law_702 rfl ?_
      refine V_aload_n (q := 704) hX dL_law_703 0 rfl rfl ?_
      refine V_iload_n (q := 705) hX dL_law_704 3 rfl rfl ?_
      refine V_iconst (v := 2) (q := 706) hX dL_law_705 (by decide) rfl ?_
      refine V_iadd (q := 707) hX dL_law_706 rfl ?_
      obtain ⟨z1603, h⟩ := chk_t h
      refine V_sld (q := 708) hX hSc z1603 dL_law_707 rfl ?_
      refine V_aload_n (q := 709) hX dL_law_708 0 rfl rfl ?_
      refine V_iload_n (q := 710) hX dL_law_709 3 rfl rfl ?_
      refine V_iconst (v := 3) (q := 711) hX dL_law_710 (by decide) rfl ?_
      refine V_iadd (q := 712) hX dL_law_711 rfl ?_
      obtain ⟨z1604, h⟩ := chk_t h
      refine V_sld (q := 713) hX hSc z1604 dL_law_712 rfl ?_
      obtain ⟨r1606, σ1605, e1607, h⟩ := bnd_some h
      refine V_cvJ (n := 95) (c := 9) (nf := 39) (C := RX9) (T := TX9) (As := [.int ((xs ((x3 + (1 : Int32))).toNatClampNeg)), .int ((xs ((x3 + (2 : Int32))).toNatClampNeg)), .int ((xs ((x3 + (3 : Int32))).toNatClampNeg))]) (q := 716) hX (c9_chance hX.2.2.2.2.1 hN e1607) (goodV_of k5_181 k5_182 k5_183 k1_16 (cons_g k5_184)) (nA := 3) (by decide) rfl rfl rfl rfl rfl ⟨rfl, by decide⟩ hN rfl rfl rfl dL_law_713 rfl ?_
      refine V_lcmp (q := 717) hX dL_law_716 rfl ?_
      refine V_if_eq (q := 720) (t := 1663) hX dL_law_717 (by decide) rfl (fun z1608 => ?_) (fun z1608 => ?_)
      · have h := ite_t z1608 h
        refine V.pick [0, 1, 2, 3] rfl ?_
        exact vL_law_1663 hX hN hSc hQ ih x3 σ1605 h
      have h := ite_f z1608 h
      refine V_iconst (v := 0) (q := 721) hX dL_law_720 (by decide) rfl ?_
      obtain ⟨f1, f2⟩ := some2 h
      rw [f1] at hQ
      exact V_lawret hX hQ rfl dL_law_721
    have h := ite_f z1595 h
    by_cases z1609 : ((xs (x3).toNatClampNeg) &&& (63 : Int32)) = 13
    · have h := ite_t z1609 h
      refine V_tsw (q := 722) (off := 689) hX dL_law_33 (by rw [z1609]; decide) (by rw [z1609]; decide) (by rw [z1609]; decide) (by decide) ?_
      refine V_aload_n (q := 723) hX dL_law_722 1 rfl rfl ?_
      refine V_aload_n (q := 724) hX dL_law_723 0 rfl rfl ?_
      refine V_iload_n (q := 725) hX dL_law_724 3 rfl rfl ?_
      refine V_iconst (v := 1) (q := 726) hX dL_law_725 (by decide) rfl ?_
      refine V_iadd (q := 727) hX dL_law_726 rfl ?_
      obtain ⟨z1610, h⟩ := chk_t h
      refine V_sld (q := 728) hX hSc z1610 dL_law_727 rfl ?_
      refine V_aload_n (q := 729) hX dL_law_728 0 rfl rfl ?_
      refine V_iload_n (q := 730) hX dL_law_729 3 rfl rfl ?_
      refine V_iconst (v := 2) (q := 731) hX dL_law_730 (by decide) rfl ?_
      refine V_iadd (q := 732) hX dL_law_731 rfl ?_
      obtain ⟨z1611, h⟩ := chk_t h
      refine V_sld (q := 733) hX hSc z1611 dL_law_732 rfl ?_
      refine V_aload_n (q := 734) hX dL_law_733 0 rfl rfl ?_
      refine V_iload_n (q := 735) hX dL_law_734 3 rfl rfl ?_
      refine V_iconst (v := 3) (q := 736) hX dL_law_735 (by decide) rfl ?_
      refine V_iadd (q := 737) hX dL_law_736 rfl ?_
      obtain ⟨z1612, h⟩ := chk_t h
      refine V_sld (q := 738) hX hSc z1612 dL_law_737 rfl ?_
      obtain ⟨r1614, σ1613, e1615, h⟩ := bnd_some h
      refine V_cvI (n := 75) (c := 8) (nf := 11) (C := RX8) (T := TX8) (As := [.int ((xs ((x3 + (1 : Int32))).toNatClampNeg)), .int ((xs ((x3 + (2 : Int32))).toNatClampNeg)), .int ((xs ((x3 + (3 : Int32))).toNatClampNeg))]) (q := 741) hX (c8_knees hX.2.2.2.2.1 (Nat.le_trans (by decide) hN) e1615) (goodV_of k3_198 k3_199 k3_200 k1_1 (cons_g k3_201)) (nA := 3) (by decide) rfl rfl rfl rfl rfl ⟨rfl, by decide⟩ (Nat.le_trans (by decide) hN) rfl rfl rfl dL_law_738 rfl ?_
      refine V_aload_n (q := 742) hX dL_law_741 2 rfl rfl ?_
      refine V_aload_n (q := 743) hX dL_law_742 0 rfl rfl ?_
      refine V_iload_n (q := 744) hX dL_law_743 3 rfl rfl ?_
      refine V_iconst (v := 1) (q := 745) hX dL_law_744 (by decide) rfl ?_
      refine V_iadd (q := 746) hX dL_law_745 rfl ?_
      obtain ⟨z1616, h⟩ := chk_t h
      refine V_sld (q := 747) hX hSc z1616 dL_law_746 rfl ?_
      refine V_aload_n (q := 748) hX dL_law_747 0 rfl rfl ?_
      refine V_iload_n (q := 749) hX dL_law_748 3 rfl rfl ?_
      refine V_iconst (v := 2) (q := 750) hX dL_law_749 (by decide) rfl ?_
      refine V_iadd (q := 751) hX dL_law_750 rfl ?_
      obtain ⟨z1617, h⟩ := chk_t h
      refine V_sld (q := 752) hX hSc z1617 dL_law_751 rfl ?_
      refine V_aload_n (q := 753) hX dL_law_752 0 rfl rfl ?_
      refine V_iload_n (q := 754) hX dL_law_753 3 rfl rfl ?_
      refine V_iconst (v := 3) (q := 755) hX dL_law_754 (by decide) rfl ?_
      refine V_iadd (q := 756) hX dL_law_755 rfl ?_
      obtain ⟨z1618, h⟩ := chk_t h
      refine V_sld (q := 757) hX hSc z1618 dL_law_756 rfl ?_
      obtain ⟨r1620, σ1619, e1621, h⟩ := bnd_some h
      refine V_cvI (n := 95) (c := 9) (nf := 39) (C := RX9) (T := TX9) (As := [.int ((xs ((x3 + (1 : Int32))).toNatClampNeg)), .int ((xs ((x3 + (2 : Int32))).toNatClampNeg)), .int ((xs ((x3 + (3 : Int32))).toNatClampNeg))]) (q := 760) hX (c9_knees hX.2.2.2.2.1 hN e1621) (goodV_of k5_189 k5_190 k5_191 k1_16 (cons_g k5_192)) (nA := 3) (by decide) rfl rfl rfl rfl rfl ⟨rfl, by decide⟩ hN rfl rfl rfl dL_law_757 rfl ?_
      refine V_icmp_eq (q := 763) (t := 1663) hX dL_law_760 (by decide) rfl (fun z1622 => ?_) (fun z1622 => ?_)
      · have h := ite_t z1622 h
        refine V.pick [0, 1, 2, 3] rfl ?_
        exact vL_law_1663 hX hN hSc hQ ih x3 σ1619 h
      have h := ite_f z1622 h
      refine V_iconst (v := 0) (q := 764) hX dL_law_763 (by decide) rfl ?_
      obtain ⟨f1, f2⟩ := some2 h
      rw [f1] at hQ
      exact V_lawret hX hQ rfl dL_law_764
    have h := ite_f z1609 h
    by_cases z1623 : ((xs (x3).toNatClampNeg) &&& (63 : Int32)) = 14
    · have h := ite_t z1623 h
      refine V_tsw (q := 765) (off := 732) hX dL_law_33 (by rw [z1623]; decide) (by rw [z1623]; decide) (by rw [z1623]; decide) (by decide) ?_
      refine V_aload_n (q := 766) hX dL_law_765 1 rfl rfl ?_
      refine V_aload_n (q := 767) hX dL_law_766 0 rfl rfl ?_
      refine V_iload_n (q := 768) hX dL_law_767 3 rfl rfl ?_
      refine V_iconst (v := 1) (q := 769) hX dL_law_768 (by decide) rfl ?_
      refine V_iadd (q := 770) hX dL_law_769 rfl ?_
      obtain ⟨z1624, h⟩ := chk_t h
      refine V_sld (q := 771) hX hSc z1624 dL_law_770 rfl ?_
      refine V_aload_n (q := 772) hX dL_law_771 0 rfl rfl ?_
      refine V_iload_n (q := 773) hX dL_law_772 3 rfl rfl ?_
      refine V_iconst (v := 2) (q := 774) hX dL_law_773 (by decide) rfl ?_
      refine V_iadd (q := 775) hX dL_law_774 rfl ?_
      obtain ⟨z1625, h⟩ := chk_t h
      refine V_sld (q := 776) hX hSc z1625 dL_law_775 rfl ?_
      refine V_aload_n (q := 777) hX dL_law_776 0 rfl rfl ?_
      refine V_iload_n (q := 778) hX dL_law_777 3 rfl rfl ?_
      refine V_iconst (v := 3) (q := 779) hX dL_law_778 (by decide) rfl ?_
      refine V_iadd (q := 780) hX dL_law_779 rfl ?_
      obtain ⟨z1626, h⟩ := chk_t h
      refine V_sld (q := 781) hX hSc z1626 dL_law_780 rfl ?_
      obtain ⟨r1628, σ1627, e1629, h⟩ := bnd_some h
      refine V_cvI (n := 75) (c := 8) (nf := 11) (C := RX8) (T := TX8) (As := [.int ((xs ((x3 + (1 : Int32))).toNatClampNeg)), .int ((xs ((x3 + (2 : Int32))).toNatClampNeg)), .int ((xs ((x3 + (3 : Int32))).toNatClampNeg))]) (q := 784) hX (c8_beats hX.2.2.2.2.1 (Nat.le_trans (by decide) hN) e1629) (goodV_of k3_207 k3_208 k3_209 k1_1 (cons_g k3_210)) (nA := 3) (by decide) rfl rfl rfl rfl rfl ⟨rfl, by decide⟩ (Nat.le_trans (by decide) hN) rfl rfl rfl dL_law_781 rfl ?_
      refine V_aload_n (q := 785) hX dL_law_784 2 rfl rfl ?_
      refine V_aload_n (q := 786) hX dL_law_785 0 rfl rfl ?_
      refine V_iload_n (q := 787) hX dL_law_786 3 rfl rfl ?_
      refine V_iconst (v := 1) (q := 788) hX dL_law_787 (by decide) rfl ?_
      refine V_iadd (q := 789) hX dL_law_788 rfl ?_
      obtain ⟨z1630, h⟩ := chk_t h
      refine V_sld (q := 790) hX hSc z1630 dL_law_789 rfl ?_
      refine V_aload_n (q := 791) hX dL_law_790 0 rfl rfl ?_
      refine V_iload_n (q := 792) hX dL_law_791 3 rfl rfl ?_
      refine V_iconst (v := 2) (q := 793) hX dL_law_792 (by decide) rfl ?_
      refine V_iadd (q := 794) hX dL_law_793 rfl ?_
      obtain ⟨z1631, h⟩ := chk_t h
      refine V_sld (q := 795) hX hSc z1631 dL_law_794 rfl ?_
      refine V_aload_n (q := 796) hX dL_law_795 0 rfl rfl ?_
      refine V_iload_n (q := 797) hX dL_law_796 3 rfl rfl ?_
      refine V_iconst (v := 3) (q := 798) hX dL_law_797 (by decide) rfl ?_
      refine V_iadd (q := 799) hX dL_law_798 rfl ?_
      obtain ⟨z1632, h⟩ := chk_t h
      refine V_sld (q := 800) hX hSc z1632 dL_law_799 rfl ?_
      obtain ⟨r1634, σ1633, e1635, h⟩ := bnd_some h
      refine V_cvI (n := 95) (c := 9) (nf := 39) (C := RX9) (T := TX9) (As := [.int ((xs ((x3 + (1 : Int32))).toNatClampNeg)), .int ((xs ((x3 + (2 : Int32))).toNatClampNeg)), .int ((xs ((x3 + (3 : Int32))).toNatClampNeg))]) (q := 803) hX (c9_beats hX.2.2.2.2.1 hN e1635) (goodV_of k5_193 k5_194 k5_195 k1_16 (cons_g k5_196)) (nA := 3) (by decide) rfl rfl rfl rfl rfl ⟨rfl, by decide⟩ hN rfl rfl rfl dL_law_800 rfl ?_
      refine V_icmp_eq (q := 806) (t := 1663) hX dL_law_803 (by decide) rfl (fun z1636 => ?_) (fun z1636 => ?_)
      · have h := ite_t z1636 h
        refine V.pick [0, 1, 2, 3] rfl ?_
        exact vL_law_1663 hX hN hSc hQ ih x3 σ1633 h
      have h := ite_f z1636 h
      refine V_iconst (v := 0) (q := 807) hX dL_law_806 (by decide) rfl ?_
      obtain ⟨f1, f2⟩ := some2 h
      rw [f1] at hQ
      exact V_lawret hX hQ rfl dL_law_807
    have h := ite_f z1623 h
    by_cases z1637 : ((xs (x3).toNatClampNeg) &&& (63 : Int32)) = 15
    · have h := ite_t z1637 h
      refine V_tsw (q := 808) (off := 775) hX dL_law_33 (by rw [z1637]; decide) (by rw [z1637]; decide) (by rw [z1637]; decide) (by decide) ?_
      refine V_aload_n (q := 809) hX dL_law_808 1 rfl rfl ?_
      refine V_aload_n (q := 810) hX dL_law_809 0 rfl rfl ?_
      refine V_iload_n (q := 811) hX dL_law_810 3 rfl rfl ?_
      refine V_iconst (v := 1) (q := 812) hX dL_law_811 (by decide) rfl ?_
      refine V_iadd (q := 813) hX dL_law_812 rfl ?_
      obtain ⟨z1638, h⟩ := chk_t h
      refine V_sld (q := 814) hX hSc z1638 dL_law_813 rfl ?_
      refine V_aload_n (q := 815) hX dL_law_814 0 rfl rfl ?_
      refine V_iload_n (q := 816) hX dL_law_815 3 rfl rfl ?_
      refine V_iconst (v := 2) (q := 817) hX dL_law_816 (by decide) rfl ?_
      refine V_iadd (q := 818) hX dL_law_817 rfl ?_
      obtain ⟨z1639, h⟩ := chk_t h
      refine V_sld (q := 819) hX hSc z1639 dL_law_818 rfl ?_
      obtain ⟨r1641, σ1640, e1642, h⟩ := bnd_some h
      refine V_cvI (n := 75) (c := 8) (nf := 11) (C := RX8) (T := TX8) (As := [.int ((xs ((x3 + (1 : Int32))).toNatClampNeg)), .int ((xs ((x3 + (2 : Int32))).toNatClampNeg))]) (q := 822) hX (c8_meet hX.2.2.2.2.1 (Nat.le_trans (by decide) hN) e1642) (goodV_of k3_215 k3_216 k3_217 k1_1 (cons_g k3_218)) (nA := 2) (by decide) rfl rfl rfl rfl rfl ⟨rfl, by decide⟩ (Nat.le_trans (by decide) hN) rfl rfl rfl dL_law_819 rfl ?_
      refine V_aload_n (q := 823) hX dL_law_822 2 rfl rfl ?_
      refine V_aload_n (q := 824) hX dL_law_823 0 rfl rfl ?_
      refine V_iload_n (q := 825) hX dL_law_824 3 rfl rfl ?_
      refine V_iconst (v := 1) (q := 826) hX dL_law_825 (by decide) rfl ?_
      refine V_iadd (q := 827) hX dL_law_826 rfl ?_
      obtain ⟨z1643, h⟩ := chk_t h
      refine V_sld (q := 828) hX hSc z1643 dL_law_827 rfl ?_
      refine V_aload_n (q := 829) hX dL_law_828 0 rfl rfl ?_
      refine V_iload_n (q := 830) hX dL_law_829 3 rfl rfl ?_
      refine V_iconst (v := 2) (q := 831) hX dL_law_830 (by decide) rfl ?_
      refine V_iadd (q := 832) hX dL_law_831 rfl ?_
      obtain ⟨z1644, h⟩ := chk_t h
      refine V_sld (q := 833) hX hSc z1644 dL_law_832 rfl ?_
      obtain ⟨r1646, σ1645, e1647, h⟩ := bnd_some h
      refine V_cvI (n := 95) (c := 9) (nf := 39) (C := RX9) (T := TX9) (As := [.int ((xs ((x3 + (1 : Int32))).toNatClampNeg)), .int ((xs ((x3 + (2 : Int32))).toNatClampNeg))]) (q := 836) hX (c9_meet hX.2.2.2.2.1 hN e1647) (goodV_of k5_197 k5_198 k5_199 k1_16 (cons_g k5_200)) (nA := 2) (by decide) rfl rfl rfl rfl rfl ⟨rfl, by decide⟩ hN rfl rfl rfl dL_law_833 rfl ?_
      refine V_icmp_eq (q := 839) (t := 1663) hX dL_law_836 (by decide) rfl (fun z1648 => ?_) (fun z1648 => ?_)
      · have h := ite_t z1648 h
        refine V.pick [0, 1, 2, 3] rfl ?_
        exact vL_law_1663 hX hN hSc hQ ih x3 σ1645 h
      have h := ite_f z1648 h
      refine V_iconst (v := 0) (q := 840) hX dL_law_839 (by decide) rfl ?_
      obtain ⟨f1, f2⟩ := some2 h
      rw [f1] at hQ
      exact V_lawret hX hQ rfl dL_law_840
    have h := ite_f z1637 h
    by_cases z1649 : ((xs (x3).toNatClampNeg) &&& (63 : Int32)) = 16
    · have h := ite_t z1649 h
      refine V_tsw (q := 841) (off := 808) hX dL_law_33 (by rw [z1649]; decide) (by rw [z1649]; decide) (by rw [z1649]; decide) (by decide) ?_
      refine V_aload_n (q := 842) hX dL_law_841 1 rfl rfl ?_
      refine V_aload_n (q := 843) hX dL_law_842 0 rfl rfl ?_
      refine V_iload_n (q := 844) hX dL_law_843 3 rfl rfl ?_
      refine V_iconst (v := 1) (q := 845) hX dL_law_844 (by decide) rfl ?_
      refine V_iadd (q := 846) hX dL_law_845 rfl ?_
      obtain ⟨z1650, h⟩ := chk_t h
      refine V_sld (q := 847) hX hSc z1650 dL_law_846 rfl ?_
      refine V_aload_n (q := 848) hX dL_law_847 0 rfl rfl ?_
      refine V_iload_n (q := 849) hX dL_law_848 3 rfl rfl ?_
      refine V_iconst (v := 2) (q := 850) hX dL_law_849 (by decide) rfl ?_
      refine V_iadd (q := 851) hX dL_law_850 rfl ?_
      obtain ⟨z1651, h⟩ := chk_t h
      refine V_sld (q := 852) hX hSc z1651 dL_law_851 rfl ?_
      refine V_aload_n (q := 853) hX dL_law_852 0 rfl rfl ?_
      refine V_iload_n (q := 854) hX dL_law_853 3 rfl rfl ?_
      refine V_iconst (v := 3) (q := 855) hX dL_law_854 (by decide) rfl ?_
      refine V_iadd (q := 856) hX dL_law_855 rfl ?_
      obtain ⟨z1652, h⟩ := chk_t h
      refine V_sld (q := 857) hX hSc z1652 dL_law_856 rfl ?_
      obtain ⟨r1654, σ1653, e1655, h⟩ := bnd_some h
      refine V_cvI (n := 75) (c := 8) (nf := 11) (C := RX8) (T := TX8) (As := [.int ((xs ((x3 + (1 : Int32))).toNatClampNeg)), .int ((xs ((x3 + (2 : Int32))).toNatClampNeg)), .int ((xs ((x3 + (3 : Int32))).toNatClampNeg))]) (q := 860) hX (c8_run hX.2.2.2.2.1 (Nat.le_trans (by decide) hN) e1655) (goodV_of k4_8 k4_9 k4_10 k1_1 (cons_g k4_11)) (nA := 3) (by decide) rfl rfl rfl rfl rfl ⟨rfl, by decide⟩ (Nat.le_trans (by decide) hN) rfl rfl rfl dL_law_857 rfl ?_
      refine V_aload_n (q := 861) hX dL_law_860 2 rfl rfl ?_
      refine V_aload_n (q := 862) hX dL_law_861 0 rfl rfl ?_
      refine V_iload_n (q := 863) hX dL_law_862 3 rfl rfl ?_
      refine V_iconst (v := 1) (q := 864) hX dL_law_863 (by decide) rfl ?_
      refine V_iadd (q := 865) hX dL_law_864 rfl ?_
      obtain ⟨z1656, h⟩ := chk_t h
      refine V_sld (q := 866) hX hSc z1656 dL_law_865 rfl ?_
      refine V_aload_n (q := 867) hX dL_law_866 0 rfl rfl ?_
      refine V_iload_n (q := 868) hX dL_law_867 3 rfl rfl ?_
      refine V_iconst (v := 2) (q := 869) hX dL_law_868 (by decide) rfl ?_
      refine V_iadd (q := 870) hX dL_law_869 rfl ?_
      obtain ⟨z1657, h⟩ := chk_t h
      refine V_sld (q := 871) hX hSc z1657 dL_law_870 rfl ?_
      refine V_aload_n (q := 872) hX dL_law_871 0 rfl rfl ?_
      refine V_iload_n (q := 873) hX dL_law_872 3 rfl rfl ?_
      refine V_iconst (v := 3) (q := 874) hX dL_law_873 (by decide) rfl ?_
      refine V_iadd (q := 875) hX dL_law_874 rfl ?_
      obtain ⟨z1658, h⟩ := chk_t h
      refine V_sld (q := 876) hX hSc z1658 dL_law_875 rfl ?_
      obtain ⟨r1660, σ1659, e1661, h⟩ := bnd_some h
      refine V_cvI (n := 95) (c := 9) (nf := 39) (C := RX9) (T := TX9) (As := [.int ((xs ((x3 + (1 : Int32))).toNatClampNeg)), .int ((xs ((x3 + (2 : Int32))).toNatClampNeg)), .int ((xs ((x3 + (3 : Int32))).toNatClampNeg))]) (q := 879) hX (c9_run hX.2.2.2.2.1 hN e1661) (goodV_of k5_213 k5_214 k5_215 k1_16 (cons_g k5_216)) (nA := 3) (by decide) rfl rfl rfl rfl rfl ⟨rfl, by decide⟩ hN rfl rfl rfl dL_law_876 rfl ?_
      refine V_icmp_eq (q := 882) (t := 1663) hX dL_law_879 (by decide) rfl (fun z1662 => ?_) (fun z1662 => ?_)
      · have h := ite_t z1662 h
        refine V.pick [0, 1, 2, 3] rfl ?_
        exact vL_law_1663 hX hN hSc hQ ih x3 σ1659 h
      have h := ite_f z1662 h
      refine V_iconst (v := 0) (q := 883) hX dL_law_882 (by decide) rfl ?_
      obtain ⟨f1, f2⟩ := some2 h
      rw [f1] at hQ
      exact V_lawret hX hQ rfl dL_law_883
    have h := ite_f z1649 h
    by_cases z1663 : ((xs (x3).toNatClampNeg) &&& (63 : Int32)) = 17
    · have h := ite_t z1663 h
      refine V_tsw (q := 884) (off := 851) hX dL_law_33 (by rw [z1663]; decide) (by rw [z1663]; decide) (by rw [z1663]; decide) (by decide) ?_
      refine V_aload_n (q := 885) hX dL_law_884 1 rfl rfl ?_
      refine V_aload_n (q := 886) hX dL_law_885 0 rfl rfl ?_
      refine V_iload_n (q := 887) hX dL_law_886 3 rfl rfl ?_
      refine V_iconst (v := 1) (q := 888) hX dL_law_887 (by decide) rfl ?_
      refine V_iadd (q := 889) hX dL_law_888 rfl ?_
      obtain ⟨z1664, h⟩ := chk_t h
      refine V_sld (q := 890) hX hSc z1664 dL_law_889 rfl ?_
      refine V_aload_n (q := 891) hX dL_law_890 0 rfl rfl ?_
      refine V_iload_n (q := 892) hX dL_law_891 3 rfl rfl ?_
      refine V_iconst (v := 2) (q := 893) hX dL_law_892 (by decide) rfl ?_
      refine V_iadd (q := 894) hX dL_law_893 rfl ?_
      obtain ⟨z1665, h⟩ := chk_t h
      refine V_sld (q := 895) hX hSc z1665 dL_law_894 rfl ?_
      refine V_aload_n (q := 896) hX dL_law_895 0 rfl rfl ?_
      refine V_iload_n (q := 897) hX dL_law_896 3 rfl rfl ?_
      refine V_iconst (v := 3) (q := 898) hX dL_law_897 (by decide) rfl ?_
      refine V_iadd (q := 899) hX dL_law_898 rfl ?_
      obtain ⟨z1666, h⟩ := chk_t h
      refine V_sld (q := 900) hX hSc z1666 dL_law_899 rfl ?_
      refine V_aload_n (q := 901) hX dL_law_900 0 rfl rfl ?_
      refine V_iload_n (q := 902) hX dL_law_901 3 rfl rfl ?_
      refine V_iconst (v := 4) (q := 903) hX dL_law_902 (by decide) rfl ?_
      refine V_iadd (q := 904) hX dL_law_903 rfl ?_
      obtain ⟨z1667, h⟩ := chk_t h
      refine V_sld (q := 905) hX hSc z1667 dL_law_904 rfl ?_
      obtain ⟨r1669, σ1668, e1670, h⟩ := bnd_some h
      refine V_cvI (n := 75) (c := 8) (nf := 11) (C := RX8) (T := TX8) (As := [.int ((xs ((x3 + (1 : Int32))).toNatClampNeg)), .int ((xs ((x3 + (2 : Int32))).toNatClampNeg)), .int ((xs ((x3 + (3 : Int32))).toNatClampNeg)), .int ((xs ((x3 + (4 : Int32))).toNatClampNeg))]) (q := 908) hX (c8_judge hX.2.2.2.2.1 (Nat.le_trans (by decide) hN) e1670) (goodV_of k4_17 k4_18 k4_19 k1_1 (cons_g k4_20)) (nA := 4) (by decide) rfl rfl rfl rfl rfl ⟨rfl, by decide⟩ (Nat.le_trans (by decide) hN) rfl rfl rfl dL_law_905 rfl ?_
      refine V_aload_n (q := 909) hX dL_law_908 2 rfl rfl ?_
      refine V_aload_n (q := 910) hX dL_law_909 0 rfl rfl ?_
      refine V_iload_n (q := 911) hX dL_law_910 3 rfl rfl ?_
      refine V_iconst (v := 1) (q := 912) hX dL_law_911 (by decide) rfl ?_
      refine V_iadd (q := 913) hX dL_law_912 rfl ?_
      obtain ⟨z1671, h⟩ := chk_t h
      refine V_sld (q := 914) hX hSc z1671 dL_law_913 rfl ?_
      refine V_aload_n (q := 915) hX dL_law_914 0 rfl rfl ?_
      refine V_iload_n (q := 916) hX dL_law_915 3 rfl rfl ?_
      refine V_iconst (v := 2) (q := 917) hX dL_law_916 (by decide) rfl ?_
      refine V_iadd (q := 918) hX dL_law_917 rfl ?_
      obtain ⟨z1672, h⟩ := chk_t h
      refine V_sld (q := 919) hX hSc z1672 dL_law_918 rfl ?_
      refine V_aload_n (q := 920) hX dL_law_919 0 rfl rfl ?_
      refine V_iload_n (q := 921) hX dL_law_920 3 rfl rfl ?_
      refine V_iconst (v := 3) (q := 922) hX dL_law_921 (by decide) rfl ?_
      refine V_iadd (q := 923) hX dL_law_922 rfl ?_
      obtain ⟨z1673, h⟩ := chk_t h
      refine V_sld (q := 924) hX hSc z1673 dL_law_923 rfl ?_
      refine V_aload_n (q := 925) hX dL_law_924 0 rfl rfl ?_
      refine V_iload_n (q := 926) hX dL_law_925 3 rfl rfl ?_
      refine V_iconst (v := 4) (q := 927) hX dL_law_926 (by decide) rfl ?_
      refine V_iadd (q := 928) hX dL_law_927 rfl ?_
      obtain ⟨z1674, h⟩ := chk_t h
      refine V_sld (q := 929) hX hSc z1674 dL_law_928 rfl ?_
      obtain ⟨r1676, σ1675, e1677, h⟩ := bnd_some h
      refine V_cvI (n := 95) (c := 9) (nf := 39) (C := RX9) (T := TX9) (As := [.int ((xs ((x3 + (1 : Int32))).toNatClampNeg)), .int ((xs ((x3 + (2 : Int32))).toNatClampNeg)), .int ((xs ((x3 + (3 : Int32))).toNatClampNeg)), .int ((xs ((x3 + (4 : Int32))).toNatClampNeg))]) (q := 932) hX (c9_judge hX.2.2.2.2.1 hN e1677) (goodV_of k5_217 k5_218 k5_219 k1_16 (cons_g k5_220)) (nA := 4) (by decide) rfl rfl rfl rfl rfl ⟨rfl, by decide⟩ hN rfl rfl rfl dL_law_929 rfl ?_
      refine V_icmp_eq (q := 935) (t := 1663) hX dL_law_932 (by decide) rfl (fun z1678 => ?_) (fun z1678 => ?_)
      · have h := ite_t z1678 h
        refine V.pick [0, 1, 2, 3] rfl ?_
        exact vL_law_1663 hX hN hSc hQ ih x3 σ1675 h
      have h := ite_f z1678 h
      refine V_iconst (v := 0) (q := 936) hX dL_law_935 (by decide) rfl ?_
      obtain ⟨f1, f2⟩ := some2 h
      rw [f1] at hQ
      exact V_lawret hX hQ rfl dL_law_936
    have h := ite_f z1663 h
    by_cases z1679 : ((xs (x3).toNatClampNeg) &&& (63 : Int32)) = 18
    · have h := ite_t z1679 h
      refine V_tsw (q := 937) (off := 904) hX dL_law_33 (by rw [z1679]; decide) (by rw [z1679]; decide) (by rw [z1679]; decide) (by decide) ?_
      refine V_aload_n (q := 938) hX dL_law_937 1 rfl rfl ?_
      refine V_aload_n (q := 939) hX dL_law_938 0 rfl rfl ?_
      refine V_iload_n (q := 940) hX dL_law_939 3 rfl rfl ?_
      refine V_iconst (v := 1) (q := 941) hX dL_law_940 (by decide) rfl ?_
      refine V_iadd (q := 942) hX dL_law_941 rfl ?_
      obtain ⟨z1680, h⟩ := chk_t h
      refine V_sld (q := 943) hX hSc z1680 dL_law_942 rfl ?_
      refine V_aload_n (q := 944) hX dL_law_943 0 rfl rfl ?_
      refine V_iload_n (q := 945) hX dL_law_944 3 rfl rfl ?_
      refine V_iconst (v := 2) (q := 946) hX dL_law_945 (by decide) rfl ?_
      refine V_iadd (q := 947) hX dL_law_946 rfl ?_
      obtain ⟨z1681, h⟩ := chk_t h
      refine V_sld (q := 948) hX hSc z1681 dL_law_947 rfl ?_
      refine V_aload_n (q := 949) hX dL_law_948 0 rfl rfl ?_
      refine V_iload_n (q := 950) hX dL_law_949 3 rfl rfl ?_
      refine V_iconst (v := 3) (q := 951) hX dL_law_950 (by decide) rfl ?_
      refine V_iadd (q := 952) hX dL_law_951 rfl ?_
      obtain ⟨z1682, h⟩ := chk_t h
      refine V_sld (q := 953) hX hSc z1682 dL_law_952 rfl ?_
      refine V_aload_n (q := 954) hX dL_law_953 0 rfl rfl ?_
      refine V_iload_n (q := 955) hX dL_law_954 3 rfl rfl ?_
      refine V_iconst (v := 4) (q := 956) hX dL_law_955 (by decide) rfl ?_
      refine V_iadd (q := 957) hX dL_law_956 rfl ?_
      obtain ⟨z1683, h⟩ := chk_t h
      refine V_sld (q := 958) hX hSc z1683 dL_law_957 rfl ?_
      refine V_aload_n (q := 959) hX dL_law_958 0 rfl rfl ?_
      refine V_iload_n (q := 960) hX dL_law_959 3 rfl rfl ?_
      refine V_iconst (v := 5) (q := 961) hX dL_law_960 (by decide) rfl ?_
      refine V_iadd (q := 962) hX dL_law_961 rfl ?_
      obtain ⟨z1684, h⟩ := chk_t h
      refine V_sld (q := 963) hX hSc z1684 dL_law_962 rfl ?_
      obtain ⟨r1686, σ1685, e1687, h⟩ := bnd_some h
      refine V_cvI (n := 75) (c := 8) (nf := 11) (C := RX8) (T := TX8) (As := [.int ((xs ((x3 + (1 : Int32))).toNatClampNeg)), .int ((xs ((x3 + (2 : Int32))).toNatClampNeg)), .int ((xs ((x3 + (3 : Int32))).toNatClampNeg)), .int ((xs ((x3 + (4 : Int32))).toNatClampNeg)), .int ((xs ((x3 + (5 : Int32))).toNatClampNeg))]) (q := 966) hX (c8_kinds hX.2.2.2.2.1 (Nat.le_trans (by decide) hN) e1687) (goodV_of k4_35 k4_36 k4_37 k1_1 (cons_g k4_38)) (nA := 5) (by decide) rfl rfl rfl rfl rfl ⟨rfl, by decide⟩ (Nat.le_trans (by decide) hN) rfl rfl rfl dL_law_963 rfl ?_
      refine V_aload_n (q := 967) hX dL_law_966 2 rfl rfl ?_
      refine V_aload_n (q := 968) hX dL_law_967 0 rfl rfl ?_
      refine V_iload_n (q := 969) hX dL_law_968 3 rfl rfl ?_
      refine V_iconst (v := 1) (q := 970) hX dL_law_969 (by decide) rfl ?_
      refine V_iadd (q := 971) hX dL_law_970 rfl ?_
      obtain ⟨z1688, h⟩ := chk_t h
      refine V_sld (q := 972) hX hSc z1688 dL_law_971 rfl ?_
      refine V_aload_n (q := 973) hX dL_law_972 0 rfl rfl ?_
      refine V_iload_n (q := 974) hX dL_law_973 3 rfl rfl ?_
      refine V_iconst (v := 2) (q := 975) hX dL_law_974 (by decide) rfl ?_
      refine V_iadd (q := 976) hX dL_law_975 rfl ?_
      obtain ⟨z1689, h⟩ := chk_t h
      refine V_sld (q := 977) hX hSc z1689 dL_law_976 rfl ?_
      refine V_aload_n (q := 978) hX dL_law_977 0 rfl rfl ?_
      refine V_iload_n (q := 979) hX dL_law_978 3 rfl rfl ?_
      refine V_iconst (v := 3) (q := 980) hX dL_law_979 (by decide) rfl ?_
      refine V_iadd (q := 981) hX dL_law_980 rfl ?_
      obtain ⟨z1690, h⟩ := chk_t h
      refine V_sld (q := 982) hX hSc z1690 dL_law_981 rfl ?_
      refine V_aload_n (q := 983) hX dL_law_982 0 rfl rfl ?_
      refine V_iload_n (q := 984) hX dL_law_983 3 rfl rfl ?_
      refine V_iconst (v := 4) (q := 985) hX dL_law_984 (by decide) rfl ?_
      refine V_iadd (q := 986) hX dL_law_985 rfl ?_
      obtain ⟨z1691, h⟩ := chk_t h
      refine V_sld (q := 987) hX hSc z1691 dL_law_986 rfl ?_
      refine V_aload_n (q := 988) hX dL_law_987 0 rfl rfl ?_
      refine V_iload_n (q := 989) hX dL_law_988 3 rfl rfl ?_
      refine V_iconst (v := 5) (q := 990) hX dL_law_989 (by decide) rfl ?_
      refine V_iadd (q := 991) hX dL_law_990 rfl ?_
      obtain ⟨z1692, h⟩ := chk_t h
      refine V_sld (q := 992) hX hSc z1692 dL_law_991 rfl ?_
      obtain ⟨r1694, σ1693, e1695, h⟩ := bnd_some h
      refine V_cvI (n := 95) (c := 9) (nf := 39) (C := RX9) (T := TX9) (As := [.int ((xs ((x3 + (1 : Int32))).toNatClampNeg)), .int ((xs ((x3 + (2 : Int32))).toNatClampNeg)), .int ((xs ((x3 + (3 : Int32))).toNatClampNeg)), .int ((xs ((x3 + (4 : Int32))).toNatClampNeg)), .int ((xs ((x3 + (5 : Int32))).toNatClampNeg))]) (q := 995) hX (c9_kinds hX.2.2.2.2.1 hN e1695) (goodV_of k5_233 k5_234 k5_235 k1_16 (cons_g k5_236)) (nA := 5) (by decide) rfl rfl rfl rfl rfl ⟨rfl, by decide⟩ hN rfl rfl rfl dL_law_992 rfl ?_
      refine V_icmp_eq (q := 998) (t := 1663) hX dL_law_995 (by decide) rfl (fun z1696 => ?_) (fun z1696 => ?_)
      · have h := ite_t z1696 h
        refine V.pick [0, 1, 2, 3] rfl ?_
        exact vL_law_1663 hX hN hSc hQ ih x3 σ1693 h
      have h := ite_f z1696 h
      refine V_iconst (v := 0) (q := 999) hX dL_law_998 (by decide) rfl ?_
      obtain ⟨f1, f2⟩ := some2 h
      rw [f1] at hQ
      exact V_lawret hX hQ rfl dL_law_999
    have h := ite_f z1679 h
    by_cases z1697 : ((xs (x3).toNatClampNeg) &&& (63 : Int32)) = 19
    · have h := ite_t z1697 h
      refine V_tsw (q := 1000) (off := 967) hX dL_law_33 (by rw [z1697]; decide) (by rw [z1697]; decide) (by rw [z1697]; decide) (by decide) ?_
      refine V_aload_n (q := 1001) hX dL_law_1000 1 rfl rfl ?_
      refine V_aload_n (q := 1002) hX dL_law_1001 0 rfl rfl ?_
      refine V_iload_n (q := 1003) hX dL_law_1002 3 rfl rfl ?_
      refine V_iconst (v := 1) (q := 1004) hX dL_law_1003 (by decide) rfl ?_
      refine V_iadd (q := 1005) hX dL_law_1004 rfl ?_
      obtain ⟨z1698, h⟩ := chk_t h
      refine V_sld (q := 1006) hX hSc z1698 dL_law_1005 rfl ?_
      refine V_aload_n (q := 1007) hX dL_law_1006 0 rfl rfl ?_
      refine V_iload_n (q := 1008) hX dL_law_1007 3 rfl rfl ?_
      refine V_iconst (v := 2) (q := 1009) hX dL_law_1008 (by decide) rfl ?_
      refine V_iadd (q := 1010) hX dL_law_1009 rfl ?_
      obtain ⟨z1699, h⟩ := chk_t h
      refine V_sld (q := 1011) hX hSc z1699 dL_law_1010 rfl ?_
      refine V_aload_n (q := 1012) hX dL_law_1011 0 rfl rfl ?_
      refine V_iload_n (q := 1013) hX dL_law_1012 3 rfl rfl ?_
      refine V_iconst (v := 3) (q := 1014) hX dL_law_1013 (by decide) rfl ?_
      refine V_iadd (q := 1015) hX dL_law_1014 rfl ?_
      obtain ⟨z1700, h⟩ := chk_t h
      refine V_sld (q := 1016) hX hSc z1700 dL_law_1015 rfl ?_
      refine V_aload_n (q := 1017) hX dL_law_1016 0 rfl rfl ?_
      refine V_iload_n (q := 1018) hX dL_law_1017 3 rfl rfl ?_
      refine V_iconst (v := 4) (q := 1019) hX dL_law_1018 (by decide) rfl ?_
      refine V_iadd (q := 1020) hX dL_law_1019 rfl ?_
      obtain ⟨z1701, h⟩ := chk_t h
      refine V_sld (q := 1021) hX hSc z1701 dL_law_1020 rfl ?_
      refine V_aload_n (q := 1022) hX dL_law_1021 0 rfl rfl ?_
      refine V_iload_n (q := 1023) hX dL_law_1022 3 rfl rfl ?_
      refine V_iconst (v := 5) (q := 1024) hX dL_law_1023 (by decide) rfl ?_
      refine V_iadd (q := 1025) hX dL_law_1024 rfl ?_
      obtain ⟨z1702, h⟩ := chk_t h
      refine V_sld (q := 1026) hX hSc z1702 dL_law_1025 rfl ?_
      obtain ⟨r1704, σ1703, e1705, h⟩ := bnd_some h
      refine V_cvI (n := 75) (c := 8) (nf := 11) (C := RX8) (T := TX8) (As := [.int ((xs ((x3 + (1 : Int32))).toNatClampNeg)), .int ((xs ((x3 + (2 : Int32))).toNatClampNeg)), .int ((xs ((x3 + (3 : Int32))).toNatClampNeg)), .int ((xs ((x3 + (4 : Int32))).toNatClampNeg)), .int ((xs ((x3 + (5 : Int32))).toNatClampNeg))]) (q := 1029) hX (c8_acts hX.2.2.2.2.1 (Nat.le_trans (by decide) hN) e1705) (goodV_of k4_43 k4_44 k4_45 k1_1 (cons_g k4_46)) (nA := 5) (by decide) rfl rfl rfl rfl rfl ⟨rfl, by decide⟩ (Nat.le_trans (by decide) hN) rfl rfl rfl dL_law_1026 rfl ?_
      refine V_aload_n (q := 1030) hX dL_law_1029 2 rfl rfl ?_
      refine V_aload_n (q := 1031) hX dL_law_1030 0 rfl rfl ?_
      refine V_iload_n (q := 1032) hX dL_law_1031 3 rfl rfl ?_
      refine V_iconst (v := 1) (q := 1033) hX dL_law_1032 (by decide) rfl ?_
      refine V_iadd (q := 1034) hX dL_law_1033 rfl ?_
      obtain ⟨z1706, h⟩ := chk_t h
      refine V_sld (q := 1035) hX hSc z1706 dL_law_1034 rfl ?_
      refine V_aload_n (q := 1036) hX dL_law_1035 0 rfl rfl ?_
      refine V_iload_n (q := 1037) hX dL_law_1036 3 rfl rfl ?_
      refine V_iconst (v := 2) (q := 1038) hX dL_law_1037 (by decide) rfl ?_
      refine V_iadd (q := 1039) hX dL_law_1038 rfl ?_
      obtain ⟨z1707, h⟩ := chk_t h
      refine V_sld (q := 1040) hX hSc z1707 dL_law_1039 rfl ?_
      refine V_aload_n (q := 1041) hX dL_law_1040 0 rfl rfl ?_
      refine V_iload_n (q := 1042) hX dL_law_1041 3 rfl rfl ?_
      refine V_iconst (v := 3) (q := 1043) hX dL_law_1042 (by decide) rfl ?_
      refine V_iadd (q := 1044) hX dL_law_1043 rfl ?_
      obtain ⟨z1708, h⟩ := chk_t h
      refine V_sld (q := 1045) hX hSc z1708 dL_law_1044 rfl ?_
      refine V_aload_n (q := 1046) hX dL_law_1045 0 rfl rfl ?_
      refine V_iload_n (q := 1047) hX dL_law_1046 3 rfl rfl ?_
      refine V_iconst (v := 4) (q := 1048) hX dL_law_1047 (by decide) rfl ?_
      refine V_iadd (q := 1049) hX dL_law_1048 rfl ?_
      obtain ⟨z1709, h⟩ := chk_t h
      refine V_sld (q := 1050) hX hSc z1709 dL_law_1049 rfl ?_
      refine V_aload_n (q := 1051) hX dL_law_1050 0 rfl rfl ?_
      refine V_iload_n (q := 1052) hX dL_law_1051 3 rfl rfl ?_
      refine V_iconst (v := 5) (q := 1053) hX dL_law_1052 (by decide) rfl ?_
      refine V_iadd (q := 1054) hX dL_law_1053 rfl ?_
      obtain ⟨z1710, h⟩ := chk_t h
      refine V_sld (q := 1055) hX hSc z1710 dL_law_1054 rfl ?_
      obtain ⟨r1712, σ1711, e1713, h⟩ := bnd_some h
      refine V_cvI (n := 95) (c := 9) (nf := 39) (C := RX9) (T := TX9) (As := [.int ((xs ((x3 + (1 : Int32))).toNatClampNeg)), .int ((xs ((x3 + (2 : Int32))).toNatClampNeg)), .int ((xs ((x3 + (3 : Int32))).toNatClampNeg)), .int ((xs ((x3 + (4 : Int32))).toNatClampNeg)), .int ((xs ((x3 + (5 : Int32))).toNatClampNeg))]) (q := 1058) hX (c9_acts hX.2.2.2.2.1 hN e1713) (goodV_of k5_237 k5_238 k5_239 k1_16 (cons_g k6_0)) (nA := 5) (by decide) rfl rfl rfl rfl rfl ⟨rfl, by decide⟩ hN rfl rfl rfl dL_law_1055 rfl ?_
      refine V_icmp_eq (q := 1061) (t := 1663) hX dL_law_1058 (by decide) rfl (fun z1714 => ?_) (fun z1714 => ?_)
      · have h := ite_t z1714 h
        refine V.pick [0, 1, 2, 3] rfl ?_
        exact vL_law_1663 hX hN hSc hQ ih x3 σ1711 h
      have h := ite_f z1714 h
      refine V_iconst (v := 0) (q := 1062) hX dL_law_1061 (by decide) rfl ?_
      obtain ⟨f1, f2⟩ := some2 h
      rw [f1] at hQ
      exact V_lawret hX hQ rfl dL_law_1062
    have h := ite_f z1697 h
    by_cases z1715 : ((xs (x3).toNatClampNeg) &&& (63 : Int32)) = 20
    · have h := ite_t z1715 h
      refine V_tsw (q := 1063) (off := 1030) hX dL_law_33 (by rw [z1715]; decide) (by rw [z1715]; decide) (by rw [z1715]; decide) (by decide) ?_
      refine V_aload_n (q := 1064) hX dL_law_1063 1 rfl rfl ?_
      refine V_aload_n (q := 1065) hX dL_law_1064 0 rfl rfl ?_
      refine V_iload_n (q := 1066) hX dL_law_1065 3 rfl rfl ?_
      refine V_iconst (v := 1) (q := 1067) hX dL_law_1066 (by decide) rfl ?_
      refine V_iadd (q := 1068) hX dL_law_1067 rfl ?_
      obtain ⟨z1716, h⟩ := chk_t h
      refine V_sld (q := 1069) hX hSc z1716 dL_law_1068 rfl ?_
      refine V_aload_n (q := 1070) hX dL_law_1069 0 rfl rfl ?_
      refine V_iload_n (q := 1071) hX dL_law_1070 3 rfl rfl ?_
      refine V_iconst (v := 2) (q := 1072) hX dL_law_1071 (by decide) rfl ?_
      refine V_iadd (q := 1073) hX dL_law_1072 rfl ?_
      obtain ⟨z1717, h⟩ := chk_t h
      refine V_sld (q := 1074) hX hSc z1717 dL_law_1073 rfl ?_
      refine V_aload_n (q := 1075) hX dL_law_1074 0 rfl rfl ?_
      refine V_iload_n (q := 1076) hX dL_law_1075 3 rfl rfl ?_
      refine V_iconst (v := 3) (q := 1077) hX dL_law_1076 (by decide) rfl ?_
      refine V_iadd (q := 1078) hX dL_law_1077 rfl ?_
      obtain ⟨z1718, h⟩ := chk_t h
      refine V_sld (q := 1079) hX hSc z1718 dL_law_1078 rfl ?_
      refine V_aload_n (q := 1080) hX dL_law_1079 0 rfl rfl ?_
      refine V_iload_n (q := 1081) hX dL_law_1080 3 rfl rfl ?_
      refine V_iconst (v := 4) (q := 1082) hX dL_law_1081 (by decide) rfl ?_
      refine V_iadd (q := 1083) hX dL_law_1082 rfl ?_
      obtain ⟨z1719, h⟩ := chk_t h
      refine V_sld (q := 1084) hX hSc z1719 dL_law_1083 rfl ?_
      refine V_aload_n (q := 1085) hX dL_law_1084 0 rfl rfl ?_
      refine V_iload_n (q := 1086) hX dL_law_1085 3 rfl rfl ?_
      refine V_iconst (v := 5) (q := 1087) hX dL_law_1086 (by decide) rfl ?_
      refine V_iadd (q := 1088) hX dL_law_1087 rfl ?_
      obtain ⟨z1720, h⟩ := chk_t h
      refine V_sld (q := 1089) hX hSc z1720 dL_law_1088 rfl ?_
      obtain ⟨r1722, σ1721, e1723, h⟩ := bnd_some h
      refine V_cvI (n := 75) (c := 8) (nf := 11) (C := RX8) (T := TX8) (As := [.int ((xs ((x3 + (1 : Int32))).toNatClampNeg)), .int ((xs ((x3 + (2 : Int32))).toNatClampNeg)), .int ((xs ((x3 + (3 : Int32))).toNatClampNeg)), .int ((xs ((x3 + (4 : Int32))).toNatClampNeg)), .int ((xs ((x3 + (5 : Int32))).toNatClampNeg))]) (q := 1092) hX (c8_heavy hX.2.2.2.2.1 (Nat.le_trans (by decide) hN) e1723) (goodV_of k4_47 k4_48 k4_49 k1_1 (cons_g k4_50)) (nA := 5) (by decide) rfl rfl rfl rfl rfl ⟨rfl, by decide⟩ (Nat.le_trans (by decide) hN) rfl rfl rfl dL_law_1089 rfl ?_
      refine V_aload_n (q := 1093) hX dL_law_1092 2 rfl rfl ?_
      refine V_aload_n (q := 1094) hX dL_law_1093 0 rfl rfl ?_
      refine V_iload_n (q := 1095) hX dL_law_1094 3 rfl rfl ?_
      refine V_iconst (v := 1) (q := 1096) hX dL_law_1095 (by decide) rfl ?_
      refine V_iadd (q := 1097) hX dL_law_1096 rfl ?_
      obtain ⟨z1724, h⟩ := chk_t h
      refine V_sld (q := 1098) hX hSc z1724 dL_law_1097 rfl ?_
      refine V_aload_n (q := 1099) hX dL_law_1098 0 rfl rfl ?_
      refine V_iload_n (q := 1100) hX dL_law_1099 3 rfl rfl ?_
      refine V_iconst (v := 2) (q := 1101) hX dL_law_1100 (by decide) rfl ?_
      refine V_iadd (q := 1102) hX dL_law_1101 rfl ?_
      obtain ⟨z1725, h⟩ := chk_t h
      refine V_sld (q := 1103) hX hSc z1725 dL_law_1102 rfl ?_
      refine V_aload_n (q := 1104) hX dL_law_1103 0 rfl rfl ?_
      refine V_iload_n (q := 1105) hX dL_law_1104 3 rfl rfl ?_
      refine V_iconst (v := 3) (q := 1106) hX dL_law_1105 (by decide) rfl ?_
      refine V_iadd (q := 1107) hX dL_law_1106 rfl ?_
      obtain ⟨z1726, h⟩ := chk_t h
      refine V_sld (q := 1108) hX hSc z1726 dL_law_1107 rfl ?_
      refine V_aload_n (q := 1109) hX dL_law_1108 0 rfl rfl ?_
      refine V_iload_n (q := 1110) hX dL_law_1109 3 rfl rfl ?_
      refine V_iconst (v := 4) (q := 1111) hX dL_law_1110 (by decide) rfl ?_
      refine V_iadd (q := 1112) hX dL_law_1111 rfl ?_
      obtain ⟨z1727, h⟩ := chk_t h
      refine V_sld (q := 1113) hX hSc z1727 dL_law_1112 rfl ?_
      refine V_aload_n (q := 1114) hX dL_law_1113 0 rfl rfl ?_
      refine V_iload_n (q := 1115) hX dL_law_1114 3 rfl rfl ?_
      refine V_iconst (v := 5) (q := 1116) hX dL_law_1115 (by decide) rfl ?_
      refine V_iadd (q := 1117) hX dL_law_1116 rfl ?_
      obtain ⟨z1728, h⟩ := chk_t h
      refine V_sld (q := 1118) hX hSc z1728 dL_law_1117 rfl ?_
      obtain ⟨r1730, σ1729, e1731, h⟩ := bnd_some h
      refine V_cvI (n := 95) (c := 9) (nf := 39) (C := RX9) (T := TX9) (As := [.int ((xs ((x3 + (1 : Int32))).toNatClampNeg)), .int ((xs ((x3 + (2 : Int32))).toNatClampNeg)), .int ((xs ((x3 + (3 : Int32))).toNatClampNeg)), .int ((xs ((x3 + (4 : Int32))).toNatClampNeg)), .int ((xs ((x3 + (5 : Int32))).toNatClampNeg))]) (q := 1121) hX (c9_heavy hX.2.2.2.2.1 hN e1731) (goodV_of k6_1 k6_2 k6_3 k1_16 (cons_g k6_4)) (nA := 5) (by decide) rfl rfl rfl rfl rfl ⟨rfl, by decide⟩ hN rfl rfl rfl dL_law_1118 rfl ?_
      refine V_icmp_eq (q := 1124) (t := 1663) hX dL_law_1121 (by decide) rfl (fun z1732 => ?_) (fun z1732 => ?_)
      · have h := ite_t z1732 h
        refine V.pick [0, 1, 2, 3] rfl ?_
        exact vL_law_1663 hX hN hSc hQ ih x3 σ1729 h
      have h := ite_f z1732 h
      refine V_iconst (v := 0) (q := 1125) hX dL_law_1124 (by decide) rfl ?_
      obtain ⟨f1, f2⟩ := some2 h
      rw [f1] at hQ
      exact V_lawret hX hQ rfl dL_law_1125
    have h := ite_f z1715 h
    by_cases z1733 : ((xs (x3).toNatClampNeg) &&& (63 : Int32)) = 21
    · have h := ite_t z1733 h
      refine V_tsw (q := 1126) (off := 1093) hX dL_law_33 (by rw [z1733]; decide) (by rw [z1733]; decide) (by rw [z1733]; decide) (by decide) ?_
      refine V_aload_n (q := 1127) hX dL_law_1126 1 rfl rfl ?_
      refine V_aload_n (q := 1128) hX dL_law_1127 0 rfl rfl ?_
      refine V_iload_n (q := 1129) hX dL_law_1128 3 rfl rfl ?_
      refine V_iconst (v := 1) (q := 1130) hX dL_law_1129 (by decide) rfl ?_
      refine V_iadd (q := 1131) hX dL_law_1130 rfl ?_
      obtain ⟨z1734, h⟩ := chk_t h
      refine V_sld (q := 1132) hX hSc z1734 dL_law_1131 rfl ?_
      refine V_aload_n (q := 1133) hX dL_law_1132 0 rfl rfl ?_
      refine V_iload_n (q := 1134) hX dL_law_1133 3 rfl rfl ?_
      refine V_iconst (v := 2) (q := 1135) hX dL_law_1134 (by decide) rfl ?_
      refine V_iadd (q := 1136) hX dL_law_1135 rfl ?_
      obtain ⟨z1735, h⟩ := chk_t h
      refine V_sld (q := 1137) hX hSc z1735 dL_law_1136 rfl ?_
      refine V_aload_n (q := 1138) hX dL_law_1137 0 rfl rfl ?_
      refine V_iload_n (q := 1139) hX dL_law_1138 3 rfl rfl ?_
      refine V_iconst (v := 3) (q := 1140) hX dL_law_1139 (by decide) rfl ?_
      refine V_iadd (q := 1141) hX dL_law_1140 rfl ?_
      obtain ⟨z1736, h⟩ := chk_t h
      refine V_sld (q := 1142) hX hSc z1736 dL_law_1141 rfl ?_
      refine V_aload_n (q := 1143) hX dL_law_1142 0 rfl rfl ?_
      refine V_iload_n (q := 1144) hX dL_law_1143 3 rfl rfl ?_
      refine V_iconst (v := 4) (q := 1145) hX dL_law_1144 (by decide) rfl ?_
      refine V_iadd (q := 1146) hX dL_law_1145 rfl ?_
      obtain ⟨z1737, h⟩ := chk_t h
      refine V_sld (q := 1147) hX hSc z1737 dL_law_1146 rfl ?_
      obtain ⟨r1739, σ1738, e1740, h⟩ := bnd_some h
      refine V_cvI (n := 75) (c := 8) (nf := 11) (C := RX8) (T := TX8) (As := [.int ((xs ((x3 + (1 : Int32))).toNatClampNeg)), .int ((xs ((x3 + (2 : Int32))).toNatClampNeg)), .int ((xs ((x3 + (3 : Int32))).toNatClampNeg)), .int ((xs ((x3 + (4 : Int32))).toNatClampNeg))]) (q := 1150) hX (c8_laws hX.2.2.2.2.1 (Nat.le_trans (by decide) hN) e1740) (goodV_of k4_51 k4_52 k4_53 k1_1 (cons_g k4_54)) (nA := 4) (by decide) rfl rfl rfl rfl rfl ⟨rfl, by decide⟩ (Nat.le_trans (by decide) hN) rfl rfl rfl dL_law_1147 rfl ?_
      refine V_aload_n (q := 1151) hX dL_law_1150 2 rfl rfl ?_
      refine V_aload_n (q := 1152) hX dL_law_1151 0 rfl rfl ?_
      refine V_iload_n (q := 1153) hX dL_law_1152 3 rfl rfl ?_
      refine V_iconst (v := 1) (q := 1154) hX dL_law_1153 (by decide) rfl ?_
      refine V_iadd (q := 1155) hX dL_law_1154 rfl ?_
      obtain ⟨z1741, h⟩ := chk_t h
      refine V_sld (q := 1156) hX hSc z1741 dL_law_1155 rfl ?_
      refine V_aload_n (q := 1157) hX dL_law_1156 0 rfl rfl ?_
      refine V_iload_n (q := 1158) hX dL_law_1157 3 rfl rfl ?_
      refine V_iconst (v := 2) (q := 1159) hX dL_law_1158 (by decide) rfl ?_
      refine V_iadd (q := 1160) hX dL_law_1159 rfl ?_
      obtain ⟨z1742, h⟩ := chk_t h
      refine V_sld (q := 1161) hX hSc z1742 dL_law_1160 rfl ?_
      refine V_aload_n (q := 1162) hX dL_law_1161 0 rfl rfl ?_
      refine V_iload_n (q := 1163) hX dL_law_1162 3 rfl rfl ?_
      refine V_iconst (v := 3) (q := 1164) hX dL_law_1163 (by decide) rfl ?_
      refine V_iadd (q := 1165) hX dL_law_1164 rfl ?_
      obtain ⟨z1743, h⟩ := chk_t h
      refine V_sld (q := 1166) hX hSc z1743 dL_law_1165 rfl ?_
      refine V_aload_n (q := 1167) hX dL_law_1166 0 rfl rfl ?_
      refine V_iload_n (q := 1168) hX dL_law_1167 3 rfl rfl ?_
      refine V_iconst (v := 4) (q := 1169) hX dL_law_1168 (by decide) rfl ?_
      refine V_iadd (q := 1170) hX dL_law_1169 rfl ?_
      obtain ⟨z1744, h⟩ := chk_t h
      refine V_sld (q := 1171) hX hSc z1744 dL_law_1170 rfl ?_
      obtain ⟨r1746, σ1745, e1747, h⟩ := bnd_some h
      refine V_cvI (n := 95) (c := 9) (nf := 39) (C := RX9) (T := TX9) (As := [.int ((xs ((x3 + (1 : Int32))).toNatClampNeg)), .int ((xs ((x3 + (2 : Int32))).toNatClampNeg)), .int ((xs ((x3 + (3 : Int32))).toNatClampNeg)), .int ((xs ((x3 + (4 : Int32))).toNatClampNeg))]) (q := 1174) hX (c9_laws hX.2.2.2.2.1 hN e1747) (goodV_of k6_5 k6_6 k6_7 k1_16 (cons_g k6_8)) (nA := 4) (by decide) rfl rfl rfl rfl rfl ⟨rfl, by decide⟩ hN rfl rfl rfl dL_law_1171 rfl ?_
      refine V_icmp_eq (q := 1177) (t := 1663) hX dL_law_1174 (by decide) rfl (fun z1748 => ?_) (fun z1748 => ?_)
      · have h := ite_t z1748 h
        refine V.pick [0, 1, 2, 3] rfl ?_
        exact vL_law_1663 hX hN hSc hQ ih x3 σ1745 h
      have h := ite_f z1748 h
      refine V_iconst (v := 0) (q := 1178) hX dL_law_1177 (by decide) rfl ?_
      obtain ⟨f1, f2⟩ := some2 h
      rw [f1] at hQ
      exact V_lawret hX hQ rfl dL_law_1178
    have h := ite_f z1733 h
    by_cases z1749 : ((xs (x3).toNatClampNeg) &&& (63 : Int32)) = 22
    · have h := ite_t z1749 h
      refine V_tsw (q := 1179) (off := 1146) hX dL_law_33 (by rw [z1749]; decide) (by rw [z1749]; decide) (by rw [z1749]; decide) (by decide) ?_
      refine V_aload_n (q := 1180) hX dL_law_1179 1 rfl rfl ?_
      refine V_aload_n (q := 1181) hX dL_law_1180 0 rfl rfl ?_
      refine V_iload_n (q := 1182) hX dL_law_1181 3 rfl rfl ?_
      refine V_iconst (v := 1) (q := 1183) hX dL_law_1182 (by decide) rfl ?_
      refine V_iadd (q := 1184) hX dL_law_1183 rfl ?_
      obtain ⟨z1750, h⟩ := chk_t h
      refine V_sld (q := 1185) hX hSc z1750 dL_law_1184 rfl ?_
      refine V_aload_n (q := 1186) hX dL_law_1185 0 rfl rfl ?_
      refine V_iload_n (q := 1187) hX dL_law_1186 3 rfl rfl ?_
      refine V_iconst (v := 2) (q := 1188) hX dL_law_1187 (by decide) rfl ?_
      refine V_iadd (q := 1189) hX dL_law_1188 rfl ?_
      obtain ⟨z1751, h⟩ := chk_t h
      refine V_sld (q := 1190) hX hSc z1751 dL_law_1189 rfl ?_
      refine V_aload_n (q := 1191) hX dL_law_1190 0 rfl rfl ?_
      refine V_iload_n (q := 1192) hX dL_law_1191 3 rfl rfl ?_
      refine V_iconst (v := 3) (q := 1193) hX dL_law_1192 (by decide) rfl ?_
      refine V_iadd (q := 1194) hX dL_law_1193 rfl ?_
      obtain ⟨z1752, h⟩ := chk_t h
      refine V_sld (q := 1195) hX hSc z1752 dL_law_1194 rfl ?_
      refine V_aload_n (q := 1196) hX dL_law_1195 0 rfl rfl ?_
      refine V_iload_n (q := 1197) hX dL_law_1196 3 rfl rfl ?_
      refine V_iconst (v := 4) (q := 1198) hX dL_law_1197 (by decide) rfl ?_
      refine V_iadd (q := 1199) hX dL_law_1198 rfl ?_
      obtain ⟨z1753, h⟩ := chk_t h
      refine V_sld (q := 1200) hX hSc z1753 dL_law_1199 rfl ?_
      obtain ⟨r1755, σ1754, e1756, h⟩ := bnd_some h
      refine V_cvI (n := 75) (c := 8) (nf := 11) (C := RX8) (T := TX8) (As := [.int ((xs ((x3 + (1 : Int32))).toNatClampNeg)), .int ((xs ((x3 + (2 : Int32))).toNatClampNeg)), .int ((xs ((x3 + (3 : Int32))).toNatClampNeg)), .int ((xs ((x3 + (4 : Int32))).toNatClampNeg))]) (q := 1203) hX (c8_whose hX.2.2.2.2.1 (Nat.le_trans (by decide) hN) e1756) (goodV_of k4_55 k4_56 k4_57 k1_1 (cons_g k4_58)) (nA := 4) (by decide) rfl rfl rfl rfl rfl ⟨rfl, by decide⟩ (Nat.le_trans (by decide) hN) rfl rfl rfl dL_law_1200 rfl ?_
      refine V_aload_n (q := 1204) hX dL_law_1203 2 rfl rfl ?_
      refine V_aload_n (q := 1205) hX dL_law_1204 0 rfl rfl ?_
      refine V_iload_n (q := 1206) hX dL_law_1205 3 rfl rfl ?_
      refine V_iconst (v := 1) (q := 1207) hX dL_law_1206 (by decide) rfl ?_
      refine V_iadd (q := 1208) hX dL_law_1207 rfl ?_
      obtain ⟨z1757, h⟩ := chk_t h
      refine V_sld (q := 1209) hX hSc z1757 dL_law_1208 rfl ?_
      refine V_aload_n (q := 1210) hX dL_law_1209 0 rfl rfl ?_
      refine V_iload_n (q := 1211) hX dL_law_1210 3 rfl rfl ?_
      refine V_iconst (v := 2) (q := 1212) hX dL_law_1211 (by decide) rfl ?_
      refine V_iadd (q := 1213) hX dL_law_1212 rfl ?_
      obtain ⟨z1758, h⟩ := chk_t h
      refine V_sld (q := 1214) hX hSc z1758 dL_law_1213 rfl ?_
      refine V_aload_n (q := 1215) hX dL_law_1214 0 rfl rfl ?_
      refine V_iload_n (q := 1216) hX dL_law_1215 3 rfl rfl ?_
      refine V_iconst (v := 3) (q := 1217) hX dL_law_1216 (by decide) rfl ?_
      refine V_iadd (q := 1218) hX dL_law_1217 rfl ?_
      obtain ⟨z1759, h⟩ := chk_t h
      refine V_sld (q := 1219) hX hSc z1759 dL_law_1218 rfl ?_
      refine V_aload_n (q := 1220) hX dL_law_1219 0 rfl rfl ?_
      refine V_iload_n (q := 1221) hX dL_law_1220 3 rfl rfl ?_
      refine V_iconst (v := 4) (q := 1222) hX dL_law_1221 (by decide) rfl ?_
      refine V_iadd (q := 1223) hX dL_law_1222 rfl ?_
      obtain ⟨z1760, h⟩ := chk_t h
      refine V_sld (q := 1224) hX hSc z1760 dL_law_1223 rfl ?_
      obtain ⟨r1762, σ1761, e1763, h⟩ := bnd_some h
      refine V_cvI (n := 95) (c := 9) (nf := 39) (C := RX9) (T := TX9) (As := [.int ((xs ((x3 + (1 : Int32))).toNatClampNeg)), .int ((xs ((x3 + (2 : Int32))).toNatClampNeg)), .int ((xs ((x3 + (3 : Int32))).toNatClampNeg)), .int ((xs ((x3 + (4 : Int32))).toNatClampNeg))]) (q := 1227) hX (c9_whose hX.2.2.2.2.1 hN e1763) (goodV_of k6_9 k6_10 k6_11 k1_16 (cons_g k6_12)) (nA := 4) (by decide) rfl rfl rfl rfl rfl ⟨rfl, by decide⟩ hN rfl rfl rfl dL_law_1224 rfl ?_
      refine V_icmp_eq (q := 1230) (t := 1663) hX dL_law_1227 (by decide) rfl (fun z1764 => ?_) (fun z1764 => ?_)
      · have h := ite_t z1764 h
        refine V.pick [0, 1, 2, 3] rfl ?_
        exact vL_law_1663 hX hN hSc hQ ih x3 σ1761 h
      have h := ite_f z1764 h
      refine V_iconst (v := 0) (q := 1231) hX dL_law_1230 (by decide) rfl ?_
      obtain ⟨f1, f2⟩ := some2 h
      rw [f1] at hQ
      exact V_lawret hX hQ rfl dL_law_1231
    have h := ite_f z1749 h
    by_cases z1765 : ((xs (x3).toNatClampNeg) &&& (63 : Int32)) = 23
    · have h := ite_t z1765 h
      refine V_tsw (q := 1232) (off := 1199) hX dL_law_33 (by rw [z1765]; decide) (by rw [z1765]; decide) (by rw [z1765]; decide) (by decide) ?_
      refine V_aload_n (q := 1233) hX dL_law_1232 1 rfl rfl ?_
      refine V_aload_n (q := 1234) hX dL_law_1233 0 rfl rfl ?_
      refine V_iload_n (q := 1235) hX dL_law_1234 3 rfl rfl ?_
      refine V_iconst (v := 1) (q := 1236) hX dL_law_1235 (by decide) rfl ?_
      refine V_iadd (q := 1237) hX dL_law_1236 rfl ?_
      obtain ⟨z1766, h⟩ := chk_t h
      refine V_sld (q := 1238) hX hSc z1766 dL_law_1237 rfl ?_
      refine V_aload_n (q := 1239) hX dL_law_1238 0 rfl rfl ?_
      refine V_iload_n (q := 1240) hX dL_law_1239 3 rfl rfl ?_
      refine V_iconst (v := 2) (q := 1241) hX dL_law_1240 (by decide) rfl ?_
      refine V_iadd (q := 1242) hX dL_law_1241 rfl ?_
      obtain ⟨z1767, h⟩ := chk_t h
      refine V_sld (q := 1243) hX hSc z1767 dL_law_1242 rfl ?_
      refine V_aload_n (q := 1244) hX dL_law_1243 0 rfl rfl ?_
      refine V_iload_n (q := 1245) hX dL_law_1244 3 rfl rfl ?_
      refine V_iconst (v := 3) (q := 1246) hX dL_law_1245 (by decide) rfl ?_
      refine V_iadd (q := 1247) hX dL_law_1246 rfl ?_
      obtain ⟨z1768, h⟩ := chk_t h
      refine V_sld (q := 1248) hX hSc z1768 dL_law_1247 rfl ?_
      refine V_aload_n (q := 1249) hX dL_law_1248 0 rfl rfl ?_
      refine V_iload_n (q := 1250) hX dL_law_1249 3 rfl rfl ?_
      refine V_iconst (v := 4) (q := 1251) hX dL_law_1250 (by decide) rfl ?_
      refine V_iadd (q := 1252) hX dL_law_1251 rfl ?_
      obtain ⟨z1769, h⟩ := chk_t h
      refine V_sld (q := 1253) hX hSc z1769 dL_law_1252 rfl ?_
      obtain ⟨r1771, σ1770, e1772, h⟩ := bnd_some h
      refine V_cvI (n := 75) (c := 8) (nf := 11) (C := RX8) (T := TX8) (As := [.int ((xs ((x3 + (1 : Int32))).toNatClampNeg)), .int ((xs ((x3 + (2 : Int32))).toNatClampNeg)), .int ((xs ((x3 + (3 : Int32))).toNatClampNeg)), .int ((xs ((x3 + (4 : Int32))).toNatClampNeg))]) (q := 1256) hX (c8_film hX.2.2.2.2.1 (Nat.le_trans (by decide) hN) e1772) (goodV_of k4_59 k4_60 k4_61 k1_1 (cons_g k4_62)) (nA := 4) (by decide) rfl rfl rfl rfl rfl ⟨rfl, by decide⟩ (Nat.le_trans (by decide) hN) rfl rfl rfl dL_law_1253 rfl ?_
      refine V_aload_n (q := 1257) hX dL_law_1256 2 rfl rfl ?_
      refine V_aload_n (q := 1258) hX dL_law_1257 0 rfl rfl ?_
      refine V_iload_n (q := 1259) hX dL_law_1258 3 rfl rfl ?_
      refine V_iconst (v := 1) (q := 1260) hX dL_law_1259 (by decide) rfl ?_
      refine V_iadd (q := 1261) hX dL_law_1260 rfl ?_
      obtain ⟨z1773, h⟩ := chk_t h
      refine V_sld (q := 1262) hX hSc z1773 dL_law_1261 rfl ?_
      refine V_aload_n (q := 1263) hX dL_law_1262 0 rfl rfl ?_
      refine V_iload_n (q := 1264) hX dL_law_1263 3 rfl rfl ?_
      refine V_iconst (v := 2) (q := 1265) hX dL_law_1264 (by decide) rfl ?_
      refine V_iadd (q := 1266) hX dL_law_1265 rfl ?_
      obtain ⟨z1774, h⟩ := chk_t h
      refine V_sld (q := 1267) hX hSc z1774 dL_law_1266 rfl ?_
      refine V_aload_n (q := 1268) hX dL_law_1267 0 rfl rfl ?_
      refine V_iload_n (q := 1269) hX dL_law_1268 3 rfl rfl ?_
      refine V_iconst (v := 3) (q := 1270) hX dL_law_1269 (by decide) rfl ?_
      refine V_iadd (q := 1271) hX dL_law_1270 rfl ?_
      obtain ⟨z1775, h⟩ := chk_t h
      refine V_sld (q := 1272) hX hSc z1775 dL_law_1271 rfl ?_
      refine V_aload_n (q := 1273) hX dL_law_1272 0 rfl rfl ?_
      refine V_iload_n (q := 1274) hX dL_law_1273 3 rfl rfl ?_
      refine V_iconst (v := 4) (q := 1275) hX dL_law_1274 (by decide) rfl ?_
      refine V_iadd (q := 1276) hX dL_law_1275 rfl ?_
      obtain ⟨z1776, h⟩ := chk_t h
      refine V_sld (q := 1277) hX hSc z1776 dL_law_1276 rfl ?_
      obtain ⟨r1778, σ1777, e1779, h⟩ := bnd_some h
      refine V_cvI (n := 95) (c := 9) (nf := 39) (C := RX9) (T := TX9) (As := [.int ((xs ((x3 + (1 : Int32))).toNatClampNeg)), .int ((xs ((x3 + (2 : Int32))).toNatClampNeg)), .int ((xs ((x3 + (3 : Int32))).toNatClampNeg)), .int ((xs ((x3 + (4 : Int32))).toNatClampNeg))]) (q := 1280) hX (c9_film hX.2.2.2.2.1 hN e1779) (goodV_of k6_13 k6_14 k6_15 k1_16 (cons_g k6_16)) (nA := 4) (by decide) rfl rfl rfl rfl rfl ⟨rfl, by decide⟩ hN rfl rfl rfl dL_law_1277 rfl ?_
      refine V_icmp_eq (q := 1283) (t := 1663) hX dL_law_1280 (by decide) rfl (fun z1780 => ?_) (fun z1780 => ?_)
      · have h := ite_t z1780 h
        refine V.pick [0, 1, 2, 3] rfl ?_
        exact vL_law_1663 hX hN hSc hQ ih x3 σ1777 h
      have h := ite_f z1780 h
      refine V_iconst (v := 0) (q := 1284) hX dL_law_1283 (by decide) rfl ?_
      obtain ⟨f1, f2⟩ := some2 h
      rw [f1] at hQ
      exact V_lawret hX hQ rfl dL_law_1284
    have h := ite_f z1765 h
    by_cases z1781 : ((xs (x3).toNatClampNeg) &&& (63 : Int32)) = 24
    · have h := ite_t z1781 h
      refine V_tsw (q := 1285) (off := 1252) hX dL_law_33 (by rw [z1781]; decide) (by rw [z1781]; decide) (by rw [z1781]; decide) (by decide) ?_
      refine V_aload_n (q := 1286) hX dL_law_1285 1 rfl rfl ?_
      refine V_aload_n (q := 1287) hX dL_law_1286 0 rfl rfl ?_
      refine V_iload_n (q := 1288) hX dL_law_1287 3 rfl rfl ?_
      refine V_iconst (v := 1) (q := 1289) hX dL_law_1288 (by decide) rfl ?_
      refine V_iadd (q := 1290) hX dL_law_1289 rfl ?_
      obtain ⟨z1782, h⟩ := chk_t h
      refine V_sld (q := 1291) hX hSc z1782 dL_law_1290 rfl ?_
      refine V_aload_n (q := 1292) hX dL_law_1291 0 rfl rfl ?_
      refine V_iload_n (q := 1293) hX dL_law_1292 3 rfl rfl ?_
      refine V_iconst (v := 2) (q := 1294) hX dL_law_1293 (by decide) rfl ?_
      refine V_iadd (q := 1295) hX dL_law_1294 rfl ?_
      obtain ⟨z1783, h⟩ := chk_t h
      refine V_sld (q := 1296) hX hSc z1783 dL_law_1295 rfl ?_
      refine V_aload_n (q := 1297) hX dL_law_1296 0 rfl rfl ?_
      refine V_iload_n (q := 1298) hX dL_law_1297 3 rfl rfl ?_
      refine V_iconst (v := 3) (q := 1299) hX dL_law_1298 (by decide) rfl ?_
      refine V_iadd (q := 1300) hX dL_law_1299 rfl ?_
      obtain ⟨z1784, h⟩ := chk_t h
      refine V_sld (q := 1301) hX hSc z1784 dL_law_1300 rfl ?_
      refine V_aload_n (q := 1302) hX dL_law_1301 0 rfl rfl ?_
      refine V_iload_n (q := 1303) hX dL_law_1302 3 rfl rfl ?_
      refine V_iconst (v := 4) (q := 1304) hX dL_law_1303 (by decide) rfl ?_
      refine V_iadd (q := 1305) hX dL_law_1304 rfl ?_
      obtain ⟨z1785, h⟩ := chk_t h
      refine V_sld (q := 1306) hX hSc z1785 dL_law_1305 rfl ?_
      obtain ⟨r1787, σ1786, e1788, h⟩ := bnd_some h
      refine V_cvI (n := 75) (c := 8) (nf := 11) (C := RX8) (T := TX8) (As := [.int ((xs ((x3 + (1 : Int32))).toNatClampNeg)), .int ((xs ((x3 + (2 : Int32))).toNatClampNeg)), .int ((xs ((x3 + (3 : Int32))).toNatClampNeg)), .int ((xs ((x3 + (4 : Int32))).toNatClampNeg))]) (q := 1309) hX (c8_drawn hX.2.2.2.2.1 (Nat.le_trans (by decide) hN) e1788) (goodV_of k4_73 k4_74 k4_75 k1_1 (cons_g k4_76)) (nA := 4) (by decide) rfl rfl rfl rfl rfl ⟨rfl, by decide⟩ (Nat.le_trans (by decide) hN) rfl rfl rfl dL_law_1306 rfl ?_
      refine V_aload_n (q := 1310) hX dL_law_1309 2 rfl rfl ?_
      refine V_aload_n (q := 1311) hX dL_law_1310 0 rfl rfl ?_
      refine V_iload_n (q := 1312) hX dL_law_1311 3 rfl rfl ?_
      refine V_iconst (v := 1) (q := 1313) hX dL_law_1312 (by decide) rfl ?_
      refine V_iadd (q := 1314) hX dL_law_1313 rfl ?_
      obtain ⟨z1789, h⟩ := chk_t h
      refine V_sld (q := 1315) hX hSc z1789 dL_law_1314 rfl ?_
      refine V_aload_n (q := 1316) hX dL_law_1315 0 rfl rfl ?_
      refine V_iload_n (q := 1317) hX dL_law_1316 3 rfl rfl ?_
      refine V_iconst (v := 2) (q := 1318) hX dL_law_1317 (by decide) rfl ?_
      refine V_iadd (q := 1319) hX dL_law_1318 rfl ?_
      obtain ⟨z1790, h⟩ := chk_t h
      refine V_sld (q := 1320) hX hSc z1790 dL_law_1319 rfl ?_
      refine V_aload_n (q := 1321) hX dL_law_1320 0 rfl rfl ?_
      refine V_iload_n (q := 1322) hX dL_law_1321 3 rfl rfl ?_
      refine V_iconst (v := 3) (q := 1323) hX dL_law_1322 (by decide) rfl ?_
      refine V_iadd (q := 1324) hX dL_law_1323 rfl ?_
      obtain ⟨z1791, h⟩ := chk_t h
      refine V_sld (q := 1325) hX hSc z1791 dL_law_1324 rfl ?_
      refine V_aload_n (q := 1326) hX dL_law_1325 0 rfl rfl ?_
      refine V_iload_n (q := 1327) hX dL_law_1326 3 rfl rfl ?_
      refine V_iconst (v := 4) (q := 1328) hX dL_law_1327 (by decide) rfl ?_
      refine V_iadd (q := 1329) hX dL_law_1328 rfl ?_
      obtain ⟨z1792, h⟩ := chk_t h
      refine V_sld (q := 1330) hX hSc z1792 dL_law_1329 rfl ?_
      obtain ⟨r1794, σ1793, e1795, h⟩ := bnd_some h
      refine V_cvI (n := 95) (c := 9) (nf := 39) (C := RX9) (T := TX9) (As := [.int ((xs ((x3 + (1 : Int32))).toNatClampNeg)), .int ((xs ((x3 + (2 : Int32))).toNatClampNeg)), .int ((xs ((x3 + (3 : Int32))).toNatClampNeg)), .int ((xs ((x3 + (4 : Int32))).toNatClampNeg))]) (q := 1333) hX (c9_drawn hX.2.2.2.2.1 hN e1795) (goodV_of k6_17 k6_18 k6_19 k1_16 (cons_g k6_20)) (nA := 4) (by decide) rfl rfl rfl rfl rfl ⟨rfl, by decide⟩ hN rfl rfl rfl dL_law_1330 rfl ?_
      refine V_icmp_eq (q := 1336) (t := 1663) hX dL_law_1333 (by decide) rfl (fun z1796 => ?_) (fun z1796 => ?_)
      · have h := ite_t z1796 h
        refine V.pick [0, 1, 2, 3] rfl ?_
        exact vL_law_1663 hX hN hSc hQ ih x3 σ1793 h
      have h := ite_f z1796 h
      refine V_iconst (v := 0) (q := 1337) hX dL_law_1336 (by decide) rfl ?_
      obtain ⟨f1, f2⟩ := some2 h
      rw [f1] at hQ
      exact V_lawret hX hQ rfl dL_law_1337
    have h := ite_f z1781 h
    by_cases z1797 : ((xs (x3).toNatClampNeg) &&& (63 : Int32)) = 25
    · have h := ite_t z1797 h
      refine V_tsw (q := 1338) (off := 1305) hX dL_law_33 (by rw [z1797]; decide) (by rw [z1797]; decide) (by rw [z1797]; decide) (by decide) ?_
      refine V_aload_n (q := 1339) hX dL_law_1338 1 rfl rfl ?_
      refine V_aload_n (q := 1340) hX dL_law_1339 0 rfl rfl ?_
      refine V_iload_n (q := 1341) hX dL_law_1340 3 rfl rfl ?_
      refine V_iconst (v := 1) (q := 1342) hX dL_law_1341 (by decide) rfl ?_
      refine V_iadd (q := 1343) hX dL_law_1342 rfl ?_
      obtain ⟨z1798, h⟩ := chk_t h
      refine V_sld (q := 1344) hX hSc z1798 dL_law_1343 rfl ?_
      refine V_aload_n (q := 1345) hX dL_law_1344 0 rfl rfl ?_
      refine V_iload_n (q := 1346) hX dL_law_1345 3 rfl rfl ?_
      refine V_iconst (v := 2) (q := 1347) hX dL_law_1346 (by decide) rfl ?_
      refine V_iadd (q := 1348) hX dL_law_1347 rfl ?_
      obtain ⟨z1799, h⟩ := chk_t h
      refine V_sld (q := 1349) hX hSc z1799 dL_law_1348 rfl ?_
      refine V_aload_n (q := 1350) hX dL_law_1349 0 rfl rfl ?_
      refine V_iload_n (q := 1351) hX dL_law_1350 3 rfl rfl ?_
      refine V_iconst (v := 3) (q := 1352) hX dL_law_1351 (by decide) rfl ?_
      refine V_iadd (q := 1353) hX dL_law_1352 rfl ?_
      obtain ⟨z1800, h⟩ := chk_t h
      refine V_sld (q := 1354) hX hSc z1800 dL_law_1353 rfl ?_
      refine V_aload_n (q := 1355) hX dL_law_1354 0 rfl rfl ?_
      refine V_iload_n (q := 1356) hX dL_law_1355 3 rfl rfl ?_
      refine V_iconst (v := 4) (q := 1357) hX dL_law_1356 (by decide) rfl ?_
      refine V_iadd (q := 1358) hX dL_law_1357 rfl ?_
      obtain ⟨z1801, h⟩ := chk_t h
      refine V_sld (q := 1359) hX hSc z1801 dL_law_1358 rfl ?_
      refine V_aload_n (q := 1360) hX dL_law_1359 0 rfl rfl ?_
      refine V_iload_n (q := 1361) hX dL_law_1360 3 rfl rfl ?_
      refine V_iconst (v := 5) (q := 1362) hX dL_law_1361 (by decide) rfl ?_
      refine V_iadd (q := 1363) hX dL_law_1362 rfl ?_
      obtain ⟨z1802, h⟩ := chk_t h
      refine V_sld (q := 1364) hX hSc z1802 dL_law_1363 rfl ?_
      obtain ⟨r1804, σ1803, e1805, h⟩ := bnd_some h
      refine V_cvJ (n := 75) (c := 8) (nf := 11) (C := RX8) (T := TX8) (As := [.int ((xs ((x3 + (1 : Int32))).toNatClampNeg)), .int ((xs ((x3 + (2 : Int32))).toNatClampNeg)), .int ((xs ((x3 + (3 : Int32))).toNatClampNeg)), .int ((xs ((x3 + (4 : Int32))).toNatClampNeg)), .int ((xs ((x3 + (5 : Int32))).toNatClampNeg))]) (q := 1367) hX (c8_odds hX.2.2.2.2.1 (Nat.le_trans (by decide) hN) e1805) (goodV_of k4_88 k4_89 k4_90 k1_1 (cons_g k4_91)) (nA := 5) (by decide) rfl rfl rfl rfl rfl ⟨rfl, by decide⟩ (Nat.le_trans (by decide) hN) rfl rfl rfl dL_law_1364 rfl ?_
      refine V_aload_n (q := 1368) hX dL_law_1367 2 rfl rfl ?_
      refine V_aload_n (q := 1369) hX dL_law_1368 0 rfl rfl ?_
      refine V_iload_n (q := 1370) hX dL_law_1369 3 rfl rfl ?_
      refine V_iconst (v := 1) (q := 1371) hX dL_law_1370 (by decide) rfl ?_
      refine V_iadd (q := 1372) hX dL_law_1371 rfl ?_
      obtain ⟨z1806, h⟩ := chk_t h
      refine V_sld (q := 1373) hX hSc z1806 dL_law_1372 rfl ?_
      refine V_aload_n (q := 1374) hX dL_law_1373 0 rfl rfl ?_
      refine V_iload_n (q := 1375) hX dL_law_1374 3 rfl rfl ?_
      refine V_iconst (v := 2) (q := 1376) hX dL_law_1375 (by decide) rfl ?_
      refine V_iadd (q := 1377) hX dL_law_1376 rfl ?_
      obtain ⟨z1807, h⟩ := chk_t h
      refine V_sld (q := 1378) hX hSc z1807 dL_law_1377 rfl ?_
      refine V_aload_n (q := 1379) hX dL_law_1378 0 rfl rfl ?_
      refine V_iload_n (q := 1380) hX dL_law_1379 3 rfl rfl ?_
      refine V_iconst (v := 3) (q := 1381) hX dL_law_1380 (by decide) rfl ?_
      refine V_iadd (q := 1382) hX dL_law_1381 rfl ?_
      obtain ⟨z1808, h⟩ := chk_t h
      refine V_sld (q := 1383) hX hSc z1808 dL_law_1382 rfl ?_
      refine V_aload_n (q := 1384) hX dL_law_1383 0 rfl rfl ?_
      refine V_iload_n (q := 1385) hX dL_law_1384 3 rfl rfl ?_
      refine V_iconst (v := 4) (q := 1386) hX dL_law_1385 (by decide) rfl ?_
      refine V_iadd (q := 1387) hX dL_law_1386 rfl ?_
      obtain ⟨z1809, h⟩ := chk_t h
      refine V_sld (q := 1388) hX hSc z1809 dL_law_1387 rfl ?_
      refine V_aload_n (q := 1389) hX dL_law_1388 0 rfl rfl ?_
      refine V_iload_n (q := 1390) hX dL_law_1389 3 rfl rfl ?_
      refine V_iconst (v := 5) (q := 1391) hX dL_law_1390 (by decide) rfl ?_
      refine V_iadd (q := 1392) hX dL_law_1391 rfl ?_
      obtain ⟨z1810, h⟩ := chk_t h
      refine V_sld (q := 1393) hX hSc z1810 dL_law_1392 rfl ?_
      obtain ⟨r1812, σ1811, e1813, h⟩ := bnd_some h
      refine V_cvJ (n := 95) (c := 9) (nf := 39) (C := RX9) (T := TX9) (As := [.int ((xs ((x3 + (1 : Int32))).toNatClampNeg)), .int ((xs ((x3 + (2 : Int32))).toNatClampNeg)), .int ((xs ((x3 + (3 : Int32))).toNatClampNeg)), .int ((xs ((x3 + (4 : Int32))).toNatClampNeg)), .int ((xs ((x3 + (5 : Int32))).toNatClampNeg))]) (q := 1396) hX (c9_odds hX.2.2.2.2.1 hN e1813) (goodV_of k6_29 k6_30 k6_31 k1_16 (cons_g k6_32)) (nA := 5) (by decide) rfl rfl rfl rfl rfl ⟨rfl, by decide⟩ hN rfl rfl rfl dL_law_1393 rfl ?_
      refine V_lcmp (q := 1397) hX dL_law_1396 rfl ?_
      refine V_if_eq (q := 1400) (t := 1663) hX dL_law_1397 (by decide) rfl (fun z1814 => ?_) (fun z1814 => ?_)
      · have h := ite_t z1814 h
        refine V.pick [0, 1, 2, 3] rfl ?_
        exact vL_law_1663 hX hN hSc hQ ih x3 σ1811 h
      have h := ite_f z1814 h
      refine V_iconst (v := 0) (q := 1401) hX dL_law_1400 (by decide) rfl ?_
      obtain ⟨f1, f2⟩ := some2 h
      rw [f1] at hQ
      exact V_lawret hX hQ rfl dL_law_1401
    have h := ite_f z1797 h
    by_cases z1815 : ((xs (x3).toNatClampNeg) &&& (63 : Int32)) = 26
    · have h := ite_t z1815 h
      refine V_tsw (q := 1402) (off := 1369) hX dL_law_33 (by rw [z1815]; decide) (by rw [z1815]; decide) (by rw [z1815]; decide) (by decide) ?_
      refine V_aload_n (q := 1403) hX dL_law_1402 1 rfl rfl ?_
      obtain ⟨r1817, σ1816, e1818, h⟩ := bnd_some h
      refine V_cvI (n := 75) (c := 8) (nf := 11) (C := RX8) (T := TX8) (As := []) (q := 1406) hX (c8_image hX.2.2.2.2.1 (Nat.le_trans (by decide) hN) e1818) (goodV_of k4_92 k4_93 k4_94 k1_1 (cons_g k4_95)) (nA := 0) (by decide) rfl rfl rfl rfl rfl ⟨rfl, by decide⟩ (Nat.le_trans (by decide) hN) rfl rfl rfl dL_law_1403 rfl ?_
      refine V_aload_n (q := 1407) hX dL_law_1406 2 rfl rfl ?_
      obtain ⟨r1820, σ1819, e1821, h⟩ := bnd_some h
      refine V_cvI (n := 95) (c := 9) (nf := 39) (C := RX9) (T := TX9) (As := []) (q := 1410) hX (c9_image hX.2.2.2.2.1 hN e1821) (goodV_of k6_33 k6_34 k6_35 k1_16 (cons_g k6_36)) (nA := 0) (by decide) rfl rfl rfl rfl rfl ⟨rfl, by decide⟩ hN rfl rfl rfl dL_law_1407 rfl ?_
      refine V_icmp_eq (q := 1413) (t := 1663) hX dL_law_1410 (by decide) rfl (fun z1822 => ?_) (fun z1822 => ?_)
      · have h := ite_t z1822 h
        refine V.pick [0, 1, 2, 3] rfl ?_
        exact vL_law_1663 hX hN hSc hQ ih x3 σ1819 h
      have h := ite_f z1822 h
      refine V_iconst (v := 0) (q := 1414) hX dL_law_1413 (by decide) rfl ?_
      obtain ⟨f1, f2⟩ := some2 h
      rw [f1] at hQ
      exact V_lawret hX hQ rfl dL_law_1414
    have h := ite_f z1815 h
    by_cases z1823 : ((xs (x3).toNatClampNeg) &&& (63 : Int32)) = 27
    · have h := ite_t z1823 h
      refine V_tsw (q := 1415) (off := 1382) hX dL_law_33 (by rw [z1823]; decide) (by rw [z1823]; decide) (by rw [z1823]; decide) (by decide) ?_
      refine V_aload_n (q := 1416) hX dL_law_1415 1 rfl rfl ?_
      obtain ⟨r1825, σ1824, e1826, h⟩ := bnd_some h
      refine V_cvI (n := 75) (c := 8) (nf := 11) (C := RX8) (T := TX8) (As := []) (q := 1419) hX (c8_back hX.2.2.2.2.1 (Nat.le_trans (by decide) hN) e1826) (goodV_of k4_96 k4_97 k4_98 k1_1 (cons_g k4_99)) (nA := 0) (by decide) rfl rfl rfl rfl rfl ⟨rfl, by decide⟩ (Nat.le_trans (by decide) hN) rfl rfl rfl dL_law_1416 rfl ?_
      refine V_aload_n (q := 1420) hX dL_law_1419 2 rfl rfl ?_
      obtain ⟨r1828, σ1827, e1829, h⟩ := bnd_some h
      refine V_cvI (n := 95) (c := 9) (nf := 39) (C := RX9) (T := TX9) (As := []) (q := 1423) hX (c9_back hX.2.2.2.2.1 hN e1829) (goodV_of k6_37 k6_38 k6_39 k1_16 (cons_g k6_40)) (nA := 0) (by decide) rfl rfl rfl rfl rfl ⟨rfl, by decide⟩ hN rfl rfl rfl dL_law_1420 rfl ?_
      refine V_icmp_eq (q := 1426) (t := 1663) hX dL_law_1423 (by decide) rfl (fun z1830 => ?_) (fun z1830 => ?_)
      · have h := ite_t z1830 h
        refine V.pick [0, 1, 2, 3] rfl ?_
        exact vL_law_1663 hX hN hSc hQ ih x3 σ1827 h
      have h := ite_f z1830 h
      refine V_iconst (v := 0) (q := 1427) hX dL_law_1426 (by decide) rfl ?_
      obtain ⟨f1, f2⟩ := some2 h
      rw [f1] at hQ
      exact V_lawret hX hQ rfl dL_law_1427
    have h := ite_f z1823 h
    by_cases z1831 : ((xs (x3).toNatClampNeg) &&& (63 : Int32)) = 28
    · have h := ite_t z1831 h
      refine V_tsw (q := 1428) (off := 1395) hX dL_law_33 (by rw [z1831]; decide) (by rw [z1831]; decide) (by rw [z1831]; decide) (by decide) ?_
      refine V_aload_n (q := 1429) hX dL_law_1428 1 rfl rfl ?_
      refine V_aload_n (q := 1430) hX dL_law_1429 0 rfl rfl ?_
      refine V_iload_n (q := 1431) hX dL_law_1430 3 rfl rfl ?_
      refine V_iconst (v := 1) (q := 1432) hX dL_law_1431 (by decide) rfl ?_
      refine V_iadd (q := 1433) hX dL_law_1432 rfl ?_
      obtain ⟨z1832, h⟩ := chk_t h
      refine V_sld (q := 1434) hX hSc z1832 dL_law_1433 rfl ?_
      refine V_aload_n (q := 1435) hX dL_law_1434 0 rfl rfl ?_
      refine V_iload_n (q := 1436) hX dL_law_1435 3 rfl rfl ?_
      refine V_iconst (v := 2) (q := 1437) hX dL_law_1436 (by decide) rfl ?_
      refine V_iadd (q := 1438) hX dL_law_1437 rfl ?_
      obtain ⟨z1833, h⟩ := chk_t h
      refine V_sld (q := 1439) hX hSc z1833 dL_law_1438 rfl ?_
      refine V_aload_n (q := 1440) hX dL_law_1439 0 rfl rfl ?_
      refine V_iload_n (q := 1441) hX dL_law_1440 3 rfl rfl ?_
      refine V_iconst (v := 3) (q := 1442) hX dL_law_1441 (by decide) rfl ?_
      refine V_iadd (q := 1443) hX dL_law_1442 rfl ?_
      obtain ⟨z1834, h⟩ := chk_t h
      refine V_sld (q := 1444) hX hSc z1834 dL_law_1443 rfl ?_
      obtain ⟨r1836, σ1835, e1837, h⟩ := bnd_some h
      refine V_cvI (n := 75) (c := 8) (nf := 11) (C := RX8) (T := TX8) (As := [.int ((xs ((x3 + (1 : Int32))).toNatClampNeg)), .int ((xs ((x3 + (2 : Int32))).toNatClampNeg)), .int ((xs ((x3 + (3 : Int32))).toNatClampNeg))]) (q := 1447) hX (c8_sheet hX.2.2.2.2.1 (Nat.le_trans (by decide) hN) e1837) (goodV_of k4_100 k4_101 k4_102 k1_1 (cons_g k4_103)) (nA := 3) (by decide) rfl rfl rfl rfl rfl ⟨rfl, by decide⟩ (Nat.le_trans (by decide) hN) rfl rfl rfl dL_law_1444 rfl ?_
      refine V_aload_n (q := 1448) hX dL_law_1447 2 rfl rfl ?_
      refine V_aload_n (q := 1449) hX dL_law_1448 0 rfl rfl ?_
      refine V_iload_n (q := 1450) hX dL_law_1449 3 rfl rfl ?_
      refine V_iconst (v := 1) (q := 1451) hX dL_law_1450 (by decide) rfl ?_
      refine V_iadd (q := 1452) hX dL_law_1451 rfl ?_
      obtain ⟨z1838, h⟩ := chk_t h
      refine V_sld (q := 1453) hX hSc z1838 dL_law_1452 rfl ?_
      refine V_aload_n (q := 1454) hX dL_law_1453 0 rfl rfl ?_
      refine V_iload_n (q := 1455) hX dL_law_1454 3 rfl rfl ?_
      refine V_iconst (v := 2) (q := 1456) hX dL_law_1455 (by decide) rfl ?_
      refine V_iadd (q := 1457) hX dL_law_1456 rfl ?_
      obtain ⟨z1839, h⟩ := chk_t h
      refine V_sld (q := 1458) hX hSc z1839 dL_law_1457 rfl ?_
      refine V_aload_n (q := 1459) hX dL_law_1458 0 rfl rfl ?_
      refine V_iload_n (q := 1460) hX dL_law_1459 3 rfl rfl ?_
      refine V_iconst (v := 3) (q := 1461) hX dL_law_1460 (by decide) rfl ?_
      refine V_iadd (q := 1462) hX dL_law_1461 rfl ?_
      obtain ⟨z1840, h⟩ := chk_t h
      refine V_sld (q := 1463) hX hSc z1840 dL_law_1462 rfl ?_
      obtain ⟨r1842, σ1841, e1843, h⟩ := bnd_some h
      refine V_cvI (n := 95) (c := 9) (nf := 39) (C := RX9) (T := TX9) (As := [.int ((xs ((x3 + (1 : Int32))).toNatClampNeg)), .int ((xs ((x3 + (2 : Int32))).toNatClampNeg)), .int ((xs ((x3 + (3 : Int32))).toNatClampNeg))]) (q := 1466) hX (c9_sheet hX.2.2.2.2.1 hN e1843) (goodV_of k6_41 k6_42 k6_43 k1_16 (cons_g k6_44)) (nA := 3) (by decide) rfl rfl rfl rfl rfl ⟨rfl, by decide⟩ hN rfl rfl rfl dL_law_1463 rfl ?_
      refine V_icmp_eq (q := 1469) (t := 1663) hX dL_law_1466 (by decide) rfl (fun z1844 => ?_) (fun z1844 => ?_)
      · have h := ite_t z1844 h
        refine V.pick [0, 1, 2, 3] rfl ?_
        exact vL_law_1663 hX hN hSc hQ ih x3 σ1841 h
      have h := ite_f z1844 h
      refine V_iconst (v := 0) (q := 1470) hX dL_law_1469 (by decide) rfl ?_
      obtain ⟨f1, f2⟩ := some2 h
      rw [f1] at hQ
      exact V_lawret hX hQ rfl dL_law_1470
    have h := ite_f z1831 h
    by_cases z1845 : ((xs (x3).toNatClampNeg) &&& (63 : Int32)) = 29
    · have h := ite_t z1845 h
      refine V_tsw (q := 1471) (off := 1438) hX dL_law_33 (by rw [z1845]; decide) (by rw [z1845]; decide) (by rw [z1845]; decide) (by decide) ?_
      refine V_aload_n (q := 1472) hX dL_law_1471 1 rfl rfl ?_
      refine V_aload_n (q := 1473) hX dL_law_1472 0 rfl rfl ?_
      refine V_iload_n (q := 1474) hX dL_law_1473 3 rfl rfl ?_
      refine V_iconst (v := 1) (q := 1475) hX dL_law_1474 (by decide) rfl ?_
      refine V_iadd (q := 1476) hX dL_law_1475 rfl ?_
      obtain ⟨z1846, h⟩ := chk_t h
      refine V_sld (q := 1477) hX hSc z1846 dL_law_1476 rfl ?_
      refine V_aload_n (q := 1478) hX dL_law_1477 0 rfl rfl ?_
      refine V_iload_n (q := 1479) hX dL_law_1478 3 rfl rfl ?_
      refine V_iconst (v := 2) (q := 1480) hX dL_law_1479 (by decide) rfl ?_
      refine V_iadd (q := 1481) hX dL_law_1480 rfl ?_
      obtain ⟨z1847, h⟩ := chk_t h
      refine V_sld (q := 1482) hX hSc z1847 dL_law_1481 rfl ?_
      refine V_aload_n (q := 1483) hX dL_law_1482 0 rfl rfl ?_
      refine V_iload_n (q := 1484) hX dL_law_1483 3 rfl rfl ?_
      refine V_iconst (v := 3) (q := 1485) hX dL_law_1484 (by decide) rfl ?_
      refine V_iadd (q := 1486) hX dL_law_1485 rfl ?_
      obtain ⟨z1848, h⟩ := chk_t h
      refine V_sld (q := 1487) hX hSc z1848 dL_law_1486 rfl ?_
      obtain ⟨r1850, σ1849, e1851, h⟩ := bnd_some h
      refine V_cvI (n := 75) (c := 8) (nf := 11) (C := RX8) (T := TX8) (As := [.int ((xs ((x3 + (1 : Int32))).toNatClampNeg)), .int ((xs ((x3 + (2 : Int32))).toNatClampNeg)), .int ((xs ((x3 + (3 : Int32))).toNatClampNeg))]) (q := 1490) hX (c8_cell hX.2.2.2.2.1 (Nat.le_trans (by decide) hN) e1851) (goodV_of k4_104 k4_105 k4_106 k1_1 (cons_g k4_107)) (nA := 3) (by decide) rfl rfl rfl rfl rfl ⟨rfl, by decide⟩ (Nat.le_trans (by decide) hN) rfl rfl rfl dL_law_1487 rfl ?_
      refine V_aload_n (q := 1491) hX dL_law_1490 2 rfl rfl ?_
      refine V_aload_n (q := 1492) hX dL_law_1491 0 rfl rfl ?_
      refine V_iload_n (q := 1493) hX dL_law_1492 3 rfl rfl ?_
      refine V_iconst (v := 1) (q := 1494) hX dL_law_1493 (by decide) rfl ?_
      refine V_iadd (q := 1495) hX dL_law_1494 rfl ?_
      obtain ⟨z1852, h⟩ := chk_t h
      refine V_sld (q := 1496) hX hSc z1852 dL_law_1495 rfl ?_
      refine V_aload_n (q := 1497) hX dL_law_1496 0 rfl rfl ?_
      refine V_iload_n (q := 1498) hX dL_law_1497 3 rfl rfl ?_
      refine V_iconst (v := 2) (q := 1499) hX dL_law_1498 (by decide) rfl ?_
      refine V_iadd (q := 1500) hX dL_law_1499 rfl ?_
      obtain ⟨z1853, h⟩ := chk_t h
      refine V_sld (q := 1501) hX hSc z1853 dL_law_1500 rfl ?_
      refine V_aload_n (q := 1502) hX dL_law_1501 0 rfl rfl ?_
      refine V_iload_n (q := 1503) hX dL_law_1502 3 rfl rfl ?_
      refine V_iconst (v := 3) (q := 1504) hX dL_law_1503 (by decide) rfl ?_
      refine V_iadd (q := 1505) hX dL_law_1504 rfl ?_
      obtain ⟨z1854, h⟩ := chk_t h
      refine V_sld (q := 1506) hX hSc z1854 dL_law_1505 rfl ?_
      obtain ⟨r1856, σ1855, e1857, h⟩ := bnd_some h
      refine V_cvI (n := 95) (c := 9) (nf := 39) (C := RX9) (T := TX9) (As := [.int ((xs ((x3 + (1 : Int32))).toNatClampNeg)), .int ((xs ((x3 + (2 : Int32))).toNatClampNeg)), .int ((xs ((x3 + (3 : Int32))).toNatClampNeg))]) (q := 1509) hX (c9_cell hX.2.2.2.2.1 hN e1857) (goodV_of k6_45 k6_46 k6_47 k1_16 (cons_g k6_48)) (nA := 3) (by decide) rfl rfl rfl rfl rfl ⟨rfl, by decide⟩ hN rfl rfl rfl dL_law_1506 rfl ?_
      refine V_icmp_eq (q := 1512) (t := 1663) hX dL_law_1509 (by decide) rfl (fun z1858 => ?_) (fun z1858 => ?_)
      · have h := ite_t z1858 h
        refine V.pick [0, 1, 2, 3] rfl ?_
        exact vL_law_1663 hX hN hSc hQ ih x3 σ1855 h
      have h := ite_f z1858 h
      refine V_iconst (v := 0) (q := 1513) hX dL_law_1512 (by decide) rfl ?_
      obtain ⟨f1, f2⟩ := some2 h
      rw [f1] at hQ
      exact V_lawret hX hQ rfl dL_law_1513
    have h := ite_f z1845 h
    by_cases z1859 : ((xs (x3).toNatClampNeg) &&& (63 : Int32)) = 30
    · have h := ite_t z1859 h
      refine V_tsw (q := 1514) (off := 1481) hX dL_law_33 (by rw [z1859]; decide) (by rw [z1859]; decide) (by rw [z1859]; decide) (by decide) ?_
      refine V_aload_n (q := 1515) hX dL_law_1514 1 rfl rfl ?_
      refine V_aload_n (q := 1516) hX dL_law_1515 0 rfl rfl ?_
      refine V_iload_n (q := 1517) hX dL_law_1516 3 rfl rfl ?_
      refine V_iconst (v := 1) (q := 1518) hX dL_law_1517 (by decide) rfl ?_
      refine V_iadd (q := 1519) hX dL_law_1518 rfl ?_
      obtain ⟨z1860, h⟩ := chk_t h
      refine V_sld (q := 1520) hX hSc z1860 dL_law_1519 rfl ?_
      refine V_aload_n (q := 1521) hX dL_law_1520 0 rfl rfl ?_
      refine V_iload_n (q := 1522) hX dL_law_1521 3 rfl rfl ?_
      refine V_iconst (v := 2) (q := 1523) hX dL_law_1522 (by decide) rfl ?_
      refine V_iadd (q := 1524) hX dL_law_1523 rfl ?_
      obtain ⟨z1861, h⟩ := chk_t h
      refine V_sld (q := 1525) hX hSc z1861 dL_law_1524 rfl ?_
      refine V_aload_n (q := 1526) hX dL_law_1525 0 rfl rfl ?_
      refine V_iload_n (q := 1527) hX dL_law_1526 3 rfl rfl ?_
      refine V_iconst (v := 3) (q := 1528) hX dL_law_1527 (by decide) rfl ?_
      refine V_iadd (q := 1529) hX dL_law_1528 rfl ?_
      obtain ⟨z1862, h⟩ := chk_t h
      refine V_sld (q := 1530) hX hSc z1862 dL_law_1529 rfl ?_
      refine V_aload_n (q := 1531) hX dL_law_1530 0 rfl rfl ?_
      refine V_iload_n (q := 1532) hX dL_law_1531 3 rfl rfl ?_
      refine V_iconst (v := 4) (q := 1533) hX dL_law_1532 (by decide) rfl ?_
      refine V_iadd (q := 1534) hX dL_law_1533 rfl ?_
      obtain ⟨z1863, h⟩ := chk_t h
      refine V_sld (q := 1535) hX hSc z1863 dL_law_1534 rfl ?_
      refine V_aload_n (q := 1536) hX dL_law_1535 0 rfl rfl ?_
      refine V_iload_n (q := 1537) hX dL_law_1536 3 rfl rfl ?_
      refine V_iconst (v := 5) (q := 1538) hX dL_law_1537 (by decide) rfl ?_
      refine V_iadd (q := 1539) hX dL_law_1538 rfl ?_
      obtain ⟨z1864, h⟩ := chk_t h
      refine V_sld (q := 1540) hX hSc z1864 dL_law_1539 rfl ?_
      obtain ⟨r1866, σ1865, e1867, h⟩ := bnd_some h
      refine V_cvI (n := 75) (c := 8) (nf := 11) (C := RX8) (T := TX8) (As := [.int ((xs ((x3 + (1 : Int32))).toNatClampNeg)), .int ((xs ((x3 + (2 : Int32))).toNatClampNeg)), .int ((xs ((x3 + (3 : Int32))).toNatClampNeg)), .int ((xs ((x3 + (4 : Int32))).toNatClampNeg)), .int ((xs ((x3 + (5 : Int32))).toNatClampNeg))]) (q := 1543) hX (c8_copy hX.2.2.2.2.1 (Nat.le_trans (by decide) hN) e1867) (goodV_of k4_112 k4_113 k4_114 k1_1 (cons_g k4_115)) (nA := 5) (by decide) rfl rfl rfl rfl rfl ⟨rfl, by decide⟩ (Nat.le_trans (by decide) hN) rfl rfl rfl dL_law_1540 rfl ?_
      refine V_aload_n (q := 1544) hX dL_law_1543 2 rfl rfl ?_
      refine V_aload_n (q := 1545) hX dL_law_1544 0 rfl rfl ?_
      refine V_iload_n (q := 1546) hX dL_law_1545 3 rfl rfl ?_
      refine V_iconst (v := 1) (q := 1547) hX dL_law_1546 (by decide) rfl ?_
      refine V_iadd (q := 1548) hX dL_law_1547 rfl ?_
      obtain ⟨z1868, h⟩ := chk_t h
      refine V_sld (q := 1549) hX hSc z1868 dL_law_1548 rfl ?_
      refine V_aload_n (q := 1550) hX dL_law_1549 0 rfl rfl ?_
      refine V_iload_n (q := 1551) hX dL_law_1550 3 rfl rfl ?_
      refine V_iconst (v := 2) (q := 1552) hX dL_law_1551 (by decide) rfl ?_
      refine V_iadd (q := 1553) hX dL_law_1552 rfl ?_
      obtain ⟨z1869, h⟩ := chk_t h
      refine V_sld (q := 1554) hX hSc z1869 dL_law_1553 rfl ?_
      refine V_aload_n (q := 1555) hX dL_law_1554 0 rfl rfl ?_
      refine V_iload_n (q := 1556) hX dL_law_1555 3 rfl rfl ?_
      refine V_iconst (v := 3) (q := 1557) hX dL_law_1556 (by decide) rfl ?_
      refine V_iadd (q := 1558) hX dL_law_1557 rfl ?_
      obtain ⟨z1870, h⟩ := chk_t h
      refine V_sld (q := 1559) hX hSc z1870 dL_law_1558 rfl ?_
      refine V_aload_n (q := 1560) hX dL_law_1559 0 rfl rfl ?_
      refine V_iload_n (q := 1561) hX dL_law_1560 3 rfl rfl ?_
      refine V_iconst (v := 4) (q := 1562) hX dL_law_1561 (by decide) rfl ?_
      refine V_iadd (q := 1563) hX dL_law_1562 rfl ?_
      obtain ⟨z1871, h⟩ := chk_t h
      refine V_sld (q := 1564) hX hSc z1871 dL_law_1563 rfl ?_
      refine V_aload_n (q := 1565) hX dL_law_1564 0 rfl rfl ?_
      refine V_iload_n (q := 1566) hX dL_law_1565 3 rfl rfl ?_
      refine V_iconst (v := 5) (q := 1567) hX dL_law_1566 (by decide) rfl ?_
      refine V_iadd (q := 1568) hX dL_law_1567 rfl ?_
      obtain ⟨z1872, h⟩ := chk_t h
      refine V_sld (q := 1569) hX hSc z1872 dL_law_1568 rfl ?_
      obtain ⟨r1874, σ1873, e1875, h⟩ := bnd_some h
      refine V_cvI (n := 95) (c := 9) (nf := 39) (C := RX9) (T := TX9) (As := [.int ((xs ((x3 + (1 : Int32))).toNatClampNeg)), .int ((xs ((x3 + (2 : Int32))).toNatClampNeg)), .int ((xs ((x3 + (3 : Int32))).toNatClampNeg)), .int ((xs ((x3 + (4 : Int32))).toNatClampNeg)), .int ((xs ((x3 + (5 : Int32))).toNatClampNeg))]) (q := 1572) hX (c9_copy hX.2.2.2.2.1 hN e1875) (goodV_of k6_49 k6_50 k6_51 k1_16 (cons_g k6_52)) (nA := 5) (by decide) rfl rfl rfl rfl rfl ⟨rfl, by decide⟩ hN rfl rfl rfl dL_law_1569 rfl ?_
      refine V_icmp_eq (q := 1575) (t := 1663) hX dL_law_1572 (by decide) rfl (fun z1876 => ?_) (fun z1876 => ?_)
      · have h := ite_t z1876 h
        refine V.pick [0, 1, 2, 3] rfl ?_
        exact vL_law_1663 hX hN hSc hQ ih x3 σ1873 h
      have h := ite_f z1876 h
      refine V_iconst (v := 0) (q := 1576) hX dL_law_1575 (by decide) rfl ?_
      obtain ⟨f1, f2⟩ := some2 h
      rw [f1] at hQ
      exact V_lawret hX hQ rfl dL_law_1576
    have h := ite_f z1859 h
    by_cases z1877 : ((xs (x3).toNatClampNeg) &&& (63 : Int32)) = 31
    · have h := ite_t z1877 h
      refine V_tsw (q := 1577) (off := 1544) hX dL_law_33 (by rw [z1877]; decide) (by rw [z1877]; decide) (by rw [z1877]; decide) (by decide) ?_
      refine V_aload_n (q := 1578) hX dL_law_1577 1 rfl rfl ?_
      refine V_aload_n (q := 1579) hX dL_law_1578 0 rfl rfl ?_
      refine V_iload_n (q := 1580) hX dL_law_1579 3 rfl rfl ?_
      refine V_iconst (v := 1) (q := 1581) hX dL_law_1580 (by decide) rfl ?_
      refine V_iadd (q := 1582) hX dL_law_1581 rfl ?_
      obtain ⟨z1878, h⟩ := chk_t h
      refine V_sld (q := 1583) hX hSc z1878 dL_law_1582 rfl ?_
      refine V_aload_n (q := 1584) hX dL_law_1583 0 rfl rfl ?_
      refine V_iload_n (q := 1585) hX dL_law_1584 3 rfl rfl ?_
      refine V_iconst (v := 2) (q := 1586) hX dL_law_1585 (by decide) rfl ?_
      refine V_iadd (q := 1587) hX dL_law_1586 rfl ?_
      obtain ⟨z1879, h⟩ := chk_t h
      refine V_sld (q := 1588) hX hSc z1879 dL_law_1587 rfl ?_
      refine V_aload_n (q := 1589) hX dL_law_1588 0 rfl rfl ?_
      refine V_iload_n (q := 1590) hX dL_law_1589 3 rfl rfl ?_
      refine V_iconst (v := 3) (q := 1591) hX dL_law_1590 (by decide) rfl ?_
      refine V_iadd (q := 1592) hX dL_law_1591 rfl ?_
      obtain ⟨z1880, h⟩ := chk_t h
      refine V_sld (q := 1593) hX hSc z1880 dL_law_1592 rfl ?_
      refine V_aload_n (q := 1594) hX dL_law_1593 0 rfl rfl ?_
      refine V_iload_n (q := 1595) hX dL_law_1594 3 rfl rfl ?_
      refine V_iconst (v := 4) (q := 1596) hX dL_law_1595 (by decide) rfl ?_
      refine V_iadd (q := 1597) hX dL_law_1596 rfl ?_
      obtain ⟨z1881, h⟩ := chk_t h
      refine V_sld (q := 1598) hX hSc z1881 dL_law_1597 rfl ?_
      obtain ⟨r1883, σ1882, e1884, h⟩ := bnd_some h
      refine V_cvI (n := 75) (c := 8) (nf := 11) (C := RX8) (T := TX8) (As := [.int ((xs ((x3 + (1 : Int32))).toNatClampNeg)), .int ((xs ((x3 + (2 : Int32))).toNatClampNeg)), .int ((xs ((x3 + (3 : Int32))).toNatClampNeg)), .int ((xs ((x3 + (4 : Int32))).toNatClampNeg))]) (q := 1601) hX (c8_menBy hX.2.2.2.2.1 (Nat.le_trans (by decide) hN) e1884) (goodV_of k4_119 k4_120 k4_121 k1_1 (cons_g k4_122)) (nA := 4) (by decide) rfl rfl rfl rfl rfl ⟨rfl, by decide⟩ (Nat.le_trans (by decide) hN) rfl rfl rfl dL_law_1598 rfl ?_
      refine V_aload_n (q := 1602) hX dL_law_1601 2 rfl rfl ?_
      refine V_aload_n (q := 1603) hX dL_law_1602 0 rfl rfl ?_
      refine V_iload_n (q := 1604) hX dL_law_1603 3 rfl rfl ?_
      refine V_iconst (v := 1) (q := 1605) hX dL_law_1604 (by decide) rfl ?_
      refine V_iadd (q := 1606) hX dL_law_1605 rfl ?_
      obtain ⟨z1885, h⟩ := chk_t h
      refine V_sld (q := 1607) hX hSc z1885 dL_law_1606 rfl ?_
      refine V_aload_n (q := 1608) hX dL_law_1607 0 rfl rfl ?_
      refine V_iload_n (q := 1609) hX dL_law_1608 3 rfl rfl ?_
      refine V_iconst (v := 2) (q := 1610) hX dL_law_1609 (by decide) rfl ?_
      refine V_iadd (q := 1611) hX dL_law_1610 rfl ?_
      obtain ⟨z1886, h⟩ := chk_t h
      refine V_sld (q := 1612) hX hSc z1886 dL_law_1611 rfl ?_
      refine V_aload_n (q := 1613) hX dL_law_1612 0 rfl rfl ?_
      refine V_iload_n (q := 1614) hX dL_law_1613 3 rfl rfl ?_
      refine V_iconst (v := 3) (q := 1615) hX dL_law_1614 (by decide) rfl ?_
      refine V_iadd (q := 1616) hX dL_law_1615 rfl ?_
      obtain ⟨z1887, h⟩ := chk_t h
      refine V_sld (q := 1617) hX hSc z1887 dL_law_1616 rfl ?_
      refine V_aload_n (q := 1618) hX dL_law_1617 0 rfl rfl ?_
      refine V_iload_n (q := 1619) hX dL_law_1618 3 rfl rfl ?_
      refine V_iconst (v := 4) (q := 1620) hX dL_law_1619 (by decide) rfl ?_
      refine V_iadd (q := 1621) hX dL_law_1620 rfl ?_
      obtain ⟨z1888, h⟩ := chk_t h
      refine V_sld (q := 1622) hX hSc z1888 dL_law_1621 rfl ?_
      obtain ⟨r1890, σ1889, e1891, h⟩ := bnd_some h
      refine V_cvI (n := 95) (c := 9) (nf := 39) (C := RX9) (T := TX9) (As := [.int ((xs ((x3 + (1 : Int32))).toNatClampNeg)), .int ((xs ((x3 + (2 : Int32))).toNatClampNeg)), .int ((xs ((x3 + (3 : Int32))).toNatClampNeg)), .int ((xs ((x3 + (4 : Int32))).toNatClampNeg))]) (q := 1625) hX (c9_menBy hX.2.2.2.2.1 hN e1891) (goodV_of k6_53 k6_54 k6_55 k1_16 (cons_g k6_56)) (nA := 4) (by decide) rfl rfl rfl rfl rfl ⟨rfl, by decide⟩ hN rfl rfl rfl dL_law_1622 rfl ?_
      refine V_icmp_eq (q := 1628) (t := 1663) hX dL_law_1625 (by decide) rfl (fun z1892 => ?_) (fun z1892 => ?_)
      · have h := ite_t z1892 h
        refine V.pick [0, 1, 2, 3] rfl ?_
        exact vL_law_1663 hX hN hSc hQ ih x3 σ1889 h
      have h := ite_f z1892 h
      refine V_iconst (v := 0) (q := 1629) hX dL_law_1628 (by decide) rfl ?_
      obtain ⟨f1, f2⟩ := some2 h
      rw [f1] at hQ
      exact V_lawret hX hQ rfl dL_law_1629
    have h := ite_f z1877 h
    by_cases z1893 : ((xs (x3).toNatClampNeg) &&& (63 : Int32)) = 32
    · have h := ite_t z1893 h
      refine V_tsw (q := 1630) (off := 1597) hX dL_law_33 (by rw [z1893]; decide) (by rw [z1893]; decide) (by rw [z1893]; decide) (by decide) ?_
      refine V_aload_n (q := 1631) hX dL_law_1630 1 rfl rfl ?_
      refine V_aload_n (q := 1632) hX dL_law_1631 0 rfl rfl ?_
      refine V_iload_n (q := 1633) hX dL_law_1632 3 rfl rfl ?_
      refine V_iconst (v := 1) (q := 1634) hX dL_law_1633 (by decide) rfl ?_
      refine V_iadd (q := 1635) hX dL_law_1634 rfl ?_
      obtain ⟨z1894, h⟩ := chk_t h
      refine V_sld (q := 1636) hX hSc z1894 dL_law_1635 rfl ?_
      refine V_aload_n (q := 1637) hX dL_law_1636 0 rfl rfl ?_
      refine V_iload_n (q := 1638) hX dL_law_1637 3 rfl rfl ?_
      refine V_iconst (v := 2) (q := 1639) hX dL_law_1638 (by decide) rfl ?_
      refine V_iadd (q := 1640) hX dL_law_1639 rfl ?_
      obtain ⟨z1895, h⟩ := chk_t h
      refine V_sld (q := 1641) hX hSc z1895 dL_law_1640 rfl ?_
      obtain ⟨r1897, σ1896, e1898, h⟩ := bnd_some h
      refine V_cvI (n := 75) (c := 8) (nf := 11) (C := RX8) (T := TX8) (As := [.int ((xs ((x3 + (1 : Int32))).toNatClampNeg)), .int ((xs ((x3 + (2 : Int32))).toNatClampNeg))]) (q := 1644) hX (c8_taken hX.2.2.2.2.1 (Nat.le_trans (by decide) hN) e1898) (goodV_of k4_124 k4_125 k4_126 k1_1 (cons_g k4_127)) (nA := 2) (by decide) rfl rfl rfl rfl rfl ⟨rfl, by decide⟩ (Nat.le_trans (by decide) hN) rfl rfl rfl dL_law_1641 rfl ?_
      refine V_aload_n (q := 1645) hX dL_law_1644 2 rfl rfl ?_
      refine V_aload_n (q := 1646) hX dL_law_1645 0 rfl rfl ?_
      refine V_iload_n (q := 1647) hX dL_law_1646 3 rfl rfl ?_
      refine V_iconst (v := 1) (q := 1648) hX dL_law_1647 (by decide) rfl ?_
      refine V_iadd (q := 1649) hX dL_law_1648 rfl ?_
      obtain ⟨z1899, h⟩ := chk_t h
      refine V_sld (q := 1650) hX hSc z1899 dL_law_1649 rfl ?_
      refine V_aload_n (q := 1651) hX dL_law_1650 0 rfl rfl ?_
      refine V_iload_n (q := 1652) hX dL_law_1651 3 rfl rfl ?_
      refine V_iconst (v := 2) (q := 1653) hX dL_law_1652 (by decide) rfl ?_
      refine V_iadd (q := 1654) hX dL_law_1653 rfl ?_
      obtain ⟨z1900, h⟩ := chk_t h
      refine V_sld (q := 1655) hX hSc z1900 dL_law_1654 rfl ?_
      obtain ⟨r1902, σ1901, e1903, h⟩ := bnd_some h
      refine V_cvI (n := 95) (c := 9) (nf := 39) (C := RX9) (T := TX9) (As := [.int ((xs ((x3 + (1 : Int32))).toNatClampNeg)), .int ((xs ((x3 + (2 : Int32))).toNatClampNeg))]) (q := 1658) hX (c9_taken hX.2.2.2.2.1 hN e1903) (goodV_of k6_58 k6_59 k6_60 k1_16 (cons_g k6_61)) (nA := 2) (by decide) rfl rfl rfl rfl rfl ⟨rfl, by decide⟩ hN rfl rfl rfl dL_law_1655 rfl ?_
      refine V_icmp_eq (q := 1661) (t := 1663) hX dL_law_1658 (by decide) rfl (fun z1904 => ?_) (fun z1904 => ?_)
      · have h := ite_t z1904 h
        refine V.pick [0, 1, 2, 3] rfl ?_
        exact vL_law_1663 hX hN hSc hQ ih x3 σ1901 h
      have h := ite_f z1904 h
      refine V_iconst (v := 0) (q := 1662) hX dL_law_1661 (by decide) rfl ?_
      obtain ⟨f1, f2⟩ := some2 h
      rw [f1] at hQ
      exact V_lawret hX hQ rfl dL_law_1662
    have h := ite_f z1893 h
    refine V_tswD (q := 1663) hX dL_law_33 (by have y0 := neI (v := 0) (by decide) z1431; have y1 := neI (v := 1) (by decide) z1441; have y2 := neI (v := 2) (by decide) z1461; have y3 := neI (v := 3) (by decide) z1469; have y4 := neI (v := 4) (by decide) z1479; have y5 := neI (v := 5) (by decide) z1495; have y6 := neI (v := 6) (by decide) z1507; have y7 := neI (v := 7) (by decide) z1521; have y8 := neI (v := 8) (by decide) z1533; have y9 := neI (v := 9) (by decide) z1549; have y10 := neI (v := 10) (by decide) z1565; have y11 := neI (v := 11) (by decide) z1581; have y12 := neI (v := 12) (by decide) z1595; have y13 := neI (v := 13) (by decide) z1609; have y14 := neI (v := 14) (by decide) z1623; have y15 := neI (v := 15) (by decide) z1637; have y16 := neI (v := 16) (by decide) z1649; have y17 := neI (v := 17) (by decide) z1663; have y18 := neI (v := 18) (by decide) z1679; have y19 := neI (v := 19) (by decide) z1697; have y20 := neI (v := 20) (by decide) z1715; have y21 := neI (v := 21) (by decide) z1733; have y22 := neI (v := 22) (by decide) z1749; have y23 := neI (v := 23) (by decide) z1765; have y24 := neI (v := 24) (by decide) z1781; have y25 := neI (v := 25) (by decide) z1797; have y26 := neI (v := 26) (by decide) z1815; have y27 := neI (v := 27) (by decide) z1823; have y28 := neI (v := 28) (by decide) z1831; have y29 := neI (v := 29) (by decide) z1845; have y30 := neI (v := 30) (by decide) z1859; have y31 := neI (v := 31) (by decide) z1877; have y32 := neI (v := 32) (by decide) z1893; omega) (by decide) ?_
    refine V.pick [0, 1, 2, 3] rfl ?_
    exact vL_law_1663 hX hN hSc hQ ih x3 σ h
theorem vL_law_18 {g : GT} {X : XT} {xs : Nat → Int32} {L : Nat} (hX : OkX g X (mL)) (hN : 95 ≤ g.N) {b : Nat} (hSc : HScr g X b L xs) {res : Int32 × St} (hQ : QL g X res.1) (x3 : Int32) (σ : St) (h : SL_law_18 xs L 4096 x3 σ = some res) : V g X (mL) 18 [(0, .ref b), (1, .ref (g.ad (0))), (2, .ref (g.ad (75))), (3, .int (x3))] [] σ := vL_law_18n hX hN hSc hQ 4096 x3 σ h
set_option maxRecDepth 100000 in
set_option maxHeartbeats 8000000 in
theorem vL_law {g : GT} {X : XT} {xs : Nat → Int32} {L : Nat} (hX : OkX g X (mL)) (hN : 95 ≤ g.N) {b : Nat} (hSc : HScr g X b L xs) {res : Int32 × St} (hQ : QL g X res.1) {σ : St} (h : SL_law xs L σ = some res) : V g X (mL) 16 [(0, .ref b), (1, .ref (g.ad (0))), (2, .ref (g.ad (75)))] [] σ := by
  unfold SL_law at h
  refine V_iconst (v := 0) (q := 17) hX dL_law_16 (by decide) rfl ?_
  refine V_istore_n (lv' := [(3, .int ((0 : Int32))), (0, .ref b), (1, .ref (g.ad (0))), (2, .ref (g.ad (75)))]) (q := 18) hX dL_law_17 rfl rfl rfl ?_
  refine V.pick [1, 2, 3, 0] rfl ?_
  exact vL_law_18 hX hN hSc hQ (0 : Int32) σ h
