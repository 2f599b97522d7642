theorem k1361 : Cond.constant "DiscMaker$PartsReader" 56 61440 ∈ lw_g := lg_mem 1361 (by decide +kernel) rfl
theorem k1362 : Cond.constant "DiscMaker$PartsReader" 57 40960 ∈ lw_g := lg_mem 1362 (by decide +kernel) rfl
theorem k1363 : Cond.methodLink "DiscMaker$Reader" 161 ⟨"DiscMaker$Reader", "takeShortName", "(LDiscMaker$Found;I)Z"⟩ ∈ lw_g := lg_mem 1363 (by decide +kernel) rfl
theorem k1365 : Cond.instanceMethod ⟨"DiscMaker$Reader", "takeShortName", "(LDiscMaker$Found;I)Z"⟩ ∈ lw_g := lg_mem 1365 (by decide +kernel) rfl
theorem k1367 : Cond.methodLink "DiscMaker$Reader" 113 ⟨"DiscMaker$Reader", "describeRoot", "(I)I"⟩ ∈ lw_g := lg_mem 1367 (by decide +kernel) rfl
theorem k1369 : Cond.instanceMethod ⟨"DiscMaker$Reader", "describeRoot", "(I)I"⟩ ∈ lw_g := lg_mem 1369 (by decide +kernel) rfl
theorem k1371 : Cond.methodLink "DiscMakerLaw" 90 ⟨"DiscMakerLaw", "node", "(LDiscMaker;II[J)I"⟩ ∈ lw_g := lg_mem 1371 (by decide +kernel) rfl
theorem k1372 : Cond.static ⟨"DiscMakerLaw", "node", "(LDiscMaker;II[J)I"⟩ ∈ lw_g := lg_mem 1372 (by decide +kernel) rfl
theorem k1374 : Cond.classLink "DiscMakerLaw" 19 "java/util/NoSuchElementException" ∈ lw_g := lg_mem 1374 (by decide +kernel) rfl
theorem k1375 : Cond.methodLink "DiscMakerLaw" 15 ⟨"DiscMaker", "node", "(II)I"⟩ ∈ lw_g := lg_mem 1375 (by decide +kernel) rfl
theorem k1376 : Cond.instanceMethod ⟨"DiscMaker", "node", "(II)I"⟩ ∈ lw_g := lg_mem 1376 (by decide +kernel) rfl
theorem k1377 : Cond.selects "DiscMaker" ⟨"DiscMaker", "node", "(II)I"⟩ ⟨"DiscMaker", "node", "(II)I"⟩ ∈ lw_g := lg_mem 1377 (by decide +kernel) rfl
theorem k1379 : Cond.methodLink "DiscMaker" 139 ⟨"DiscMaker$Reader", "find", "(I)LDiscMaker$Found;"⟩ ∈ lw_g := lg_mem 1379 (by decide +kernel) rfl
theorem k1380 : Cond.instanceMethod ⟨"DiscMaker$Reader", "find", "(I)LDiscMaker$Found;"⟩ ∈ lw_g := lg_mem 1380 (by decide +kernel) rfl
theorem k1381 : Cond.selects "DiscMaker$Reader" ⟨"DiscMaker$Reader", "find", "(I)LDiscMaker$Found;"⟩ ⟨"DiscMaker$Reader", "find", "(I)LDiscMaker$Found;"⟩ ∈ lw_g := lg_mem 1381 (by decide +kernel) rfl
theorem k1383 : Cond.classLink "DiscMaker" 143 "java/util/NoSuchElementException" ∈ lw_g := lg_mem 1383 (by decide +kernel) rfl
theorem k1398 : Cond.methodLink "DiscMaker" 146 ⟨"DiscMaker$Found", "number", "(I)I"⟩ ∈ lw_g := lg_mem 1398 (by decide +kernel) rfl
theorem k1399 : Cond.instanceMethod ⟨"DiscMaker$Found", "number", "(I)I"⟩ ∈ lw_g := lg_mem 1399 (by decide +kernel) rfl
theorem k1400 : Cond.selects "DiscMaker$Found" ⟨"DiscMaker$Found", "number", "(I)I"⟩ ⟨"DiscMaker$Found", "number", "(I)I"⟩ ∈ lw_g := lg_mem 1400 (by decide +kernel) rfl
theorem k1402 : Cond.methodLink "DiscMakerLaw" 94 ⟨"DiscMakerLaw", "name", "(LDiscMaker;II[J)I"⟩ ∈ lw_g := lg_mem 1402 (by decide +kernel) rfl
theorem k1403 : Cond.static ⟨"DiscMakerLaw", "name", "(LDiscMaker;II[J)I"⟩ ∈ lw_g := lg_mem 1403 (by decide +kernel) rfl
theorem k1405 : Cond.methodLink "DiscMakerLaw" 21 ⟨"DiscMaker", "name", "(II)I"⟩ ∈ lw_g := lg_mem 1405 (by decide +kernel) rfl
theorem k1406 : Cond.instanceMethod ⟨"DiscMaker", "name", "(II)I"⟩ ∈ lw_g := lg_mem 1406 (by decide +kernel) rfl
theorem k1407 : Cond.selects "DiscMaker" ⟨"DiscMaker", "name", "(II)I"⟩ ⟨"DiscMaker", "name", "(II)I"⟩ ∈ lw_g := lg_mem 1407 (by decide +kernel) rfl
theorem k1409 : Cond.methodLink "DiscMakerLaw" 97 ⟨"DiscMakerLaw", "target", "(LDiscMaker;II[J)I"⟩ ∈ lw_g := lg_mem 1409 (by decide +kernel) rfl
theorem k1410 : Cond.static ⟨"DiscMakerLaw", "target", "(LDiscMaker;II[J)I"⟩ ∈ lw_g := lg_mem 1410 (by decide +kernel) rfl
theorem k1412 : Cond.methodLink "DiscMakerLaw" 24 ⟨"DiscMaker", "target", "(II)I"⟩ ∈ lw_g := lg_mem 1412 (by decide +kernel) rfl
theorem k1413 : Cond.instanceMethod ⟨"DiscMaker", "target", "(II)I"⟩ ∈ lw_g := lg_mem 1413 (by decide +kernel) rfl
theorem k1414 : Cond.selects "DiscMaker" ⟨"DiscMaker", "target", "(II)I"⟩ ⟨"DiscMaker", "target", "(II)I"⟩ ∈ lw_g := lg_mem 1414 (by decide +kernel) rfl
theorem k1416 : Cond.methodLink "DiscMakerLaw" 100 ⟨"DiscMakerLaw", "read", "(LDiscMaker;II[J)I"⟩ ∈ lw_g := lg_mem 1416 (by decide +kernel) rfl
theorem k1417 : Cond.static ⟨"DiscMakerLaw", "read", "(LDiscMaker;II[J)I"⟩ ∈ lw_g := lg_mem 1417 (by decide +kernel) rfl
theorem k1419 : Cond.methodLink "DiscMakerLaw" 27 ⟨"DiscMaker", "read", "(II)I"⟩ ∈ lw_g := lg_mem 1419 (by decide +kernel) rfl
theorem k1420 : Cond.instanceMethod ⟨"DiscMaker", "read", "(II)I"⟩ ∈ lw_g := lg_mem 1420 (by decide +kernel) rfl
theorem k1421 : Cond.selects "DiscMaker" ⟨"DiscMaker", "read", "(II)I"⟩ ⟨"DiscMaker", "read", "(II)I"⟩ ∈ lw_g := lg_mem 1421 (by decide +kernel) rfl
theorem k1423 : Cond.classLink "DiscMakerLaw" 31 "DiscMakerModel" ∈ lw_g := lg_mem 1423 (by decide +kernel) rfl
theorem k1424 : Cond.instantiable "DiscMakerModel" 48 ∈ lw_g := lg_mem 1424 (by decide +kernel) rfl
theorem k1425 : Cond.methodLink "DiscMakerLaw" 33 ⟨"DiscMakerModel", "<init>", "()V"⟩ ∈ lw_g := lg_mem 1425 (by decide +kernel) rfl
theorem k1426 : Cond.instanceMethod ⟨"DiscMakerModel", "<init>", "()V"⟩ ∈ lw_g := lg_mem 1426 (by decide +kernel) rfl
theorem k1428 : Cond.methodLink "DiscMakerModel" 1 ⟨"java/lang/Object", "<init>", "()V"⟩ ∈ lw_g := lg_mem 1428 (by decide +kernel) rfl
theorem k1429 : Cond.constant "DiscMakerModel" 59 46080 ∈ lw_g := lg_mem 1429 (by decide +kernel) rfl
theorem k1430 : Cond.constant "DiscMakerModel" 104 40000 ∈ lw_g := lg_mem 1430 (by decide +kernel) rfl
theorem k1452 : Cond.fieldLink "DiscMakerModel" 64 "DiscMakerModel" "table" "[I" ∈ lw_g := lg_mem 1452 (by decide +kernel) rfl
theorem k1453 : Cond.fieldLink "DiscMakerModel" 67 "DiscMakerModel" "sector" "[I" ∈ lw_g := lg_mem 1453 (by decide +kernel) rfl
theorem k1454 : Cond.fieldLink "DiscMakerModel" 70 "DiscMakerModel" "sectors" "[I" ∈ lw_g := lg_mem 1454 (by decide +kernel) rfl
theorem k1455 : Cond.fieldLink "DiscMakerModel" 73 "DiscMakerModel" "contents" "[I" ∈ lw_g := lg_mem 1455 (by decide +kernel) rfl
theorem k1456 : Cond.fieldLink "DiscMakerModel" 185 "DiscMakerModel" "directories" "I" ∈ lw_g := lg_mem 1456 (by decide +kernel) rfl
theorem k1457 : Cond.fieldLink "DiscMakerModel" 261 "DiscMakerModel" "runsFrom" "I" ∈ lw_g := lg_mem 1457 (by decide +kernel) rfl
theorem k1458 : Cond.fieldLink "DiscMakerModel" 237 "DiscMakerModel" "runs" "I" ∈ lw_g := lg_mem 1458 (by decide +kernel) rfl
theorem k1576 : Cond.arrayClass .long ∈ lw_g := lg_mem 1576 (by decide +kernel) rfl
theorem k1577 : Cond.arrayClass .boolean ∈ lw_g := lg_mem 1577 (by decide +kernel) rfl
theorem k1578 : Cond.methodLink "DiscMakerLaw" 38 ⟨"DiscMakerModel", "feed", "(IIIII)Z"⟩ ∈ lw_g := lg_mem 1578 (by decide +kernel) rfl
theorem k1579 : Cond.instanceMethod ⟨"DiscMakerModel", "feed", "(IIIII)Z"⟩ ∈ lw_g := lg_mem 1579 (by decide +kernel) rfl
theorem k1580 : Cond.selects "DiscMakerModel" ⟨"DiscMakerModel", "feed", "(IIIII)Z"⟩ ⟨"DiscMakerModel", "feed", "(IIIII)Z"⟩ ∈ lw_g := lg_mem 1580 (by decide +kernel) rfl
theorem k1582 : Cond.methodLink "DiscMakerLaw" 43 ⟨"DiscMakerModel", "end", "(I)Z"⟩ ∈ lw_g := lg_mem 1582 (by decide +kernel) rfl
theorem k1583 : Cond.instanceMethod ⟨"DiscMakerModel", "end", "(I)Z"⟩ ∈ lw_g := lg_mem 1583 (by decide +kernel) rfl
theorem k1584 : Cond.selects "DiscMakerModel" ⟨"DiscMakerModel", "end", "(I)Z"⟩ ⟨"DiscMakerModel", "end", "(I)Z"⟩ ∈ lw_g := lg_mem 1584 (by decide +kernel) rfl
theorem k1586 : Cond.methodLink "DiscMakerLaw" 48 ⟨"DiscMakerModel", "directory", "(IIII)I"⟩ ∈ lw_g := lg_mem 1586 (by decide +kernel) rfl
theorem k1587 : Cond.instanceMethod ⟨"DiscMakerModel", "directory", "(IIII)I"⟩ ∈ lw_g := lg_mem 1587 (by decide +kernel) rfl
theorem k1588 : Cond.selects "DiscMakerModel" ⟨"DiscMakerModel", "directory", "(IIII)I"⟩ ⟨"DiscMakerModel", "directory", "(IIII)I"⟩ ∈ lw_g := lg_mem 1588 (by decide +kernel) rfl
theorem k1628 : Cond.methodLink "DiscMakerLaw" 53 ⟨"DiscMakerModel", "file", "(III)I"⟩ ∈ lw_g := lg_mem 1628 (by decide +kernel) rfl
theorem k1629 : Cond.instanceMethod ⟨"DiscMakerModel", "file", "(III)I"⟩ ∈ lw_g := lg_mem 1629 (by decide +kernel) rfl
theorem k1630 : Cond.selects "DiscMakerModel" ⟨"DiscMakerModel", "file", "(III)I"⟩ ⟨"DiscMakerModel", "file", "(III)I"⟩ ∈ lw_g := lg_mem 1630 (by decide +kernel) rfl
theorem k1632 : Cond.methodLink "DiscMakerLaw" 57 ⟨"DiscMakerModel", "link", "(I)I"⟩ ∈ lw_g := lg_mem 1632 (by decide +kernel) rfl
theorem k1633 : Cond.instanceMethod ⟨"DiscMakerModel", "link", "(I)I"⟩ ∈ lw_g := lg_mem 1633 (by decide +kernel) rfl
theorem k1634 : Cond.selects "DiscMakerModel" ⟨"DiscMakerModel", "link", "(I)I"⟩ ⟨"DiscMakerModel", "link", "(I)I"⟩ ∈ lw_g := lg_mem 1634 (by decide +kernel) rfl
theorem k1640 : Cond.methodLink "DiscMakerLaw" 62 ⟨"DiscMakerModel", "own", "(IIII)Z"⟩ ∈ lw_g := lg_mem 1640 (by decide +kernel) rfl
theorem k1641 : Cond.instanceMethod ⟨"DiscMakerModel", "own", "(IIII)Z"⟩ ∈ lw_g := lg_mem 1641 (by decide +kernel) rfl
theorem k1642 : Cond.selects "DiscMakerModel" ⟨"DiscMakerModel", "own", "(IIII)Z"⟩ ⟨"DiscMakerModel", "own", "(IIII)Z"⟩ ∈ lw_g := lg_mem 1642 (by decide +kernel) rfl
theorem k1644 : Cond.methodLink "DiscMakerLaw" 67 ⟨"DiscMakerModel", "master", "()I"⟩ ∈ lw_g := lg_mem 1644 (by decide +kernel) rfl
theorem k1645 : Cond.instanceMethod ⟨"DiscMakerModel", "master", "()I"⟩ ∈ lw_g := lg_mem 1645 (by decide +kernel) rfl
theorem k1646 : Cond.selects "DiscMakerModel" ⟨"DiscMakerModel", "master", "()I"⟩ ⟨"DiscMakerModel", "master", "()I"⟩ ∈ lw_g := lg_mem 1646 (by decide +kernel) rfl
theorem k1648 : Cond.methodLink "DiscMakerModel" 269 ⟨"DiscMakerModel", "identify", "(I)V"⟩ ∈ lw_g := lg_mem 1648 (by decide +kernel) rfl
theorem k1650 : Cond.instanceMethod ⟨"DiscMakerModel", "identify", "(I)V"⟩ ∈ lw_g := lg_mem 1650 (by decide +kernel) rfl
theorem k1671 : Cond.methodLink "DiscMakerModel" 272 ⟨"DiscMakerModel", "tables", "(I)V"⟩ ∈ lw_g := lg_mem 1671 (by decide +kernel) rfl
theorem k1673 : Cond.instanceMethod ⟨"DiscMakerModel", "tables", "(I)V"⟩ ∈ lw_g := lg_mem 1673 (by decide +kernel) rfl
theorem k1675 : Cond.methodLink "DiscMakerModel" 182 ⟨"DiscMakerModel", "next", "(III)I"⟩ ∈ lw_g := lg_mem 1675 (by decide +kernel) rfl
theorem k1677 : Cond.instanceMethod ⟨"DiscMakerModel", "next", "(III)I"⟩ ∈ lw_g := lg_mem 1677 (by decide +kernel) rfl
theorem k1683 : Cond.methodLink "DiscMakerModel" 275 ⟨"DiscMakerModel", "along", "(IIZ)I"⟩ ∈ lw_g := lg_mem 1683 (by decide +kernel) rfl
theorem k1685 : Cond.instanceMethod ⟨"DiscMakerModel", "along", "(IIZ)I"⟩ ∈ lw_g := lg_mem 1685 (by decide +kernel) rfl
theorem k1687 : Cond.methodLink "DiscMakerModel" 228 ⟨"DiscMakerModel", "nodeOf", "(III)I"⟩ ∈ lw_g := lg_mem 1687 (by decide +kernel) rfl
theorem k1689 : Cond.instanceMethod ⟨"DiscMakerModel", "nodeOf", "(III)I"⟩ ∈ lw_g := lg_mem 1689 (by decide +kernel) rfl
theorem k1691 : Cond.methodLink "DiscMakerModel" 231 ⟨"DiscMakerModel", "recordSize", "(III)I"⟩ ∈ lw_g := lg_mem 1691 (by decide +kernel) rfl
theorem k1693 : Cond.instanceMethod ⟨"DiscMakerModel", "recordSize", "(III)I"⟩ ∈ lw_g := lg_mem 1693 (by decide +kernel) rfl
theorem k1695 : Cond.methodLink "DiscMakerModel" 216 ⟨"DiscMakerModel", "headSize", "(III)I"⟩ ∈ lw_g := lg_mem 1695 (by decide +kernel) rfl
theorem k1697 : Cond.instanceMethod ⟨"DiscMakerModel", "headSize", "(III)I"⟩ ∈ lw_g := lg_mem 1697 (by decide +kernel) rfl
theorem k1699 : Cond.methodLink "DiscMakerModel" 210 ⟨"DiscMakerModel", "idSize", "(III)I"⟩ ∈ lw_g := lg_mem 1699 (by decide +kernel) rfl
theorem k1701 : Cond.instanceMethod ⟨"DiscMakerModel", "idSize", "(III)I"⟩ ∈ lw_g := lg_mem 1701 (by decide +kernel) rfl
theorem k1703 : Cond.methodLink "DiscMakerModel" 225 ⟨"DiscMakerModel", "outside", "(II)I"⟩ ∈ lw_g := lg_mem 1703 (by decide +kernel) rfl
theorem k1705 : Cond.instanceMethod ⟨"DiscMakerModel", "outside", "(II)I"⟩ ∈ lw_g := lg_mem 1705 (by decide +kernel) rfl
theorem k1707 : Cond.methodLink "DiscMakerModel" 222 ⟨"DiscMakerModel", "partsInside", "(II)I"⟩ ∈ lw_g := lg_mem 1707 (by decide +kernel) rfl
theorem k1709 : Cond.instanceMethod ⟨"DiscMakerModel", "partsInside", "(II)I"⟩ ∈ lw_g := lg_mem 1709 (by decide +kernel) rfl
theorem k1711 : Cond.methodLink "DiscMakerModel" 219 ⟨"DiscMakerModel", "allParts", "(II)I"⟩ ∈ lw_g := lg_mem 1711 (by decide +kernel) rfl
theorem k1713 : Cond.instanceMethod ⟨"DiscMakerModel", "allParts", "(II)I"⟩ ∈ lw_g := lg_mem 1713 (by decide +kernel) rfl
theorem k1715 : Cond.methodLink "DiscMakerModel" 213 ⟨"DiscMakerModel", "partSize", "(III)I"⟩ ∈ lw_g := lg_mem 1715 (by decide +kernel) rfl
theorem k1717 : Cond.instanceMethod ⟨"DiscMakerModel", "partSize", "(III)I"⟩ ∈ lw_g := lg_mem 1717 (by decide +kernel) rfl
theorem k1719 : Cond.methodLink "DiscMakerModel" 203 ⟨"DiscMakerModel", "components", "(II)I"⟩ ∈ lw_g := lg_mem 1719 (by decide +kernel) rfl
theorem k1721 : Cond.instanceMethod ⟨"DiscMakerModel", "components", "(II)I"⟩ ∈ lw_g := lg_mem 1721 (by decide +kernel) rfl
theorem k1723 : Cond.methodLink "DiscMakerModel" 206 ⟨"DiscMakerModel", "mark", "(IIII)V"⟩ ∈ lw_g := lg_mem 1723 (by decide +kernel) rfl
theorem k1725 : Cond.instanceMethod ⟨"DiscMakerModel", "mark", "(IIII)V"⟩ ∈ lw_g := lg_mem 1725 (by decide +kernel) rfl
theorem k1733 : Cond.methodLink "DiscMakerModel" 234 ⟨"DiscMakerModel", "fitted", "(II)I"⟩ ∈ lw_g := lg_mem 1733 (by decide +kernel) rfl
theorem k1734 : Cond.static ⟨"DiscMakerModel", "fitted", "(II)I"⟩ ∈ lw_g := lg_mem 1734 (by decide +kernel) rfl
theorem k1736 : Cond.methodLink "DiscMakerModel" 240 ⟨"DiscMakerModel", "record", "(IIIII)V"⟩ ∈ lw_g := lg_mem 1736 (by decide +kernel) rfl
theorem k1738 : Cond.instanceMethod ⟨"DiscMakerModel", "record", "(IIIII)V"⟩ ∈ lw_g := lg_mem 1738 (by decide +kernel) rfl
theorem k1740 : Cond.methodLink "DiscMakerModel" 244 ⟨"DiscMakerModel", "both", "(III)V"⟩ ∈ lw_g := lg_mem 1740 (by decide +kernel) rfl
theorem k1742 : Cond.instanceMethod ⟨"DiscMakerModel", "both", "(III)V"⟩ ∈ lw_g := lg_mem 1742 (by decide +kernel) rfl
theorem k1744 : Cond.methodLink "DiscMakerModel" 196 ⟨"DiscMakerModel", "low", "(III)V"⟩ ∈ lw_g := lg_mem 1744 (by decide +kernel) rfl
theorem k1746 : Cond.instanceMethod ⟨"DiscMakerModel", "low", "(III)V"⟩ ∈ lw_g := lg_mem 1746 (by decide +kernel) rfl
theorem k1748 : Cond.methodLink "DiscMakerModel" 200 ⟨"DiscMakerModel", "high", "(III)V"⟩ ∈ lw_g := lg_mem 1748 (by decide +kernel) rfl
theorem k1750 : Cond.instanceMethod ⟨"DiscMakerModel", "high", "(III)V"⟩ ∈ lw_g := lg_mem 1750 (by decide +kernel) rfl
theorem k1752 : Cond.methodLink "DiscMakerModel" 247 ⟨"DiscMakerModel", "stamp", "(I)V"⟩ ∈ lw_g := lg_mem 1752 (by decide +kernel) rfl
theorem k1754 : Cond.instanceMethod ⟨"DiscMakerModel", "stamp", "(I)V"⟩ ∈ lw_g := lg_mem 1754 (by decide +kernel) rfl
theorem k1756 : Cond.methodLink "DiscMakerModel" 251 ⟨"DiscMakerModel", "idByte", "(IIII)I"⟩ ∈ lw_g := lg_mem 1756 (by decide +kernel) rfl
theorem k1758 : Cond.instanceMethod ⟨"DiscMakerModel", "idByte", "(IIII)I"⟩ ∈ lw_g := lg_mem 1758 (by decide +kernel) rfl
theorem k1760 : Cond.methodLink "DiscMakerModel" 255 ⟨"DiscMakerModel", "lay", "(IIII)I"⟩ ∈ lw_g := lg_mem 1760 (by decide +kernel) rfl
theorem k1762 : Cond.instanceMethod ⟨"DiscMakerModel", "lay", "(IIII)I"⟩ ∈ lw_g := lg_mem 1762 (by decide +kernel) rfl
theorem k1764 : Cond.methodLink "DiscMakerModel" 258 ⟨"DiscMakerModel", "letters", "(IIII)V"⟩ ∈ lw_g := lg_mem 1764 (by decide +kernel) rfl
theorem k1766 : Cond.instanceMethod ⟨"DiscMakerModel", "letters", "(IIII)V"⟩ ∈ lw_g := lg_mem 1766 (by decide +kernel) rfl
theorem k1768 : Cond.constant "DiscMakerModel" 264 32768 ∈ lw_g := lg_mem 1768 (by decide +kernel) rfl
theorem k1770 : Cond.methodLink "DiscMakerModel" 266 ⟨"DiscMakerModel", "links", "(I)I"⟩ ∈ lw_g := lg_mem 1770 (by decide +kernel) rfl
theorem k1772 : Cond.instanceMethod ⟨"DiscMakerModel", "links", "(I)I"⟩ ∈ lw_g := lg_mem 1772 (by decide +kernel) rfl
theorem k1774 : Cond.methodLink "DiscMakerModel" 279 ⟨"DiscMakerModel", "whole", "(I)I"⟩ ∈ lw_g := lg_mem 1774 (by decide +kernel) rfl
theorem k1775 : Cond.static ⟨"DiscMakerModel", "whole", "(I)I"⟩ ∈ lw_g := lg_mem 1775 (by decide +kernel) rfl
theorem k1777 : Cond.methodLink "DiscMakerModel" 285 ⟨"DiscMakerModel", "describe", "()V"⟩ ∈ lw_g := lg_mem 1777 (by decide +kernel) rfl
theorem k1779 : Cond.instanceMethod ⟨"DiscMakerModel", "describe", "()V"⟩ ∈ lw_g := lg_mem 1779 (by decide +kernel) rfl
theorem k1781 : Cond.methodLink "DiscMakerModel" 297 ⟨"DiscMakerModel", "tableSize", "(I)I"⟩ ∈ lw_g := lg_mem 1781 (by decide +kernel) rfl
theorem k1783 : Cond.instanceMethod ⟨"DiscMakerModel", "tableSize", "(I)I"⟩ ∈ lw_g := lg_mem 1783 (by decide +kernel) rfl
theorem k1785 : Cond.methodLink "DiscMakerModel" 291 ⟨"DiscMakerModel", "entrySize", "(II)I"⟩ ∈ lw_g := lg_mem 1785 (by decide +kernel) rfl
theorem k1787 : Cond.instanceMethod ⟨"DiscMakerModel", "entrySize", "(II)I"⟩ ∈ lw_g := lg_mem 1787 (by decide +kernel) rfl
theorem k1789 : Cond.methodLink "DiscMakerModel" 300 ⟨"DiscMakerModel", "rootRecord", "(II)V"⟩ ∈ lw_g := lg_mem 1789 (by decide +kernel) rfl
theorem k1791 : Cond.instanceMethod ⟨"DiscMakerModel", "rootRecord", "(II)V"⟩ ∈ lw_g := lg_mem 1791 (by decide +kernel) rfl
theorem k1793 : Cond.methodLink "DiscMakerModel" 288 ⟨"DiscMakerModel", "paths", "(I)V"⟩ ∈ lw_g := lg_mem 1793 (by decide +kernel) rfl
theorem k1795 : Cond.instanceMethod ⟨"DiscMakerModel", "paths", "(I)V"⟩ ∈ lw_g := lg_mem 1795 (by decide +kernel) rfl
theorem k1797 : Cond.methodLink "DiscMakerModel" 294 ⟨"DiscMakerModel", "numberOf", "(II)I"⟩ ∈ lw_g := lg_mem 1797 (by decide +kernel) rfl
theorem k1799 : Cond.instanceMethod ⟨"DiscMakerModel", "numberOf", "(II)I"⟩ ∈ lw_g := lg_mem 1799 (by decide +kernel) rfl
theorem k1801 : Cond.methodLink "DiscMakerLaw" 71 ⟨"DiscMakerModel", "sectors", "()I"⟩ ∈ lw_g := lg_mem 1801 (by decide +kernel) rfl
theorem k1802 : Cond.instanceMethod ⟨"DiscMakerModel", "sectors", "()I"⟩ ∈ lw_g := lg_mem 1802 (by decide +kernel) rfl
theorem k1803 : Cond.selects "DiscMakerModel" ⟨"DiscMakerModel", "sectors", "()I"⟩ ⟨"DiscMakerModel", "sectors", "()I"⟩ ∈ lw_g := lg_mem 1803 (by decide +kernel) rfl
theorem k1805 : Cond.methodLink "DiscMakerLaw" 75 ⟨"DiscMakerModel", "byteAt", "(I)I"⟩ ∈ lw_g := lg_mem 1805 (by decide +kernel) rfl
theorem k1806 : Cond.instanceMethod ⟨"DiscMakerModel", "byteAt", "(I)I"⟩ ∈ lw_g := lg_mem 1806 (by decide +kernel) rfl
theorem k1807 : Cond.selects "DiscMakerModel" ⟨"DiscMakerModel", "byteAt", "(I)I"⟩ ⟨"DiscMakerModel", "byteAt", "(I)I"⟩ ∈ lw_g := lg_mem 1807 (by decide +kernel) rfl
theorem k1813 : Cond.methodLink "DiscMakerLaw" 79 ⟨"DiscMakerModel", "poke", "(II)I"⟩ ∈ lw_g := lg_mem 1813 (by decide +kernel) rfl
theorem k1814 : Cond.instanceMethod ⟨"DiscMakerModel", "poke", "(II)I"⟩ ∈ lw_g := lg_mem 1814 (by decide +kernel) rfl
theorem k1815 : Cond.selects "DiscMakerModel" ⟨"DiscMakerModel", "poke", "(II)I"⟩ ⟨"DiscMakerModel", "poke", "(II)I"⟩ ∈ lw_g := lg_mem 1815 (by decide +kernel) rfl
theorem k1817 : Cond.methodLink "DiscMakerLaw" 83 ⟨"DiscMakerModel", "cut", "(I)Z"⟩ ∈ lw_g := lg_mem 1817 (by decide +kernel) rfl
theorem k1818 : Cond.instanceMethod ⟨"DiscMakerModel", "cut", "(I)Z"⟩ ∈ lw_g := lg_mem 1818 (by decide +kernel) rfl
theorem k1819 : Cond.selects "DiscMakerModel" ⟨"DiscMakerModel", "cut", "(I)Z"⟩ ⟨"DiscMakerModel", "cut", "(I)Z"⟩ ∈ lw_g := lg_mem 1819 (by decide +kernel) rfl
theorem k1821 : Cond.methodLink "DiscMakerLaw" 89 ⟨"DiscMakerModel", "mount", "(I)I"⟩ ∈ lw_g := lg_mem 1821 (by decide +kernel) rfl
theorem k1822 : Cond.instanceMethod ⟨"DiscMakerModel", "mount", "(I)I"⟩ ∈ lw_g := lg_mem 1822 (by decide +kernel) rfl
theorem k1823 : Cond.selects "DiscMakerModel" ⟨"DiscMakerModel", "mount", "(I)I"⟩ ⟨"DiscMakerModel", "mount", "(I)I"⟩ ∈ lw_g := lg_mem 1823 (by decide +kernel) rfl
theorem k1825 : Cond.methodLink "DiscMakerModel" 326 ⟨"DiscMakerModel", "opened", "(I)Z"⟩ ∈ lw_g := lg_mem 1825 (by decide +kernel) rfl
theorem k1827 : Cond.instanceMethod ⟨"DiscMakerModel", "opened", "(I)Z"⟩ ∈ lw_g := lg_mem 1827 (by decide +kernel) rfl
theorem k1829 : Cond.methodLink "DiscMakerModel" 329 ⟨"DiscMakerModel", "descriptor", "(I)I"⟩ ∈ lw_g := lg_mem 1829 (by decide +kernel) rfl
theorem k1831 : Cond.instanceMethod ⟨"DiscMakerModel", "descriptor", "(I)I"⟩ ∈ lw_g := lg_mem 1831 (by decide +kernel) rfl
theorem k1858 : Cond.methodLink "DiscMakerModel" 338 ⟨"DiscMakerModel", "gone", "(II)Z"⟩ ∈ lw_g := lg_mem 1858 (by decide +kernel) rfl
theorem k1860 : Cond.instanceMethod ⟨"DiscMakerModel", "gone", "(II)Z"⟩ ∈ lw_g := lg_mem 1860 (by decide +kernel) rfl
theorem k1894 : Cond.methodLink "DiscMakerLaw" 93 ⟨"DiscMakerModel", "node", "(II)I"⟩ ∈ lw_g := lg_mem 1894 (by decide +kernel) rfl
theorem k1895 : Cond.instanceMethod ⟨"DiscMakerModel", "node", "(II)I"⟩ ∈ lw_g := lg_mem 1895 (by decide +kernel) rfl
theorem k1896 : Cond.selects "DiscMakerModel" ⟨"DiscMakerModel", "node", "(II)I"⟩ ⟨"DiscMakerModel", "node", "(II)I"⟩ ∈ lw_g := lg_mem 1896 (by decide +kernel) rfl
theorem k1903 : Cond.methodLink "DiscMakerLaw" 96 ⟨"DiscMakerModel", "name", "(II)I"⟩ ∈ lw_g := lg_mem 1903 (by decide +kernel) rfl
theorem k1904 : Cond.instanceMethod ⟨"DiscMakerModel", "name", "(II)I"⟩ ∈ lw_g := lg_mem 1904 (by decide +kernel) rfl
theorem k1905 : Cond.selects "DiscMakerModel" ⟨"DiscMakerModel", "name", "(II)I"⟩ ⟨"DiscMakerModel", "name", "(II)I"⟩ ∈ lw_g := lg_mem 1905 (by decide +kernel) rfl
theorem k1907 : Cond.methodLink "DiscMakerLaw" 99 ⟨"DiscMakerModel", "target", "(II)I"⟩ ∈ lw_g := lg_mem 1907 (by decide +kernel) rfl
theorem k1908 : Cond.instanceMethod ⟨"DiscMakerModel", "target", "(II)I"⟩ ∈ lw_g := lg_mem 1908 (by decide +kernel) rfl
theorem k1909 : Cond.selects "DiscMakerModel" ⟨"DiscMakerModel", "target", "(II)I"⟩ ⟨"DiscMakerModel", "target", "(II)I"⟩ ∈ lw_g := lg_mem 1909 (by decide +kernel) rfl
theorem k1911 : Cond.methodLink "DiscMakerLaw" 102 ⟨"DiscMakerModel", "read", "(II)I"⟩ ∈ lw_g := lg_mem 1911 (by decide +kernel) rfl
theorem k1912 : Cond.instanceMethod ⟨"DiscMakerModel", "read", "(II)I"⟩ ∈ lw_g := lg_mem 1912 (by decide +kernel) rfl
theorem k1913 : Cond.selects "DiscMakerModel" ⟨"DiscMakerModel", "read", "(II)I"⟩ ⟨"DiscMakerModel", "read", "(II)I"⟩ ∈ lw_g := lg_mem 1913 (by decide +kernel) rfl
set_option maxRecDepth 100000 in
theorem kc_DiscMaker_init : Cond.code y_DiscMaker_init b_DiscMaker_init 1 none ∈ lw_g := lg_mem 147 rfl rfl
set_option maxRecDepth 100000 in
theorem kc_DiscMaker_feed : Cond.code y_DiscMaker_feed b_DiscMaker_feed 6 (some .boolean) ∈ lw_g := lg_mem 450 rfl rfl
set_option maxRecDepth 100000 in
theorem kc_DiscMaker_end : Cond.code y_DiscMaker_end b_DiscMaker_end 2 (some .boolean) ∈ lw_g := lg_mem 462 rfl rfl
set_option maxRecDepth 100000 in
theorem kc_DiscMaker_directory : Cond.code y_DiscMaker_directory b_DiscMaker_directory 6 (some .int) ∈ lw_g := lg_mem 470 rfl rfl
set_option maxRecDepth 100000 in
theorem kc_DiscMaker_file : Cond.code y_DiscMaker_file b_DiscMaker_file 6 (some .int) ∈ lw_g := lg_mem 875 rfl rfl
set_option maxRecDepth 100000 in
theorem kc_DiscMaker_link : Cond.code y_DiscMaker_link b_DiscMaker_link 6 (some .int) ∈ lw_g := lg_mem 879 rfl rfl
set_option maxRecDepth 100000 in
theorem kc_DiscMaker_own : Cond.code y_DiscMaker_own b_DiscMaker_own 5 (some .boolean) ∈ lw_g := lg_mem 929 rfl rfl
set_option maxRecDepth 100000 in
theorem kc_DiscMaker_master : Cond.code y_DiscMaker_master b_DiscMaker_master 1 (some .int) ∈ lw_g := lg_mem 938 rfl rfl
set_option maxRecDepth 100000 in
theorem kc_DiscMaker_sectors : Cond.code y_DiscMaker_sectors b_DiscMaker_sectors 1 (some .int) ∈ lw_g := lg_mem 1126 rfl rfl
set_option maxRecDepth 100000 in
theorem kc_DiscMaker_byteAt : Cond.code y_DiscMaker_byteAt b_DiscMaker_byteAt 2 (some .int) ∈ lw_g := lg_mem 1130 rfl rfl
set_option maxRecDepth 100000 in
theorem kc_DiscMaker_poke : Cond.code y_DiscMaker_poke b_DiscMaker_poke 4 (some .int) ∈ lw_g := lg_mem 1139 rfl rfl
set_option maxRecDepth 100000 in
theorem kc_DiscMaker_cut : Cond.code y_DiscMaker_cut b_DiscMaker_cut 2 (some .boolean) ∈ lw_g := lg_mem 1144 rfl rfl
set_option maxRecDepth 100000 in
theorem kc_DiscMaker_mount : Cond.code y_DiscMaker_mount b_DiscMaker_mount 2 (some .int) ∈ lw_g := lg_mem 1153 rfl rfl
set_option maxRecDepth 100000 in
theorem kc_DiscMaker_node : Cond.code y_DiscMaker_node b_DiscMaker_node 4 (some .int) ∈ lw_g := lg_mem 1378 rfl rfl
set_option maxRecDepth 100000 in
theorem kc_DiscMaker_name : Cond.code y_DiscMaker_name b_DiscMaker_name 4 (some .int) ∈ lw_g := lg_mem 1408 rfl rfl
set_option maxRecDepth 100000 in
theorem kc_DiscMaker_target : Cond.code y_DiscMaker_target b_DiscMaker_target 4 (some .int) ∈ lw_g := lg_mem 1415 rfl rfl
set_option maxRecDepth 100000 in
theorem kc_DiscMaker_read : Cond.code y_DiscMaker_read b_DiscMaker_read 4 (some .int) ∈ lw_g := lg_mem 1422 rfl rfl
set_option maxRecDepth 100000 in
theorem kc_DiscMaker_grow : Cond.code y_DiscMaker_grow b_DiscMaker_grow 3 (some .int) ∈ lw_g := lg_mem 794 rfl rfl
set_option maxRecDepth 100000 in
theorem kc_DiscMaker_isWithin : Cond.code y_DiscMaker_isWithin b_DiscMaker_isWithin 2 (some .boolean) ∈ lw_g := lg_mem 481 rfl rfl
set_option maxRecDepth 100000 in
theorem kc_DiscMaker_isOwnership : Cond.code y_DiscMaker_isOwnership b_DiscMaker_isOwnership 3 (some .boolean) ∈ lw_g := lg_mem 477 rfl rfl
set_option maxRecDepth 100000 in
theorem kc_DiscMaker_isName : Cond.code y_DiscMaker_isName b_DiscMaker_isName 3 (some .boolean) ∈ lw_g := lg_mem 805 rfl rfl
set_option maxRecDepth 100000 in
theorem kc_DiscMaker_isNameCharacter : Cond.code y_DiscMaker_isNameCharacter b_DiscMaker_isNameCharacter 1 (some .boolean) ∈ lw_g := lg_mem 808 rfl rfl
set_option maxRecDepth 100000 in
theorem kc_DiscMaker_isLetter : Cond.code y_DiscMaker_isLetter b_DiscMaker_isLetter 1 (some .boolean) ∈ lw_g := lg_mem 811 rfl rfl
set_option maxRecDepth 100000 in
theorem kc_DiscMaker_isDigit : Cond.code y_DiscMaker_isDigit b_DiscMaker_isDigit 1 (some .boolean) ∈ lw_g := lg_mem 814 rfl rfl
set_option maxRecDepth 100000 in
theorem kc_DiscMaker_isTarget : Cond.code y_DiscMaker_isTarget b_DiscMaker_isTarget 2 (some .boolean) ∈ lw_g := lg_mem 886 rfl rfl
set_option maxRecDepth 100000 in
theorem kc_DiscMaker_even : Cond.code y_DiscMaker_even b_DiscMaker_even 1 (some .int) ∈ lw_g := lg_mem 1000 rfl rfl
set_option maxRecDepth 100000 in
theorem kc_DiscMaker_sectorsFor : Cond.code y_DiscMaker_sectorsFor b_DiscMaker_sectorsFor 1 (some .int) ∈ lw_g := lg_mem 1047 rfl rfl
set_option maxRecDepth 100000 in
theorem kc_Bytes_init : Cond.code y_Bytes_init b_Bytes_init 2 none ∈ lw_g := lg_mem 254 rfl rfl
set_option maxRecDepth 100000 in
theorem kc_Bytes_reset : Cond.code y_Bytes_reset b_Bytes_reset 2 none ∈ lw_g := lg_mem 1084 rfl rfl
set_option maxRecDepth 100000 in
theorem kc_Bytes_shorten : Cond.code y_Bytes_shorten b_Bytes_shorten 2 none ∈ lw_g := lg_mem 898 rfl rfl
set_option maxRecDepth 100000 in
theorem kc_Bytes_has : Cond.code y_Bytes_has b_Bytes_has 2 (some .boolean) ∈ lw_g := lg_mem 1134 rfl rfl
set_option maxRecDepth 100000 in
theorem kc_Bytes_at : Cond.code y_Bytes_at b_Bytes_at 2 (some .int) ∈ lw_g := lg_mem 1067 rfl rfl
set_option maxRecDepth 100000 in
theorem kc_Bytes_put : Cond.code y_Bytes_put b_Bytes_put 3 none ∈ lw_g := lg_mem 914 rfl rfl
set_option maxRecDepth 100000 in
theorem kc_Bytes_extend : Cond.code y_Bytes_extend b_Bytes_extend 4 (some .int) ∈ lw_g := lg_mem 910 rfl rfl
set_option maxRecDepth 100000 in
theorem kc_Bytes_fill : Cond.code y_Bytes_fill b_Bytes_fill 5 none ∈ lw_g := lg_mem 1112 rfl rfl
set_option maxRecDepth 100000 in
theorem kc_Bytes_putRow : Cond.code y_Bytes_putRow b_Bytes_putRow 4 none ∈ lw_g := lg_mem 1033 rfl rfl
set_option maxRecDepth 100000 in
theorem kc_Bytes_putLow : Cond.code y_Bytes_putLow b_Bytes_putLow 5 none ∈ lw_g := lg_mem 1098 rfl rfl
set_option maxRecDepth 100000 in
theorem kc_Bytes_putHigh : Cond.code y_Bytes_putHigh b_Bytes_putHigh 5 none ∈ lw_g := lg_mem 987 rfl rfl
set_option maxRecDepth 100000 in
theorem kc_Bytes_putBoth : Cond.code y_Bytes_putBoth b_Bytes_putBoth 5 none ∈ lw_g := lg_mem 1025 rfl rfl
set_option maxRecDepth 100000 in
theorem kc_Bytes_copyTo : Cond.code y_Bytes_copyTo b_Bytes_copyTo 6 none ∈ lw_g := lg_mem 1063 rfl rfl
set_option maxRecDepth 100000 in
theorem kc_Bytes_low : Cond.code y_Bytes_low b_Bytes_low 5 (some .int) ∈ lw_g := lg_mem 1192 rfl rfl
set_option maxRecDepth 100000 in
theorem kc_Bytes_halvesAgree : Cond.code y_Bytes_halvesAgree b_Bytes_halvesAgree 4 (some .boolean) ∈ lw_g := lg_mem 1196 rfl rfl
set_option maxRecDepth 100000 in
theorem kc_Bytes_holds : Cond.code y_Bytes_holds b_Bytes_holds 4 (some .boolean) ∈ lw_g := lg_mem 1178 rfl rfl
set_option maxRecDepth 100000 in
theorem kc_Found_init : Cond.code y_Found_init b_Found_init 1 none ∈ lw_g := lg_mem 1221 rfl rfl
set_option maxRecDepth 100000 in
theorem kc_Found_begin : Cond.code y_Found_begin b_Found_begin 6 none ∈ lw_g := lg_mem 1283 rfl rfl
set_option maxRecDepth 100000 in
theorem kc_Found_addToName : Cond.code y_Found_addToName b_Found_addToName 2 none ∈ lw_g := lg_mem 1311 rfl rfl
set_option maxRecDepth 100000 in
theorem kc_Found_addToTarget : Cond.code y_Found_addToTarget b_Found_addToTarget 2 none ∈ lw_g := lg_mem 1348 rfl rfl
set_option maxRecDepth 100000 in
theorem kc_Found_isNameTooLong : Cond.code y_Found_isNameTooLong b_Found_isNameTooLong 1 (some .boolean) ∈ lw_g := lg_mem 1315 rfl rfl
set_option maxRecDepth 100000 in
theorem kc_Found_isTargetTooLong : Cond.code y_Found_isTargetTooLong b_Found_isTargetTooLong 1 (some .boolean) ∈ lw_g := lg_mem 1355 rfl rfl
set_option maxRecDepth 100000 in
theorem kc_Found_number : Cond.code y_Found_number b_Found_number 2 (some .int) ∈ lw_g := lg_mem 1401 rfl rfl
set_option maxRecDepth 100000 in
theorem kc_Layout_init : Cond.code y_Layout_init b_Layout_init 4 none ∈ lw_g := lg_mem 278 rfl rfl
set_option maxRecDepth 100000 in
theorem kc_Layout_arrange : Cond.code y_Layout_arrange b_Layout_arrange 3 none ∈ lw_g := lg_mem 946 rfl rfl
set_option maxRecDepth 100000 in
theorem kc_Layout_insert : Cond.code y_Layout_insert b_Layout_insert 4 none ∈ lw_g := lg_mem 950 rfl rfl
set_option maxRecDepth 100000 in
theorem kc_Layout_orderOf : Cond.code y_Layout_orderOf b_Layout_orderOf 2 (some (.array .byte)) ∈ lw_g := lg_mem 954 rfl rfl
set_option maxRecDepth 100000 in
theorem kc_Layout_addDirectoriesIn : Cond.code y_Layout_addDirectoriesIn b_Layout_addDirectoriesIn 4 none ∈ lw_g := lg_mem 963 rfl rfl
set_option maxRecDepth 100000 in
theorem kc_Layout_addDirectory : Cond.code y_Layout_addDirectory b_Layout_addDirectory 2 none ∈ lw_g := lg_mem 959 rfl rfl
set_option maxRecDepth 100000 in
theorem kc_Maker_init : Cond.code y_Maker_init b_Maker_init 3 none ∈ lw_g := lg_mem 272 rfl rfl
set_option maxRecDepth 100000 in
theorem kc_Maker_linkPartBytes : Cond.code y_Maker_linkPartBytes b_Maker_linkPartBytes 2 (some .int) ∈ lw_g := lg_mem 890 rfl rfl
set_option maxRecDepth 100000 in
theorem kc_Maker_make : Cond.code y_Maker_make b_Maker_make 4 (some .int) ∈ lw_g := lg_mem 942 rfl rfl
set_option maxRecDepth 100000 in
theorem kc_Maker_walk : Cond.code y_Maker_walk b_Maker_walk 8 (some .int) ∈ lw_g := lg_mem 967 rfl rfl
set_option maxRecDepth 100000 in
theorem kc_Maker_placeContents : Cond.code y_Maker_placeContents b_Maker_placeContents 5 (some .int) ∈ lw_g := lg_mem 1076 rfl rfl
set_option maxRecDepth 100000 in
theorem kc_Maker_firstWithContents : Cond.code y_Maker_firstWithContents b_Maker_firstWithContents 5 (some .int) ∈ lw_g := lg_mem 1080 rfl rfl
set_option maxRecDepth 100000 in
theorem kc_Maker_passRecord : Cond.code y_Maker_passRecord b_Maker_passRecord 6 none ∈ lw_g := lg_mem 971 rfl rfl
set_option maxRecDepth 100000 in
theorem kc_Maker_withinOneSector : Cond.code y_Maker_withinOneSector b_Maker_withinOneSector 2 (some .int) ∈ lw_g := lg_mem 1044 rfl rfl
set_option maxRecDepth 100000 in
theorem kc_Maker_identify : Cond.code y_Maker_identify b_Maker_identify 4 none ∈ lw_g := lg_mem 975 rfl rfl
set_option maxRecDepth 100000 in
theorem kc_Maker_buildParts : Cond.code y_Maker_buildParts b_Maker_buildParts 3 none ∈ lw_g := lg_mem 1004 rfl rfl
set_option maxRecDepth 100000 in
theorem kc_Maker_writeRecord : Cond.code y_Maker_writeRecord b_Maker_writeRecord 6 none ∈ lw_g := lg_mem 1055 rfl rfl
set_option maxRecDepth 100000 in
theorem kc_Maker_writeParts : Cond.code y_Maker_writeParts b_Maker_writeParts 4 none ∈ lw_g := lg_mem 1071 rfl rfl
set_option maxRecDepth 100000 in
theorem kc_Maker_writePathTables : Cond.code y_Maker_writePathTables b_Maker_writePathTables 7 (some .int) ∈ lw_g := lg_mem 1090 rfl rfl
set_option maxRecDepth 100000 in
theorem kc_Maker_writePathHead : Cond.code y_Maker_writePathHead b_Maker_writePathHead 2 none ∈ lw_g := lg_mem 1094 rfl rfl
set_option maxRecDepth 100000 in
theorem kc_Maker_writeDescriptorHead : Cond.code y_Maker_writeDescriptorHead b_Maker_writeDescriptorHead 3 none ∈ lw_g := lg_mem 1106 rfl rfl
set_option maxRecDepth 100000 in
theorem kc_Maker_writeDescriptor : Cond.code y_Maker_writeDescriptor b_Maker_writeDescriptor 5 none ∈ lw_g := lg_mem 1102 rfl rfl
set_option maxRecDepth 100000 in
theorem kc_Maker_writeContents : Cond.code y_Maker_writeContents b_Maker_writeContents 2 none ∈ lw_g := lg_mem 1118 rfl rfl
set_option maxRecDepth 100000 in
theorem kc_Maker_writeBytes : Cond.code y_Maker_writeBytes b_Maker_writeBytes 4 none ∈ lw_g := lg_mem 1122 rfl rfl
set_option maxRecDepth 100000 in
theorem kc_Node_init : Cond.code y_Node_init b_Node_init 6 none ∈ lw_g := lg_mem 176 rfl rfl
set_option maxRecDepth 100000 in
theorem kc_Node_setOwnership : Cond.code y_Node_setOwnership b_Node_setOwnership 4 none ∈ lw_g := lg_mem 934 rfl rfl
set_option maxRecDepth 100000 in
theorem kc_Node_setPlainKey : Cond.code y_Node_setPlainKey b_Node_setPlainKey 3 none ∈ lw_g := lg_mem 838 rfl rfl
set_option maxRecDepth 100000 in
theorem kc_Node_keptOfBase : Cond.code y_Node_keptOfBase b_Node_keptOfBase 1 (some .int) ∈ lw_g := lg_mem 854 rfl rfl
set_option maxRecDepth 100000 in
theorem kc_Node_setNumberedKey : Cond.code y_Node_setNumberedKey b_Node_setNumberedKey 3 none ∈ lw_g := lg_mem 871 rfl rfl
set_option maxRecDepth 100000 in
theorem kc_Node_isAlike : Cond.code y_Node_isAlike b_Node_isAlike 2 (some .boolean) ∈ lw_g := lg_mem 866 rfl rfl
set_option maxRecDepth 100000 in
theorem kc_Node_addShortTo : Cond.code y_Node_addShortTo b_Node_addShortTo 2 none ∈ lw_g := lg_mem 992 rfl rfl
set_option maxRecDepth 100000 in
theorem kc_Node_addLongTo : Cond.code y_Node_addLongTo b_Node_addLongTo 3 none ∈ lw_g := lg_mem 982 rfl rfl
set_option maxRecDepth 100000 in
theorem kc_Node_addKeyTo : Cond.code y_Node_addKeyTo b_Node_addKeyTo 6 none ∈ lw_g := lg_mem 996 rfl rfl
set_option maxRecDepth 100000 in
theorem kc_Node_lengthOf : Cond.code y_Node_lengthOf b_Node_lengthOf 4 (some .int) ∈ lw_g := lg_mem 858 rfl rfl
set_option maxRecDepth 100000 in
theorem kc_Node_findDot : Cond.code y_Node_findDot b_Node_findDot 2 (some .int) ∈ lw_g := lg_mem 842 rfl rfl
set_option maxRecDepth 100000 in
theorem kc_Node_capital : Cond.code y_Node_capital b_Node_capital 1 (some .byte) ∈ lw_g := lg_mem 848 rfl rfl
set_option maxRecDepth 100000 in
theorem kc_Node_compareRows : Cond.code y_Node_compareRows b_Node_compareRows 4 (some .int) ∈ lw_g := lg_mem 825 rfl rfl
set_option maxRecDepth 100000 in
theorem kc_PartsReader_init : Cond.code y_PartsReader_init b_PartsReader_init 2 none ∈ lw_g := lg_mem 390 rfl rfl
set_option maxRecDepth 100000 in
theorem kc_PartsReader_goThrough : Cond.code y_PartsReader_goThrough b_PartsReader_goThrough 9 (some .int) ∈ lw_g := lg_mem 1320 rfl rfl
set_option maxRecDepth 100000 in
theorem kc_PartsReader_takePart : Cond.code y_PartsReader_takePart b_PartsReader_takePart 3 (some .boolean) ∈ lw_g := lg_mem 1325 rfl rfl
set_option maxRecDepth 100000 in
theorem kc_PartsReader_takeName : Cond.code y_PartsReader_takeName b_PartsReader_takeName 4 (some .boolean) ∈ lw_g := lg_mem 1329 rfl rfl
set_option maxRecDepth 100000 in
theorem kc_PartsReader_takeOwnership : Cond.code y_PartsReader_takeOwnership b_PartsReader_takeOwnership 4 (some .boolean) ∈ lw_g := lg_mem 1335 rfl rfl
set_option maxRecDepth 100000 in
theorem kc_PartsReader_takeTarget : Cond.code y_PartsReader_takeTarget b_PartsReader_takeTarget 8 (some .boolean) ∈ lw_g := lg_mem 1341 rfl rfl
set_option maxRecDepth 100000 in
theorem kc_PartsReader_isComponent : Cond.code y_PartsReader_isComponent b_PartsReader_isComponent 2 (some .boolean) ∈ lw_g := lg_mem 1344 rfl rfl
set_option maxRecDepth 100000 in
theorem kc_PartsReader_dotsOf : Cond.code y_PartsReader_dotsOf b_PartsReader_dotsOf 1 (some .int) ∈ lw_g := lg_mem 1351 rfl rfl
set_option maxRecDepth 100000 in
theorem kc_PartsReader_takeContinuation : Cond.code y_PartsReader_takeContinuation b_PartsReader_takeContinuation 8 (some .boolean) ∈ lw_g := lg_mem 1359 rfl rfl
set_option maxRecDepth 100000 in
theorem kc_Reader_init : Cond.code y_Reader_init b_Reader_init 2 none ∈ lw_g := lg_mem 382 rfl rfl
set_option maxRecDepth 100000 in
theorem kc_Reader_find : Cond.code y_Reader_find b_Reader_find 2 (some (.object "DiscMaker$Found")) ∈ lw_g := lg_mem 1382 rfl rfl
set_option maxRecDepth 100000 in
theorem kc_Reader_open : Cond.code y_Reader_open b_Reader_open 4 (some .int) ∈ lw_g := lg_mem 1168 rfl rfl
set_option maxRecDepth 100000 in
theorem kc_Reader_findDescriptor : Cond.code y_Reader_findDescriptor b_Reader_findDescriptor 3 (some .int) ∈ lw_g := lg_mem 1172 rfl rfl
set_option maxRecDepth 100000 in
theorem kc_Reader_isWanted : Cond.code y_Reader_isWanted b_Reader_isWanted 2 (some .boolean) ∈ lw_g := lg_mem 1183 rfl rfl
set_option maxRecDepth 100000 in
theorem kc_Reader_readRoot : Cond.code y_Reader_readRoot b_Reader_readRoot 4 (some .int) ∈ lw_g := lg_mem 1188 rfl rfl
set_option maxRecDepth 100000 in
theorem kc_Reader_readDirectory : Cond.code y_Reader_readDirectory b_Reader_readDirectory 8 (some .int) ∈ lw_g := lg_mem 1287 rfl rfl
set_option maxRecDepth 100000 in
theorem kc_Reader_isRecord : Cond.code y_Reader_isRecord b_Reader_isRecord 8 (some .boolean) ∈ lw_g := lg_mem 1200 rfl rfl
set_option maxRecDepth 100000 in
theorem kc_Reader_isDirectory : Cond.code y_Reader_isDirectory b_Reader_isDirectory 2 (some .boolean) ∈ lw_g := lg_mem 1212 rfl rfl
set_option maxRecDepth 100000 in
theorem kc_Reader_sectorAt : Cond.code y_Reader_sectorAt b_Reader_sectorAt 2 (some .int) ∈ lw_g := lg_mem 1208 rfl rfl
set_option maxRecDepth 100000 in
theorem kc_Reader_sizeAt : Cond.code y_Reader_sizeAt b_Reader_sizeAt 2 (some .int) ∈ lw_g := lg_mem 1204 rfl rfl
set_option maxRecDepth 100000 in
theorem kc_Reader_isOwnRecord : Cond.code y_Reader_isOwnRecord b_Reader_isOwnRecord 4 (some .boolean) ∈ lw_g := lg_mem 1291 rfl rfl
set_option maxRecDepth 100000 in
theorem kc_Reader_addNode : Cond.code y_Reader_addNode b_Reader_addNode 4 (some .boolean) ∈ lw_g := lg_mem 1295 rfl rfl
set_option maxRecDepth 100000 in
theorem kc_Reader_isTaken : Cond.code y_Reader_isTaken b_Reader_isTaken 3 (some .boolean) ∈ lw_g := lg_mem 1299 rfl rfl
set_option maxRecDepth 100000 in
theorem kc_Reader_addRow : Cond.code y_Reader_addRow b_Reader_addRow 5 none ∈ lw_g := lg_mem 1217 rfl rfl
set_option maxRecDepth 100000 in
theorem kc_Reader_takeShortName : Cond.code y_Reader_takeShortName b_Reader_takeShortName 5 (some .boolean) ∈ lw_g := lg_mem 1366 rfl rfl
set_option maxRecDepth 100000 in
theorem kc_Reader_takeLongName : Cond.code y_Reader_takeLongName b_Reader_takeLongName 6 (some .boolean) ∈ lw_g := lg_mem 1307 rfl rfl
set_option maxRecDepth 100000 in
theorem kc_Reader_describe : Cond.code y_Reader_describe b_Reader_describe 5 (some .int) ∈ lw_g := lg_mem 1303 rfl rfl
set_option maxRecDepth 100000 in
theorem kc_Reader_describeRoot : Cond.code y_Reader_describeRoot b_Reader_describeRoot 3 (some .int) ∈ lw_g := lg_mem 1370 rfl rfl
set_option maxRecDepth 100000 in
theorem kc_SystemUse_init : Cond.code y_SystemUse_init b_SystemUse_init 1 none ∈ lw_g := lg_mem 326 rfl rfl
set_option maxRecDepth 100000 in
theorem kc_SystemUse_clear : Cond.code y_SystemUse_clear b_SystemUse_clear 1 none ∈ lw_g := lg_mem 894 rfl rfl
set_option maxRecDepth 100000 in
theorem kc_SystemUse_bytesInRecord : Cond.code y_SystemUse_bytesInRecord b_SystemUse_bytesInRecord 1 (some .int) ∈ lw_g := lg_mem 1041 rfl rfl
set_option maxRecDepth 100000 in
theorem kc_SystemUse_bytesBehind : Cond.code y_SystemUse_bytesBehind b_SystemUse_bytesBehind 1 (some .int) ∈ lw_g := lg_mem 1051 rfl rfl
set_option maxRecDepth 100000 in
theorem kc_SystemUse_fit : Cond.code y_SystemUse_fit b_SystemUse_fit 3 none ∈ lw_g := lg_mem 1037 rfl rfl
set_option maxRecDepth 100000 in
theorem kc_SystemUse_addRootsMark : Cond.code y_SystemUse_addRootsMark b_SystemUse_addRootsMark 2 none ∈ lw_g := lg_mem 1008 rfl rfl
set_option maxRecDepth 100000 in
theorem kc_SystemUse_addOwnership : Cond.code y_SystemUse_addOwnership b_SystemUse_addOwnership 4 none ∈ lw_g := lg_mem 1016 rfl rfl
set_option maxRecDepth 100000 in
theorem kc_SystemUse_addName : Cond.code y_SystemUse_addName b_SystemUse_addName 3 none ∈ lw_g := lg_mem 1029 rfl rfl
set_option maxRecDepth 100000 in
theorem kc_SystemUse_addTarget : Cond.code y_SystemUse_addTarget b_SystemUse_addTarget 5 none ∈ lw_g := lg_mem 902 rfl rfl
set_option maxRecDepth 100000 in
theorem kc_SystemUse_addComponent : Cond.code y_SystemUse_addComponent b_SystemUse_addComponent 8 none ∈ lw_g := lg_mem 918 rfl rfl
set_option maxRecDepth 100000 in
theorem kc_SystemUse_marksOf : Cond.code y_SystemUse_marksOf b_SystemUse_marksOf 3 (some .int) ∈ lw_g := lg_mem 921 rfl rfl
set_option maxRecDepth 100000 in
theorem kc_SystemUse_open : Cond.code y_SystemUse_open b_SystemUse_open 4 (some .int) ∈ lw_g := lg_mem 906 rfl rfl
set_option maxRecDepth 100000 in
theorem kc_SystemUse_close : Cond.code y_SystemUse_close b_SystemUse_close 2 none ∈ lw_g := lg_mem 925 rfl rfl
set_option maxRecDepth 100000 in
theorem kc_SystemUse_modeBits : Cond.code y_SystemUse_modeBits b_SystemUse_modeBits 1 (some .int) ∈ lw_g := lg_mem 1019 rfl rfl
set_option maxRecDepth 100000 in
theorem kc_Text_init : Cond.code y_Text_init b_Text_init 1 none ∈ lw_g := lg_mem 155 rfl rfl
set_option maxRecDepth 100000 in
theorem kc_Text_append : Cond.code y_Text_append b_Text_append 6 (some .boolean) ∈ lw_g := lg_mem 454 rfl rfl
set_option maxRecDepth 100000 in
theorem kc_Text_addFour : Cond.code y_Text_addFour b_Text_addFour 3 none ∈ lw_g := lg_mem 458 rfl rfl
set_option maxRecDepth 100000 in
theorem kc_Text_shorten : Cond.code y_Text_shorten b_Text_shorten 2 (some .boolean) ∈ lw_g := lg_mem 466 rfl rfl
set_option maxRecDepth 100000 in
theorem kc_Text_useUp : Cond.code y_Text_useUp b_Text_useUp 2 (some .int) ∈ lw_g := lg_mem 474 rfl rfl
set_option maxRecDepth 100000 in
theorem kc_Text_findZero : Cond.code y_Text_findZero b_Text_findZero 3 (some .int) ∈ lw_g := lg_mem 883 rfl rfl
set_option maxRecDepth 100000 in
theorem kc_Text_part : Cond.code y_Text_part b_Text_part 3 (some (.array .byte)) ∈ lw_g := lg_mem 486 rfl rfl
set_option maxRecDepth 100000 in
theorem kc_Tree_init : Cond.code y_Tree_init b_Tree_init 1 none ∈ lw_g := lg_mem 169 rfl rfl
set_option maxRecDepth 100000 in
theorem kc_Tree_has : Cond.code y_Tree_has b_Tree_has 2 (some .boolean) ∈ lw_g := lg_mem 802 rfl rfl
set_option maxRecDepth 100000 in
theorem kc_Tree_hasDirectory : Cond.code y_Tree_hasDirectory b_Tree_hasDirectory 2 (some .boolean) ∈ lw_g := lg_mem 798 rfl rfl
set_option maxRecDepth 100000 in
theorem kc_Tree_add : Cond.code y_Tree_add b_Tree_add 3 (some .int) ∈ lw_g := lg_mem 818 rfl rfl
set_option maxRecDepth 100000 in
theorem kc_Tree_directoriesIn : Cond.code y_Tree_directoriesIn b_Tree_directoriesIn 4 (some .int) ∈ lw_g := lg_mem 1012 rfl rfl
set_option maxRecDepth 100000 in
theorem kc_Tree_isNamed : Cond.code y_Tree_isNamed b_Tree_isNamed 3 (some .boolean) ∈ lw_g := lg_mem 822 rfl rfl
set_option maxRecDepth 100000 in
theorem kc_Tree_isFullFor : Cond.code y_Tree_isFullFor b_Tree_isFullFor 2 (some .boolean) ∈ lw_g := lg_mem 830 rfl rfl
set_option maxRecDepth 100000 in
theorem kc_Tree_makeDifferent : Cond.code y_Tree_makeDifferent b_Tree_makeDifferent 4 none ∈ lw_g := lg_mem 834 rfl rfl
set_option maxRecDepth 100000 in
theorem kc_Tree_isTaken : Cond.code y_Tree_isTaken b_Tree_isTaken 3 (some .boolean) ∈ lw_g := lg_mem 862 rfl rfl
abbrev b_Arrays_fill : ByteArray := prog_27_method_109_code
abbrev y_Arrays_fill : MethodName := ⟨"java/util/Arrays", "fill", "([BB)V"⟩
abbrev w_Arrays_fill : List Cond := .code y_Arrays_fill b_Arrays_fill 4 none :: lw_g
set_option maxRecDepth 100000 in
theorem kc_Arrays_fill : Cond.code y_Arrays_fill b_Arrays_fill 4 none ∈ lw_g := lg_mem 845 rfl rfl
abbrev b_Arrays_checkLength : ByteArray := prog_27_method_131_code
abbrev y_Arrays_checkLength : MethodName := ⟨"java/util/Arrays", "checkLength", "(II)V"⟩
abbrev w_Arrays_checkLength : List Cond := .code y_Arrays_checkLength b_Arrays_checkLength 2 none :: lw_g
set_option maxRecDepth 100000 in
theorem kc_Arrays_checkLength : Cond.code y_Arrays_checkLength b_Arrays_checkLength 2 none ∈ lw_g := lg_mem 495 rfl rfl
abbrev b_Arrays_copyOfRangeByte : ByteArray := prog_27_method_133_code
abbrev y_Arrays_copyOfRangeByte : MethodName := ⟨"java/util/Arrays", "copyOfRangeByte", "([BII)[B"⟩
abbrev w_Arrays_copyOfRangeByte : List Cond := .code y_Arrays_copyOfRangeByte b_Arrays_copyOfRangeByte 5 (some (.array .byte)) :: lw_g
set_option maxRecDepth 100000 in
theorem kc_Arrays_copyOfRangeByte : Cond.code y_Arrays_copyOfRangeByte b_Arrays_copyOfRangeByte 5 (some (.array .byte)) ∈ lw_g := lg_mem 492 rfl rfl
abbrev b_Arrays_copyOfRange : ByteArray := prog_27_method_132_code
abbrev y_Arrays_copyOfRange : MethodName := ⟨"java/util/Arrays", "copyOfRange", "([BII)[B"⟩
abbrev w_Arrays_copyOfRange : List Cond := .code y_Arrays_copyOfRange b_Arrays_copyOfRange 3 (some (.array .byte)) :: lw_g
set_option maxRecDepth 100000 in
theorem kc_Arrays_copyOfRange : Cond.code y_Arrays_copyOfRange b_Arrays_copyOfRange 3 (some (.array .byte)) ∈ lw_g := lg_mem 489 rfl rfl
theorem kMax : Cond.code Lib.Math.max.name Lib.Math.max.code 2 (some .int) ∈ lw_g := lg_mem 590 (by decide +kernel) rfl
theorem kMin : Cond.code Lib.Math.min.name Lib.Math.min.code 2 (some .int) ∈ lw_g := lg_mem 608 (by decide +kernel) rfl
