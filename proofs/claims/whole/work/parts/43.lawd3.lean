theorem dL_law_1318 : decode code 1318 = .ok (.invokevirtual 161, 3) := by decide +kernel
theorem dL_law_1321 : decode code 1321 = .ok (.if_icmp .eq 373, 3) := by decide +kernel
theorem dL_law_1324 : decode code 1324 = .ok (.iconst 0, 1) := by decide +kernel
theorem dL_law_1325 : decode code 1325 = .ok (.ireturn, 1) := by decide +kernel
theorem dL_law_1326 : decode code 1326 = .ok (.aload_n 1, 1) := by decide +kernel
theorem dL_law_1327 : decode code 1327 = .ok (.aload_n 0, 1) := by decide +kernel
theorem dL_law_1328 : decode code 1328 = .ok (.iload_n 3, 1) := by decide +kernel
theorem dL_law_1329 : decode code 1329 = .ok (.iconst 1, 1) := by decide +kernel
theorem dL_law_1330 : decode code 1330 = .ok (.iadd, 1) := by decide +kernel
theorem dL_law_1331 : decode code 1331 = .ok (.iaload, 1) := by decide +kernel
theorem dL_law_1332 : decode code 1332 = .ok (.aload_n 0, 1) := by decide +kernel
theorem dL_law_1333 : decode code 1333 = .ok (.iload_n 3, 1) := by decide +kernel
theorem dL_law_1334 : decode code 1334 = .ok (.iconst 2, 1) := by decide +kernel
theorem dL_law_1335 : decode code 1335 = .ok (.iadd, 1) := by decide +kernel
theorem dL_law_1336 : decode code 1336 = .ok (.iaload, 1) := by decide +kernel
theorem dL_law_1337 : decode code 1337 = .ok (.aload_n 0, 1) := by decide +kernel
theorem dL_law_1338 : decode code 1338 = .ok (.iload_n 3, 1) := by decide +kernel
theorem dL_law_1339 : decode code 1339 = .ok (.iconst 3, 1) := by decide +kernel
theorem dL_law_1340 : decode code 1340 = .ok (.iadd, 1) := by decide +kernel
theorem dL_law_1341 : decode code 1341 = .ok (.iaload, 1) := by decide +kernel
theorem dL_law_1342 : decode code 1342 = .ok (.invokevirtual 162, 3) := by decide +kernel
theorem dL_law_1345 : decode code 1345 = .ok (.aload_n 2, 1) := by decide +kernel
theorem dL_law_1346 : decode code 1346 = .ok (.aload_n 0, 1) := by decide +kernel
theorem dL_law_1347 : decode code 1347 = .ok (.iload_n 3, 1) := by decide +kernel
theorem dL_law_1348 : decode code 1348 = .ok (.iconst 1, 1) := by decide +kernel
theorem dL_law_1349 : decode code 1349 = .ok (.iadd, 1) := by decide +kernel
theorem dL_law_1350 : decode code 1350 = .ok (.iaload, 1) := by decide +kernel
theorem dL_law_1351 : decode code 1351 = .ok (.aload_n 0, 1) := by decide +kernel
theorem dL_law_1352 : decode code 1352 = .ok (.iload_n 3, 1) := by decide +kernel
theorem dL_law_1353 : decode code 1353 = .ok (.iconst 2, 1) := by decide +kernel
theorem dL_law_1354 : decode code 1354 = .ok (.iadd, 1) := by decide +kernel
theorem dL_law_1355 : decode code 1355 = .ok (.iaload, 1) := by decide +kernel
theorem dL_law_1356 : decode code 1356 = .ok (.aload_n 0, 1) := by decide +kernel
theorem dL_law_1357 : decode code 1357 = .ok (.iload_n 3, 1) := by decide +kernel
theorem dL_law_1358 : decode code 1358 = .ok (.iconst 3, 1) := by decide +kernel
theorem dL_law_1359 : decode code 1359 = .ok (.iadd, 1) := by decide +kernel
theorem dL_law_1360 : decode code 1360 = .ok (.iaload, 1) := by decide +kernel
theorem dL_law_1361 : decode code 1361 = .ok (.invokevirtual 165, 3) := by decide +kernel
theorem dL_law_1364 : decode code 1364 = .ok (.if_icmp .eq 330, 3) := by decide +kernel
theorem dL_law_1367 : decode code 1367 = .ok (.iconst 0, 1) := by decide +kernel
theorem dL_law_1368 : decode code 1368 = .ok (.ireturn, 1) := by decide +kernel
theorem dL_law_1369 : decode code 1369 = .ok (.aload_n 1, 1) := by decide +kernel
theorem dL_law_1370 : decode code 1370 = .ok (.aload_n 0, 1) := by decide +kernel
theorem dL_law_1371 : decode code 1371 = .ok (.iload_n 3, 1) := by decide +kernel
theorem dL_law_1372 : decode code 1372 = .ok (.iconst 1, 1) := by decide +kernel
theorem dL_law_1373 : decode code 1373 = .ok (.iadd, 1) := by decide +kernel
theorem dL_law_1374 : decode code 1374 = .ok (.iaload, 1) := by decide +kernel
theorem dL_law_1375 : decode code 1375 = .ok (.invokevirtual 166, 3) := by decide +kernel
theorem dL_law_1378 : decode code 1378 = .ok (.aload_n 2, 1) := by decide +kernel
theorem dL_law_1379 : decode code 1379 = .ok (.aload_n 0, 1) := by decide +kernel
theorem dL_law_1380 : decode code 1380 = .ok (.iload_n 3, 1) := by decide +kernel
theorem dL_law_1381 : decode code 1381 = .ok (.iconst 1, 1) := by decide +kernel
theorem dL_law_1382 : decode code 1382 = .ok (.iadd, 1) := by decide +kernel
theorem dL_law_1383 : decode code 1383 = .ok (.iaload, 1) := by decide +kernel
theorem dL_law_1384 : decode code 1384 = .ok (.invokevirtual 169, 3) := by decide +kernel
theorem dL_law_1387 : decode code 1387 = .ok (.if_icmp .eq 307, 3) := by decide +kernel
theorem dL_law_1390 : decode code 1390 = .ok (.iconst 0, 1) := by decide +kernel
theorem dL_law_1391 : decode code 1391 = .ok (.ireturn, 1) := by decide +kernel
theorem dL_law_1392 : decode code 1392 = .ok (.aload_n 1, 1) := by decide +kernel
theorem dL_law_1393 : decode code 1393 = .ok (.aload_n 0, 1) := by decide +kernel
theorem dL_law_1394 : decode code 1394 = .ok (.iload_n 3, 1) := by decide +kernel
theorem dL_law_1395 : decode code 1395 = .ok (.iconst 1, 1) := by decide +kernel
theorem dL_law_1396 : decode code 1396 = .ok (.iadd, 1) := by decide +kernel
theorem dL_law_1397 : decode code 1397 = .ok (.iaload, 1) := by decide +kernel
theorem dL_law_1398 : decode code 1398 = .ok (.aload_n 0, 1) := by decide +kernel
theorem dL_law_1399 : decode code 1399 = .ok (.iload_n 3, 1) := by decide +kernel
theorem dL_law_1400 : decode code 1400 = .ok (.iconst 2, 1) := by decide +kernel
theorem dL_law_1401 : decode code 1401 = .ok (.iadd, 1) := by decide +kernel
theorem dL_law_1402 : decode code 1402 = .ok (.iaload, 1) := by decide +kernel
theorem dL_law_1403 : decode code 1403 = .ok (.invokevirtual 170, 3) := by decide +kernel
theorem dL_law_1406 : decode code 1406 = .ok (.aload_n 2, 1) := by decide +kernel
theorem dL_law_1407 : decode code 1407 = .ok (.aload_n 0, 1) := by decide +kernel
theorem dL_law_1408 : decode code 1408 = .ok (.iload_n 3, 1) := by decide +kernel
theorem dL_law_1409 : decode code 1409 = .ok (.iconst 1, 1) := by decide +kernel
theorem dL_law_1410 : decode code 1410 = .ok (.iadd, 1) := by decide +kernel
theorem dL_law_1411 : decode code 1411 = .ok (.iaload, 1) := by decide +kernel
theorem dL_law_1412 : decode code 1412 = .ok (.aload_n 0, 1) := by decide +kernel
theorem dL_law_1413 : decode code 1413 = .ok (.iload_n 3, 1) := by decide +kernel
theorem dL_law_1414 : decode code 1414 = .ok (.iconst 2, 1) := by decide +kernel
theorem dL_law_1415 : decode code 1415 = .ok (.iadd, 1) := by decide +kernel
theorem dL_law_1416 : decode code 1416 = .ok (.iaload, 1) := by decide +kernel
theorem dL_law_1417 : decode code 1417 = .ok (.invokevirtual 173, 3) := by decide +kernel
theorem dL_law_1420 : decode code 1420 = .ok (.if_icmp .eq 274, 3) := by decide +kernel
theorem dL_law_1423 : decode code 1423 = .ok (.iconst 0, 1) := by decide +kernel
theorem dL_law_1424 : decode code 1424 = .ok (.ireturn, 1) := by decide +kernel
theorem dL_law_1425 : decode code 1425 = .ok (.aload_n 1, 1) := by decide +kernel
theorem dL_law_1426 : decode code 1426 = .ok (.aload_n 0, 1) := by decide +kernel
theorem dL_law_1427 : decode code 1427 = .ok (.iload_n 3, 1) := by decide +kernel
theorem dL_law_1428 : decode code 1428 = .ok (.iconst 1, 1) := by decide +kernel
theorem dL_law_1429 : decode code 1429 = .ok (.iadd, 1) := by decide +kernel
theorem dL_law_1430 : decode code 1430 = .ok (.iaload, 1) := by decide +kernel
theorem dL_law_1431 : decode code 1431 = .ok (.aload_n 0, 1) := by decide +kernel
theorem dL_law_1432 : decode code 1432 = .ok (.iload_n 3, 1) := by decide +kernel
theorem dL_law_1433 : decode code 1433 = .ok (.iconst 2, 1) := by decide +kernel
theorem dL_law_1434 : decode code 1434 = .ok (.iadd, 1) := by decide +kernel
theorem dL_law_1435 : decode code 1435 = .ok (.iaload, 1) := by decide +kernel
theorem dL_law_1436 : decode code 1436 = .ok (.aload_n 0, 1) := by decide +kernel
theorem dL_law_1437 : decode code 1437 = .ok (.iload_n 3, 1) := by decide +kernel
theorem dL_law_1438 : decode code 1438 = .ok (.iconst 3, 1) := by decide +kernel
theorem dL_law_1439 : decode code 1439 = .ok (.iadd, 1) := by decide +kernel
theorem dL_law_1440 : decode code 1440 = .ok (.iaload, 1) := by decide +kernel
theorem dL_law_1441 : decode code 1441 = .ok (.invokevirtual 174, 3) := by decide +kernel
theorem dL_law_1444 : decode code 1444 = .ok (.aload_n 2, 1) := by decide +kernel
theorem dL_law_1445 : decode code 1445 = .ok (.aload_n 0, 1) := by decide +kernel
theorem dL_law_1446 : decode code 1446 = .ok (.iload_n 3, 1) := by decide +kernel
theorem dL_law_1447 : decode code 1447 = .ok (.iconst 1, 1) := by decide +kernel
theorem dL_law_1448 : decode code 1448 = .ok (.iadd, 1) := by decide +kernel
theorem dL_law_1449 : decode code 1449 = .ok (.iaload, 1) := by decide +kernel
theorem dL_law_1450 : decode code 1450 = .ok (.aload_n 0, 1) := by decide +kernel
theorem dL_law_1451 : decode code 1451 = .ok (.iload_n 3, 1) := by decide +kernel
theorem dL_law_1452 : decode code 1452 = .ok (.iconst 2, 1) := by decide +kernel
theorem dL_law_1453 : decode code 1453 = .ok (.iadd, 1) := by decide +kernel
theorem dL_law_1454 : decode code 1454 = .ok (.iaload, 1) := by decide +kernel
theorem dL_law_1455 : decode code 1455 = .ok (.aload_n 0, 1) := by decide +kernel
theorem dL_law_1456 : decode code 1456 = .ok (.iload_n 3, 1) := by decide +kernel
theorem dL_law_1457 : decode code 1457 = .ok (.iconst 3, 1) := by decide +kernel
theorem dL_law_1458 : decode code 1458 = .ok (.iadd, 1) := by decide +kernel
theorem dL_law_1459 : decode code 1459 = .ok (.iaload, 1) := by decide +kernel
theorem dL_law_1460 : decode code 1460 = .ok (.invokevirtual 177, 3) := by decide +kernel
theorem dL_law_1463 : decode code 1463 = .ok (.if_icmp .eq 231, 3) := by decide +kernel
theorem dL_law_1466 : decode code 1466 = .ok (.iconst 0, 1) := by decide +kernel
theorem dL_law_1467 : decode code 1467 = .ok (.ireturn, 1) := by decide +kernel
theorem dL_law_1468 : decode code 1468 = .ok (.aload_n 1, 1) := by decide +kernel
theorem dL_law_1469 : decode code 1469 = .ok (.aload_n 0, 1) := by decide +kernel
theorem dL_law_1470 : decode code 1470 = .ok (.iload_n 3, 1) := by decide +kernel
theorem dL_law_1471 : decode code 1471 = .ok (.iconst 1, 1) := by decide +kernel
theorem dL_law_1472 : decode code 1472 = .ok (.iadd, 1) := by decide +kernel
theorem dL_law_1473 : decode code 1473 = .ok (.iaload, 1) := by decide +kernel
theorem dL_law_1474 : decode code 1474 = .ok (.aload_n 0, 1) := by decide +kernel
theorem dL_law_1475 : decode code 1475 = .ok (.iload_n 3, 1) := by decide +kernel
theorem dL_law_1476 : decode code 1476 = .ok (.iconst 2, 1) := by decide +kernel
theorem dL_law_1477 : decode code 1477 = .ok (.iadd, 1) := by decide +kernel
theorem dL_law_1478 : decode code 1478 = .ok (.iaload, 1) := by decide +kernel
theorem dL_law_1479 : decode code 1479 = .ok (.aload_n 0, 1) := by decide +kernel
theorem dL_law_1480 : decode code 1480 = .ok (.iload_n 3, 1) := by decide +kernel
theorem dL_law_1481 : decode code 1481 = .ok (.iconst 3, 1) := by decide +kernel
theorem dL_law_1482 : decode code 1482 = .ok (.iadd, 1) := by decide +kernel
theorem dL_law_1483 : decode code 1483 = .ok (.iaload, 1) := by decide +kernel
theorem dL_law_1484 : decode code 1484 = .ok (.i2l, 1) := by decide +kernel
theorem dL_law_1485 : decode code 1485 = .ok (.bipush 32, 2) := by decide +kernel
theorem dL_law_1487 : decode code 1487 = .ok (.lshl, 1) := by decide +kernel
theorem dL_law_1488 : decode code 1488 = .ok (.aload_n 0, 1) := by decide +kernel
theorem dL_law_1489 : decode code 1489 = .ok (.iload_n 3, 1) := by decide +kernel
theorem dL_law_1490 : decode code 1490 = .ok (.iconst 4, 1) := by decide +kernel
theorem dL_law_1491 : decode code 1491 = .ok (.iadd, 1) := by decide +kernel
theorem dL_law_1492 : decode code 1492 = .ok (.iaload, 1) := by decide +kernel
theorem dL_law_1493 : decode code 1493 = .ok (.i2l, 1) := by decide +kernel
theorem dL_law_1494 : decode code 1494 = .ok (.ldc2_w 178, 3) := by decide +kernel
theorem dL_law_1497 : decode code 1497 = .ok (.land, 1) := by decide +kernel
theorem dL_law_1498 : decode code 1498 = .ok (.lor, 1) := by decide +kernel
theorem dL_law_1499 : decode code 1499 = .ok (.invokevirtual 180, 3) := by decide +kernel
theorem dL_law_1502 : decode code 1502 = .ok (.aload_n 2, 1) := by decide +kernel
theorem dL_law_1503 : decode code 1503 = .ok (.aload_n 0, 1) := by decide +kernel
theorem dL_law_1504 : decode code 1504 = .ok (.iload_n 3, 1) := by decide +kernel
theorem dL_law_1505 : decode code 1505 = .ok (.iconst 1, 1) := by decide +kernel
theorem dL_law_1506 : decode code 1506 = .ok (.iadd, 1) := by decide +kernel
theorem dL_law_1507 : decode code 1507 = .ok (.iaload, 1) := by decide +kernel
theorem dL_law_1508 : decode code 1508 = .ok (.aload_n 0, 1) := by decide +kernel
theorem dL_law_1509 : decode code 1509 = .ok (.iload_n 3, 1) := by decide +kernel
theorem dL_law_1510 : decode code 1510 = .ok (.iconst 2, 1) := by decide +kernel
theorem dL_law_1511 : decode code 1511 = .ok (.iadd, 1) := by decide +kernel
theorem dL_law_1512 : decode code 1512 = .ok (.iaload, 1) := by decide +kernel
theorem dL_law_1513 : decode code 1513 = .ok (.aload_n 0, 1) := by decide +kernel
theorem dL_law_1514 : decode code 1514 = .ok (.iload_n 3, 1) := by decide +kernel
theorem dL_law_1515 : decode code 1515 = .ok (.iconst 3, 1) := by decide +kernel
theorem dL_law_1516 : decode code 1516 = .ok (.iadd, 1) := by decide +kernel
theorem dL_law_1517 : decode code 1517 = .ok (.iaload, 1) := by decide +kernel
theorem dL_law_1518 : decode code 1518 = .ok (.i2l, 1) := by decide +kernel
theorem dL_law_1519 : decode code 1519 = .ok (.bipush 32, 2) := by decide +kernel
theorem dL_law_1521 : decode code 1521 = .ok (.lshl, 1) := by decide +kernel
theorem dL_law_1522 : decode code 1522 = .ok (.aload_n 0, 1) := by decide +kernel
theorem dL_law_1523 : decode code 1523 = .ok (.iload_n 3, 1) := by decide +kernel
theorem dL_law_1524 : decode code 1524 = .ok (.iconst 4, 1) := by decide +kernel
theorem dL_law_1525 : decode code 1525 = .ok (.iadd, 1) := by decide +kernel
theorem dL_law_1526 : decode code 1526 = .ok (.iaload, 1) := by decide +kernel
theorem dL_law_1527 : decode code 1527 = .ok (.i2l, 1) := by decide +kernel
theorem dL_law_1528 : decode code 1528 = .ok (.ldc2_w 178, 3) := by decide +kernel
theorem dL_law_1531 : decode code 1531 = .ok (.land, 1) := by decide +kernel
theorem dL_law_1532 : decode code 1532 = .ok (.lor, 1) := by decide +kernel
theorem dL_law_1533 : decode code 1533 = .ok (.invokevirtual 184, 3) := by decide +kernel
theorem dL_law_1536 : decode code 1536 = .ok (.if_icmp .eq 158, 3) := by decide +kernel
theorem dL_law_1539 : decode code 1539 = .ok (.iconst 0, 1) := by decide +kernel
theorem dL_law_1540 : decode code 1540 = .ok (.ireturn, 1) := by decide +kernel
theorem dL_law_1541 : decode code 1541 = .ok (.aload_n 1, 1) := by decide +kernel
theorem dL_law_1542 : decode code 1542 = .ok (.aload_n 0, 1) := by decide +kernel
theorem dL_law_1543 : decode code 1543 = .ok (.iload_n 3, 1) := by decide +kernel
theorem dL_law_1544 : decode code 1544 = .ok (.iconst 1, 1) := by decide +kernel
theorem dL_law_1545 : decode code 1545 = .ok (.iadd, 1) := by decide +kernel
theorem dL_law_1546 : decode code 1546 = .ok (.iaload, 1) := by decide +kernel
theorem dL_law_1547 : decode code 1547 = .ok (.aload_n 0, 1) := by decide +kernel
theorem dL_law_1548 : decode code 1548 = .ok (.iload_n 3, 1) := by decide +kernel
theorem dL_law_1549 : decode code 1549 = .ok (.iconst 2, 1) := by decide +kernel
theorem dL_law_1550 : decode code 1550 = .ok (.iadd, 1) := by decide +kernel
theorem dL_law_1551 : decode code 1551 = .ok (.iaload, 1) := by decide +kernel
theorem dL_law_1552 : decode code 1552 = .ok (.invokevirtual 185, 3) := by decide +kernel
theorem dL_law_1555 : decode code 1555 = .ok (.aload_n 2, 1) := by decide +kernel
theorem dL_law_1556 : decode code 1556 = .ok (.aload_n 0, 1) := by decide +kernel
theorem dL_law_1557 : decode code 1557 = .ok (.iload_n 3, 1) := by decide +kernel
theorem dL_law_1558 : decode code 1558 = .ok (.iconst 1, 1) := by decide +kernel
theorem dL_law_1559 : decode code 1559 = .ok (.iadd, 1) := by decide +kernel
theorem dL_law_1560 : decode code 1560 = .ok (.iaload, 1) := by decide +kernel
theorem dL_law_1561 : decode code 1561 = .ok (.aload_n 0, 1) := by decide +kernel
theorem dL_law_1562 : decode code 1562 = .ok (.iload_n 3, 1) := by decide +kernel
theorem dL_law_1563 : decode code 1563 = .ok (.iconst 2, 1) := by decide +kernel
theorem dL_law_1564 : decode code 1564 = .ok (.iadd, 1) := by decide +kernel
theorem dL_law_1565 : decode code 1565 = .ok (.iaload, 1) := by decide +kernel
theorem dL_law_1566 : decode code 1566 = .ok (.invokevirtual 189, 3) := by decide +kernel
theorem dL_law_1569 : decode code 1569 = .ok (.lcmp, 1) := by decide +kernel
theorem dL_law_1570 : decode code 1570 = .ok (.ifCond .eq 124, 3) := by decide +kernel
theorem dL_law_1573 : decode code 1573 = .ok (.iconst 0, 1) := by decide +kernel
theorem dL_law_1574 : decode code 1574 = .ok (.ireturn, 1) := by decide +kernel
theorem dL_law_1575 : decode code 1575 = .ok (.aload_n 1, 1) := by decide +kernel
theorem dL_law_1576 : decode code 1576 = .ok (.aload_n 0, 1) := by decide +kernel
theorem dL_law_1577 : decode code 1577 = .ok (.iload_n 3, 1) := by decide +kernel
theorem dL_law_1578 : decode code 1578 = .ok (.iconst 1, 1) := by decide +kernel
theorem dL_law_1579 : decode code 1579 = .ok (.iadd, 1) := by decide +kernel
theorem dL_law_1580 : decode code 1580 = .ok (.iaload, 1) := by decide +kernel
theorem dL_law_1581 : decode code 1581 = .ok (.aload_n 0, 1) := by decide +kernel
theorem dL_law_1582 : decode code 1582 = .ok (.iload_n 3, 1) := by decide +kernel
theorem dL_law_1583 : decode code 1583 = .ok (.iconst 2, 1) := by decide +kernel
theorem dL_law_1584 : decode code 1584 = .ok (.iadd, 1) := by decide +kernel
theorem dL_law_1585 : decode code 1585 = .ok (.iaload, 1) := by decide +kernel
theorem dL_law_1586 : decode code 1586 = .ok (.aload_n 0, 1) := by decide +kernel
theorem dL_law_1587 : decode code 1587 = .ok (.iload_n 3, 1) := by decide +kernel
theorem dL_law_1588 : decode code 1588 = .ok (.iconst 3, 1) := by decide +kernel
theorem dL_law_1589 : decode code 1589 = .ok (.iadd, 1) := by decide +kernel
theorem dL_law_1590 : decode code 1590 = .ok (.iaload, 1) := by decide +kernel
theorem dL_law_1591 : decode code 1591 = .ok (.aload_n 0, 1) := by decide +kernel
theorem dL_law_1592 : decode code 1592 = .ok (.iload_n 3, 1) := by decide +kernel
theorem dL_law_1593 : decode code 1593 = .ok (.iconst 4, 1) := by decide +kernel
theorem dL_law_1594 : decode code 1594 = .ok (.iadd, 1) := by decide +kernel
theorem dL_law_1595 : decode code 1595 = .ok (.iaload, 1) := by decide +kernel
theorem dL_law_1596 : decode code 1596 = .ok (.aload_n 0, 1) := by decide +kernel
theorem dL_law_1597 : decode code 1597 = .ok (.iload_n 3, 1) := by decide +kernel
theorem dL_law_1598 : decode code 1598 = .ok (.iconst 5, 1) := by decide +kernel
theorem dL_law_1599 : decode code 1599 = .ok (.iadd, 1) := by decide +kernel
theorem dL_law_1600 : decode code 1600 = .ok (.iaload, 1) := by decide +kernel
theorem dL_law_1601 : decode code 1601 = .ok (.invokevirtual 190, 3) := by decide +kernel
theorem dL_law_1604 : decode code 1604 = .ok (.aload_n 2, 1) := by decide +kernel
theorem dL_law_1605 : decode code 1605 = .ok (.aload_n 0, 1) := by decide +kernel
theorem dL_law_1606 : decode code 1606 = .ok (.iload_n 3, 1) := by decide +kernel
theorem dL_law_1607 : decode code 1607 = .ok (.iconst 1, 1) := by decide +kernel
theorem dL_law_1608 : decode code 1608 = .ok (.iadd, 1) := by decide +kernel
theorem dL_law_1609 : decode code 1609 = .ok (.iaload, 1) := by decide +kernel
theorem dL_law_1610 : decode code 1610 = .ok (.aload_n 0, 1) := by decide +kernel
theorem dL_law_1611 : decode code 1611 = .ok (.iload_n 3, 1) := by decide +kernel
theorem dL_law_1612 : decode code 1612 = .ok (.iconst 2, 1) := by decide +kernel
theorem dL_law_1613 : decode code 1613 = .ok (.iadd, 1) := by decide +kernel
theorem dL_law_1614 : decode code 1614 = .ok (.iaload, 1) := by decide +kernel
theorem dL_law_1615 : decode code 1615 = .ok (.aload_n 0, 1) := by decide +kernel
theorem dL_law_1616 : decode code 1616 = .ok (.iload_n 3, 1) := by decide +kernel
theorem dL_law_1617 : decode code 1617 = .ok (.iconst 3, 1) := by decide +kernel
theorem dL_law_1618 : decode code 1618 = .ok (.iadd, 1) := by decide +kernel
theorem dL_law_1619 : decode code 1619 = .ok (.iaload, 1) := by decide +kernel
theorem dL_law_1620 : decode code 1620 = .ok (.aload_n 0, 1) := by decide +kernel
theorem dL_law_1621 : decode code 1621 = .ok (.iload_n 3, 1) := by decide +kernel
theorem dL_law_1622 : decode code 1622 = .ok (.iconst 4, 1) := by decide +kernel
theorem dL_law_1623 : decode code 1623 = .ok (.iadd, 1) := by decide +kernel
theorem dL_law_1624 : decode code 1624 = .ok (.iaload, 1) := by decide +kernel
theorem dL_law_1625 : decode code 1625 = .ok (.aload_n 0, 1) := by decide +kernel
theorem dL_law_1626 : decode code 1626 = .ok (.iload_n 3, 1) := by decide +kernel
theorem dL_law_1627 : decode code 1627 = .ok (.iconst 5, 1) := by decide +kernel
theorem dL_law_1628 : decode code 1628 = .ok (.iadd, 1) := by decide +kernel
theorem dL_law_1629 : decode code 1629 = .ok (.iaload, 1) := by decide +kernel
theorem dL_law_1630 : decode code 1630 = .ok (.invokevirtual 194, 3) := by decide +kernel
theorem dL_law_1633 : decode code 1633 = .ok (.if_icmp .eq 61, 3) := by decide +kernel
theorem dL_law_1636 : decode code 1636 = .ok (.iconst 0, 1) := by decide +kernel
theorem dL_law_1637 : decode code 1637 = .ok (.ireturn, 1) := by decide +kernel
theorem dL_law_1638 : decode code 1638 = .ok (.aload_n 1, 1) := by decide +kernel
theorem dL_law_1639 : decode code 1639 = .ok (.aload_n 0, 1) := by decide +kernel
theorem dL_law_1640 : decode code 1640 = .ok (.iload_n 3, 1) := by decide +kernel
theorem dL_law_1641 : decode code 1641 = .ok (.iconst 1, 1) := by decide +kernel
theorem dL_law_1642 : decode code 1642 = .ok (.iadd, 1) := by decide +kernel
theorem dL_law_1643 : decode code 1643 = .ok (.iaload, 1) := by decide +kernel
theorem dL_law_1644 : decode code 1644 = .ok (.aload_n 0, 1) := by decide +kernel
theorem dL_law_1645 : decode code 1645 = .ok (.iload_n 3, 1) := by decide +kernel
theorem dL_law_1646 : decode code 1646 = .ok (.iconst 2, 1) := by decide +kernel
theorem dL_law_1647 : decode code 1647 = .ok (.iadd, 1) := by decide +kernel
theorem dL_law_1648 : decode code 1648 = .ok (.iaload, 1) := by decide +kernel
theorem dL_law_1649 : decode code 1649 = .ok (.invokevirtual 195, 3) := by decide +kernel
theorem dL_law_1652 : decode code 1652 = .ok (.aload_n 2, 1) := by decide +kernel
theorem dL_law_1653 : decode code 1653 = .ok (.aload_n 0, 1) := by decide +kernel
theorem dL_law_1654 : decode code 1654 = .ok (.iload_n 3, 1) := by decide +kernel
theorem dL_law_1655 : decode code 1655 = .ok (.iconst 1, 1) := by decide +kernel
theorem dL_law_1656 : decode code 1656 = .ok (.iadd, 1) := by decide +kernel
theorem dL_law_1657 : decode code 1657 = .ok (.iaload, 1) := by decide +kernel
theorem dL_law_1658 : decode code 1658 = .ok (.aload_n 0, 1) := by decide +kernel
theorem dL_law_1659 : decode code 1659 = .ok (.iload_n 3, 1) := by decide +kernel
theorem dL_law_1660 : decode code 1660 = .ok (.iconst 2, 1) := by decide +kernel
theorem dL_law_1661 : decode code 1661 = .ok (.iadd, 1) := by decide +kernel
theorem dL_law_1662 : decode code 1662 = .ok (.iaload, 1) := by decide +kernel
theorem dL_law_1663 : decode code 1663 = .ok (.invokevirtual 198, 3) := by decide +kernel
theorem dL_law_1666 : decode code 1666 = .ok (.if_icmp .eq 28, 3) := by decide +kernel
theorem dL_law_1669 : decode code 1669 = .ok (.iconst 0, 1) := by decide +kernel
theorem dL_law_1670 : decode code 1670 = .ok (.ireturn, 1) := by decide +kernel
theorem dL_law_1671 : decode code 1671 = .ok (.aload_n 1, 1) := by decide +kernel
theorem dL_law_1672 : decode code 1672 = .ok (.aload_n 0, 1) := by decide +kernel
theorem dL_law_1673 : decode code 1673 = .ok (.iload_n 3, 1) := by decide +kernel
theorem dL_law_1674 : decode code 1674 = .ok (.iconst 1, 1) := by decide +kernel
theorem dL_law_1675 : decode code 1675 = .ok (.iadd, 1) := by decide +kernel
