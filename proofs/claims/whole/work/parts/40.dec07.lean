theorem dL_law_1281 : decode code 1281 = .ok (.iaload, 1) := by decide +kernel
theorem dL_law_1282 : decode code 1282 = .ok (.invokevirtual 143, 3) := by decide +kernel
theorem dL_law_1285 : decode code 1285 = .ok (.if_icmp .eq 707, 3) := by decide +kernel
theorem dL_law_1288 : decode code 1288 = .ok (.iconst 0, 1) := by decide +kernel
theorem dL_law_1289 : decode code 1289 = .ok (.ireturn, 1) := by decide +kernel
theorem dL_law_1290 : decode code 1290 = .ok (.aload_n 1, 1) := by decide +kernel
theorem dL_law_1291 : decode code 1291 = .ok (.aload_n 0, 1) := by decide +kernel
theorem dL_law_1292 : decode code 1292 = .ok (.iload 4, 2) := by decide +kernel
theorem dL_law_1294 : decode code 1294 = .ok (.iconst 1, 1) := by decide +kernel
theorem dL_law_1295 : decode code 1295 = .ok (.iadd, 1) := by decide +kernel
theorem dL_law_1296 : decode code 1296 = .ok (.iaload, 1) := by decide +kernel
theorem dL_law_1297 : decode code 1297 = .ok (.aload_n 0, 1) := by decide +kernel
theorem dL_law_1298 : decode code 1298 = .ok (.iload 4, 2) := by decide +kernel
theorem dL_law_1300 : decode code 1300 = .ok (.iconst 2, 1) := by decide +kernel
theorem dL_law_1301 : decode code 1301 = .ok (.iadd, 1) := by decide +kernel
theorem dL_law_1302 : decode code 1302 = .ok (.iaload, 1) := by decide +kernel
theorem dL_law_1303 : decode code 1303 = .ok (.aload_n 0, 1) := by decide +kernel
theorem dL_law_1304 : decode code 1304 = .ok (.iload 4, 2) := by decide +kernel
theorem dL_law_1306 : decode code 1306 = .ok (.iconst 3, 1) := by decide +kernel
theorem dL_law_1307 : decode code 1307 = .ok (.iadd, 1) := by decide +kernel
theorem dL_law_1308 : decode code 1308 = .ok (.iaload, 1) := by decide +kernel
theorem dL_law_1309 : decode code 1309 = .ok (.invokevirtual 144, 3) := by decide +kernel
theorem dL_law_1312 : decode code 1312 = .ok (.aload_n 2, 1) := by decide +kernel
theorem dL_law_1313 : decode code 1313 = .ok (.aload_n 0, 1) := by decide +kernel
theorem dL_law_1314 : decode code 1314 = .ok (.iload 4, 2) := by decide +kernel
theorem dL_law_1316 : decode code 1316 = .ok (.iconst 1, 1) := by decide +kernel
theorem dL_law_1317 : decode code 1317 = .ok (.iadd, 1) := by decide +kernel
theorem dL_law_1318 : decode code 1318 = .ok (.iaload, 1) := by decide +kernel
theorem dL_law_1319 : decode code 1319 = .ok (.aload_n 0, 1) := by decide +kernel
theorem dL_law_1320 : decode code 1320 = .ok (.iload 4, 2) := by decide +kernel
theorem dL_law_1322 : decode code 1322 = .ok (.iconst 2, 1) := by decide +kernel
theorem dL_law_1323 : decode code 1323 = .ok (.iadd, 1) := by decide +kernel
theorem dL_law_1324 : decode code 1324 = .ok (.iaload, 1) := by decide +kernel
theorem dL_law_1325 : decode code 1325 = .ok (.aload_n 0, 1) := by decide +kernel
theorem dL_law_1326 : decode code 1326 = .ok (.iload 4, 2) := by decide +kernel
theorem dL_law_1328 : decode code 1328 = .ok (.iconst 3, 1) := by decide +kernel
theorem dL_law_1329 : decode code 1329 = .ok (.iadd, 1) := by decide +kernel
theorem dL_law_1330 : decode code 1330 = .ok (.iaload, 1) := by decide +kernel
theorem dL_law_1331 : decode code 1331 = .ok (.invokevirtual 147, 3) := by decide +kernel
theorem dL_law_1334 : decode code 1334 = .ok (.if_icmp .eq 658, 3) := by decide +kernel
theorem dL_law_1337 : decode code 1337 = .ok (.iconst 0, 1) := by decide +kernel
theorem dL_law_1338 : decode code 1338 = .ok (.ireturn, 1) := by decide +kernel
theorem dL_law_1339 : decode code 1339 = .ok (.aload_n 1, 1) := by decide +kernel
theorem dL_law_1340 : decode code 1340 = .ok (.aload_n 0, 1) := by decide +kernel
theorem dL_law_1341 : decode code 1341 = .ok (.iload 4, 2) := by decide +kernel
theorem dL_law_1343 : decode code 1343 = .ok (.iconst 1, 1) := by decide +kernel
theorem dL_law_1344 : decode code 1344 = .ok (.iadd, 1) := by decide +kernel
theorem dL_law_1345 : decode code 1345 = .ok (.iaload, 1) := by decide +kernel
theorem dL_law_1346 : decode code 1346 = .ok (.aload_n 0, 1) := by decide +kernel
theorem dL_law_1347 : decode code 1347 = .ok (.iload 4, 2) := by decide +kernel
theorem dL_law_1349 : decode code 1349 = .ok (.iconst 2, 1) := by decide +kernel
theorem dL_law_1350 : decode code 1350 = .ok (.iadd, 1) := by decide +kernel
theorem dL_law_1351 : decode code 1351 = .ok (.iaload, 1) := by decide +kernel
theorem dL_law_1352 : decode code 1352 = .ok (.invokevirtual 148, 3) := by decide +kernel
theorem dL_law_1355 : decode code 1355 = .ok (.aload_n 2, 1) := by decide +kernel
theorem dL_law_1356 : decode code 1356 = .ok (.aload_n 0, 1) := by decide +kernel
theorem dL_law_1357 : decode code 1357 = .ok (.iload 4, 2) := by decide +kernel
theorem dL_law_1359 : decode code 1359 = .ok (.iconst 1, 1) := by decide +kernel
theorem dL_law_1360 : decode code 1360 = .ok (.iadd, 1) := by decide +kernel
theorem dL_law_1361 : decode code 1361 = .ok (.iaload, 1) := by decide +kernel
theorem dL_law_1362 : decode code 1362 = .ok (.aload_n 0, 1) := by decide +kernel
theorem dL_law_1363 : decode code 1363 = .ok (.iload 4, 2) := by decide +kernel
theorem dL_law_1365 : decode code 1365 = .ok (.iconst 2, 1) := by decide +kernel
theorem dL_law_1366 : decode code 1366 = .ok (.iadd, 1) := by decide +kernel
theorem dL_law_1367 : decode code 1367 = .ok (.iaload, 1) := by decide +kernel
theorem dL_law_1368 : decode code 1368 = .ok (.invokevirtual 151, 3) := by decide +kernel
theorem dL_law_1371 : decode code 1371 = .ok (.if_icmp .eq 621, 3) := by decide +kernel
theorem dL_law_1374 : decode code 1374 = .ok (.iconst 0, 1) := by decide +kernel
theorem dL_law_1375 : decode code 1375 = .ok (.ireturn, 1) := by decide +kernel
theorem dL_law_1376 : decode code 1376 = .ok (.aload_n 1, 1) := by decide +kernel
theorem dL_law_1377 : decode code 1377 = .ok (.aload_n 0, 1) := by decide +kernel
theorem dL_law_1378 : decode code 1378 = .ok (.iload 4, 2) := by decide +kernel
theorem dL_law_1380 : decode code 1380 = .ok (.iconst 1, 1) := by decide +kernel
theorem dL_law_1381 : decode code 1381 = .ok (.iadd, 1) := by decide +kernel
theorem dL_law_1382 : decode code 1382 = .ok (.iaload, 1) := by decide +kernel
theorem dL_law_1383 : decode code 1383 = .ok (.invokevirtual 152, 3) := by decide +kernel
theorem dL_law_1386 : decode code 1386 = .ok (.aload_n 2, 1) := by decide +kernel
theorem dL_law_1387 : decode code 1387 = .ok (.aload_n 0, 1) := by decide +kernel
theorem dL_law_1388 : decode code 1388 = .ok (.iload 4, 2) := by decide +kernel
theorem dL_law_1390 : decode code 1390 = .ok (.iconst 1, 1) := by decide +kernel
theorem dL_law_1391 : decode code 1391 = .ok (.iadd, 1) := by decide +kernel
theorem dL_law_1392 : decode code 1392 = .ok (.iaload, 1) := by decide +kernel
theorem dL_law_1393 : decode code 1393 = .ok (.invokevirtual 155, 3) := by decide +kernel
theorem dL_law_1396 : decode code 1396 = .ok (.if_icmp .eq 596, 3) := by decide +kernel
theorem dL_law_1399 : decode code 1399 = .ok (.iconst 0, 1) := by decide +kernel
theorem dL_law_1400 : decode code 1400 = .ok (.ireturn, 1) := by decide +kernel
theorem dL_law_1401 : decode code 1401 = .ok (.aload_n 1, 1) := by decide +kernel
theorem dL_law_1402 : decode code 1402 = .ok (.aload_n 0, 1) := by decide +kernel
theorem dL_law_1403 : decode code 1403 = .ok (.iload 4, 2) := by decide +kernel
theorem dL_law_1405 : decode code 1405 = .ok (.iconst 1, 1) := by decide +kernel
theorem dL_law_1406 : decode code 1406 = .ok (.iadd, 1) := by decide +kernel
theorem dL_law_1407 : decode code 1407 = .ok (.iaload, 1) := by decide +kernel
theorem dL_law_1408 : decode code 1408 = .ok (.aload_n 0, 1) := by decide +kernel
theorem dL_law_1409 : decode code 1409 = .ok (.iload 4, 2) := by decide +kernel
theorem dL_law_1411 : decode code 1411 = .ok (.iconst 2, 1) := by decide +kernel
theorem dL_law_1412 : decode code 1412 = .ok (.iadd, 1) := by decide +kernel
theorem dL_law_1413 : decode code 1413 = .ok (.iaload, 1) := by decide +kernel
theorem dL_law_1414 : decode code 1414 = .ok (.invokevirtual 156, 3) := by decide +kernel
theorem dL_law_1417 : decode code 1417 = .ok (.aload_n 2, 1) := by decide +kernel
theorem dL_law_1418 : decode code 1418 = .ok (.aload_n 0, 1) := by decide +kernel
theorem dL_law_1419 : decode code 1419 = .ok (.iload 4, 2) := by decide +kernel
theorem dL_law_1421 : decode code 1421 = .ok (.iconst 1, 1) := by decide +kernel
theorem dL_law_1422 : decode code 1422 = .ok (.iadd, 1) := by decide +kernel
theorem dL_law_1423 : decode code 1423 = .ok (.iaload, 1) := by decide +kernel
theorem dL_law_1424 : decode code 1424 = .ok (.aload_n 0, 1) := by decide +kernel
theorem dL_law_1425 : decode code 1425 = .ok (.iload 4, 2) := by decide +kernel
theorem dL_law_1427 : decode code 1427 = .ok (.iconst 2, 1) := by decide +kernel
theorem dL_law_1428 : decode code 1428 = .ok (.iadd, 1) := by decide +kernel
theorem dL_law_1429 : decode code 1429 = .ok (.iaload, 1) := by decide +kernel
theorem dL_law_1430 : decode code 1430 = .ok (.invokevirtual 159, 3) := by decide +kernel
