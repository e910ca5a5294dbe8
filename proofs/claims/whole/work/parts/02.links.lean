def CNL : List String := ["SlipSheets$Asked", "SlipSheets$Few", "SlipSheets$Land", "SlipSheets$Ledger", "SlipSheets$Line", "SlipSheets$Names", "SlipSheets$Ranks", "SlipSheets$Reader", "SlipSheets$Shakes", "SlipSheets$Tray", "SlipSheets$Walk", "SlipSheets", "SlipSheetsModel", "SlipSheetsLaw", "java/lang/String", "java/lang/StringLatin1", "java/lang/Math", "java/lang/Integer", "java/lang/Long", "java/util/Arrays"]
def cN (i : Nat) : String := CNL.getD i ""
def FLT : List (Nat × Nat × Nat × Nat × Nat) := [(2, 27, 2, 0, 196), (0, 46, 2, 0, 197), (11, 189, 2, 0, 198), (7, 167, 2, 0, 199), (2, 31, 2, 1, 200), (0, 49, 2, 1, 201), (11, 192, 2, 1, 202), (7, 180, 2, 1, 203), (2, 9, 2, 2, 204), (0, 66, 2, 2, 205), (7, 199, 2, 2, 206), (2, 15, 2, 3, 207), (0, 73, 2, 3, 208), (7, 189, 2, 3, 209), (2, 18, 2, 4, 210), (11, 346, 2, 4, 211), (2, 21, 2, 5, 212), (7, 202, 2, 5, 213), (11, 340, 2, 5, 214), (2, 24, 2, 6, 215), (7, 205, 2, 6, 216), (11, 343, 2, 6, 217), (5, 11, 5, 0, 241), (5, 15, 5, 1, 242), (5, 18, 5, 2, 243), (7, 143, 5, 2, 244), (5, 21, 5, 3, 245), (7, 136, 5, 3, 246), (5, 24, 5, 4, 247), (7, 9, 7, 0, 259), (7, 15, 7, 1, 260), (11, 163, 7, 1, 261), (7, 19, 7, 2, 262), (7, 22, 7, 3, 263), (7, 25, 7, 4, 264), (7, 28, 7, 5, 265), (7, 31, 7, 6, 266), (7, 34, 7, 7, 267), (11, 169, 7, 7, 268), (7, 37, 7, 8, 269), (11, 172, 7, 8, 270), (7, 43, 7, 9, 271), (7, 50, 7, 10, 272), (7, 54, 7, 11, 273), (7, 58, 7, 12, 274), (3, 9, 3, 0, 308), (3, 15, 3, 1, 309), (3, 18, 3, 2, 310), (3, 21, 3, 3, 311), (3, 24, 3, 4, 312), (3, 27, 3, 5, 313), (11, 214, 3, 5, 314), (3, 31, 3, 6, 315), (3, 34, 3, 7, 316), (3, 37, 3, 8, 317), (3, 40, 3, 9, 318), (11, 224, 3, 9, 319), (3, 43, 3, 10, 320), (11, 217, 3, 10, 321), (3, 46, 3, 11, 322), (11, 231, 3, 11, 323), (3, 49, 3, 12, 324), (0, 56, 3, 12, 325), (11, 237, 3, 12, 326), (3, 53, 3, 13, 327), (0, 60, 3, 13, 328), (11, 241, 3, 13, 329), (3, 56, 3, 14, 330), (0, 63, 3, 14, 331), (11, 245, 3, 14, 332), (4, 7, 4, 0, 371), (4, 13, 4, 1, 372), (4, 16, 4, 2, 373), (4, 19, 4, 3, 374), (4, 22, 4, 4, 375), (4, 25, 4, 5, 376), (8, 9, 8, 0, 396), (8, 15, 8, 1, 397), (8, 18, 8, 2, 398), (8, 21, 8, 3, 399), (11, 336, 8, 3, 400), (0, 9, 0, 0, 416), (10, 76, 0, 0, 417), (0, 15, 0, 1, 418), (10, 110, 0, 1, 419), (0, 18, 0, 2, 420), (10, 67, 0, 2, 421), (11, 303, 0, 2, 422), (0, 21, 0, 3, 423), (10, 113, 0, 3, 424), (0, 25, 0, 4, 425), (10, 101, 0, 4, 426), (0, 28, 0, 5, 427), (10, 116, 0, 5, 428), (0, 31, 0, 6, 429), (10, 125, 0, 6, 430), (0, 34, 0, 7, 431), (10, 128, 0, 7, 432), (0, 37, 0, 8, 433), (10, 122, 0, 8, 434), (0, 40, 0, 9, 435), (10, 159, 0, 9, 436), (0, 43, 0, 10, 437), (10, 119, 0, 10, 438), (10, 9, 10, 0, 468), (10, 15, 10, 1, 469), (10, 18, 10, 2, 470), (10, 21, 10, 3, 471), (10, 25, 10, 4, 472), (11, 287, 10, 4, 473), (10, 28, 10, 5, 474), (11, 333, 10, 5, 475), (10, 31, 10, 6, 476), (11, 293, 10, 6, 477), (10, 34, 10, 7, 478), (11, 296, 10, 7, 479), (10, 37, 10, 8, 480), (11, 310, 10, 8, 481), (10, 41, 10, 9, 482), (10, 44, 10, 10, 483), (10, 47, 10, 11, 484), (10, 50, 10, 12, 485), (10, 54, 10, 13, 486), (11, 320, 10, 13, 487), (10, 57, 10, 14, 488), (11, 323, 10, 14, 489), (10, 60, 10, 15, 490), (11, 317, 10, 15, 491), (6, 9, 6, 0, 531), (1, 9, 1, 0, 542), (1, 15, 1, 1, 543), (11, 370, 1, 1, 544), (1, 18, 1, 2, 545), (1, 21, 1, 3, 546), (11, 367, 1, 3, 547), (9, 9, 9, 0, 564), (11, 146, 9, 0, 565), (9, 15, 9, 1, 566), (11, 139, 9, 1, 567), (9, 19, 9, 2, 568), (11, 355, 9, 2, 569), (11, 11, 11, 0, 577), (11, 18, 11, 1, 578), (11, 25, 11, 2, 579), (11, 32, 11, 3, 580), (11, 39, 11, 4, 581), (11, 46, 11, 5, 582), (11, 53, 11, 6, 583), (11, 60, 11, 7, 584), (11, 67, 11, 8, 585), (11, 71, 11, 9, 586), (11, 75, 11, 10, 587), (11, 81, 11, 11, 588), (11, 85, 11, 12, 589), (11, 89, 11, 13, 590), (11, 92, 11, 14, 591), (11, 95, 11, 15, 592), (11, 98, 11, 16, 593), (11, 101, 11, 17, 594), (12, 174, 12, 0, 1350), (12, 177, 12, 1, 1351), (12, 7, 12, 2, 1352), (12, 13, 12, 3, 1353), (12, 17, 12, 4, 1354), (12, 20, 12, 5, 1355), (12, 24, 12, 6, 1356), (12, 28, 12, 7, 1357), (12, 201, 12, 8, 1358), (12, 208, 12, 9, 1359), (12, 223, 12, 10, 1360), (12, 217, 12, 11, 1361), (12, 211, 12, 12, 1362), (12, 220, 12, 13, 1363), (12, 31, 12, 14, 1364), (12, 35, 12, 15, 1365), (12, 254, 12, 16, 1366), (12, 38, 12, 17, 1367), (12, 41, 12, 18, 1368), (12, 44, 12, 19, 1369), (12, 47, 12, 20, 1370), (12, 50, 12, 21, 1371), (12, 53, 12, 22, 1372), (12, 56, 12, 23, 1373), (12, 59, 12, 24, 1374), (12, 62, 12, 25, 1375), (12, 66, 12, 26, 1376), (12, 69, 12, 27, 1377), (12, 269, 12, 28, 1378), (12, 295, 12, 29, 1379), (12, 272, 12, 30, 1380), (12, 339, 12, 31, 1381), (12, 348, 12, 32, 1382), (12, 351, 12, 33, 1383), (12, 72, 12, 34, 1384), (12, 75, 12, 35, 1385), (12, 78, 12, 36, 1386), (12, 81, 12, 37, 1387), (12, 84, 12, 38, 1388), (12, 275, 12, 39, 1389), (12, 87, 12, 40, 1390), (12, 90, 12, 41, 1391), (12, 93, 12, 42, 1392), (12, 96, 12, 43, 1393), (12, 99, 12, 44, 1394), (12, 315, 12, 45, 1395), (12, 318, 12, 46, 1396), (12, 308, 12, 47, 1397), (12, 354, 12, 48, 1398), (12, 357, 12, 49, 1399), (12, 378, 12, 50, 1400), (12, 102, 12, 51, 1401), (12, 105, 12, 52, 1402), (12, 108, 12, 53, 1403), (12, 111, 12, 54, 1404), (12, 114, 12, 55, 1405), (12, 117, 12, 56, 1406), (12, 120, 12, 57, 1407), (12, 123, 12, 58, 1408), (12, 126, 12, 59, 1409), (12, 387, 12, 60, 1410), (12, 390, 12, 61, 1411), (12, 393, 12, 62, 1412), (12, 396, 12, 63, 1413), (12, 399, 12, 64, 1414), (12, 402, 12, 65, 1415), (12, 129, 12, 66, 1416), (12, 427, 12, 67, 1417), (12, 132, 12, 68, 1418), (12, 135, 12, 69, 1419), (12, 138, 12, 70, 1420), (12, 141, 12, 71, 1421), (12, 144, 12, 72, 1422), (12, 147, 12, 73, 1423), (12, 150, 12, 74, 1424), (12, 360, 12, 75, 1425), (12, 153, 12, 76, 1426), (12, 156, 12, 77, 1427), (12, 159, 12, 78, 1428), (12, 162, 12, 79, 1429), (12, 484, 12, 80, 1430), (12, 165, 12, 81, 1431), (12, 168, 12, 82, 1432), (12, 490, 12, 83, 1433), (12, 171, 12, 84, 1434)]
def CLT : List (Nat × Nat × Nat × Nat × Nat) := [(13, 9, 4, 108, 176), (11, 17, 5, 51, 186), (7, 42, 5, 12, 192), (7, 49, 5, 40, 237), (11, 24, 5, 17, 304), (11, 31, 5, 29, 367), (11, 38, 5, 79, 392), (11, 45, 5, 0, 412), (11, 52, 5, 91, 464), (11, 59, 5, 45, 527), (11, 66, 5, 8, 538), (11, 80, 5, 12, 558), (11, 104, 5, 83, 560), (13, 13, 0, 109, 632), (13, 18, 0, 110, 636), (13, 23, 0, 111, 640), (13, 27, 0, 112, 644), (11, 105, 2, 152, 648), (11, 186, 2, 151, 651), (11, 109, 0, 147, 654), (11, 112, 1, 85, 658), (9, 22, 2, 273, 662), (11, 116, 0, 145, 665), (13, 34, 0, 113, 669), (11, 120, 0, 160, 673), (11, 136, 1, 84, 677), (11, 124, 1, 88, 681), (9, 28, 3, 151, 685), (13, 39, 0, 114, 686), (11, 128, 0, 146, 690), (11, 132, 1, 87, 694), (13, 44, 0, 115, 699), (11, 142, 1, 86, 703), (13, 49, 0, 116, 710), (11, 156, 1, 52, 714), (11, 159, 1, 53, 718), (13, 54, 0, 117, 722), (11, 166, 1, 55, 726), (7, 61, 1, 13, 730), (2, 34, 2, 274, 734), (7, 64, 1, 41, 737), (7, 65, 0, 57, 741), (7, 72, 2, 59, 745), (7, 76, 2, 60, 748), (7, 79, 0, 58, 751), (7, 85, 0, 56, 755), (7, 82, 2, 61, 759), (7, 68, 0, 70, 762), (7, 101, 0, 63, 767), (7, 89, 6, 263, 771), (14, 335, 6, 265, 775), (7, 95, 6, 264, 781), (14, 492, 6, 266, 785), (14, 495, 2, 268, 789), (15, 9, 2, 267, 792), (14, 1059, 2, 275, 797), (14, 498, 2, 271, 800), (7, 146, 0, 71, 819), (7, 161, 0, 68, 823), (7, 129, 0, 64, 827), (7, 132, 1, 43, 839), (5, 28, 2, 44, 843), (7, 164, 0, 65, 846), (7, 140, 0, 66, 850), (7, 121, 3, 150, 854), (7, 169, 0, 67, 857), (7, 125, 0, 62, 861), (7, 172, 1, 42, 865), (7, 176, 1, 14, 869), (7, 149, 0, 72, 873), (7, 152, 0, 73, 877), (7, 183, 0, 69, 881), (7, 186, 1, 16, 885), (7, 155, 0, 74, 889), (7, 191, 0, 76, 893), (7, 208, 0, 77, 897), (7, 211, 0, 78, 901), (7, 158, 0, 75, 907), (11, 175, 1, 54, 911), (11, 179, 1, 18, 915), (11, 182, 1, 80, 919), (11, 183, 0, 144, 923), (13, 59, 0, 118, 927), (13, 63, 0, 119, 931), (13, 67, 0, 120, 935), (11, 195, 0, 156, 939), (11, 198, 0, 157, 943), (11, 201, 1, 15, 947), (13, 72, 0, 121, 951), (11, 204, 2, 153, 955), (11, 207, 2, 150, 958), (11, 211, 2, 155, 959), (11, 220, 1, 19, 962), (13, 76, 0, 122, 966), (11, 227, 1, 20, 970), (13, 80, 0, 123, 974), (13, 85, 0, 124, 978), (11, 234, 1, 22, 982), (3, 59, 0, 21, 986), (13, 90, 0, 125, 990), (11, 248, 1, 24, 994), (3, 63, 1, 30, 998), (3, 68, 2, 260, 1002), (3, 74, 1, 31, 1005), (11, 252, 1, 32, 1009), (11, 255, 1, 34, 1014), (11, 259, 1, 33, 1018), (11, 262, 0, 148, 1022), (11, 373, 2, 259, 1026), (11, 379, 2, 149, 1029), (11, 383, 2, 256, 1032), (11, 266, 1, 35, 1035), (4, 30, 0, 33, 1039), (4, 34, 0, 34, 1040), (11, 269, 1, 36, 1041), (13, 95, 0, 126, 1045), (11, 272, 1, 25, 1049), (3, 78, 0, 24, 1053), (3, 82, 1, 32, 1054), (3, 86, 1, 37, 1055), (4, 37, 0, 36, 1059), (4, 40, 0, 35, 1060), (13, 99, 0, 127, 1061), (11, 276, 1, 27, 1065), (3, 98, 0, 26, 1069), (3, 90, 1, 39, 1073), (4, 43, 0, 38, 1077), (3, 94, 1, 38, 1081), (3, 102, 2, 28, 1082), (13, 103, 0, 128, 1085), (13, 107, 0, 129, 1089), (11, 280, 2, 154, 1093), (11, 283, 0, 161, 1096), (11, 299, 1, 1, 1100), (0, 50, 1, 22, 1104), (0, 74, 0, 2, 1106), (0, 77, 2, 274, 1110), (0, 83, 2, 261, 1111), (0, 89, 2, 260, 1114), (11, 389, 1, 92, 1115), (10, 63, 0, 94, 1119), (10, 72, 0, 95, 1123), (10, 79, 1, 6, 1127), (10, 83, 0, 96, 1131), (10, 87, 0, 100, 1135), (10, 153, 2, 255, 1139), (10, 146, 0, 102, 1145), (10, 150, 0, 103, 1150), (10, 143, 2, 261, 1154), (10, 140, 2, 260, 1155), (10, 162, 0, 101, 1156), (10, 165, 3, 151, 1160), (10, 91, 0, 97, 1161), (10, 104, 1, 4, 1165), (10, 107, 1, 5, 1169), (10, 131, 0, 98, 1173), (10, 135, 2, 257, 1177), (10, 94, 0, 99, 1180), (10, 97, 1, 3, 1184), (13, 111, 0, 130, 1188), (11, 290, 0, 158, 1192), (13, 115, 0, 131, 1196), (11, 306, 1, 93, 1200), (13, 119, 0, 132, 1204), (13, 123, 0, 133, 1208), (11, 313, 1, 104, 1212), (10, 175, 0, 106, 1216), (10, 182, 1, 7, 1220), (10, 185, 0, 107, 1224), (10, 178, 0, 105, 1228), (13, 127, 0, 134, 1232), (13, 131, 0, 135, 1236), (11, 326, 0, 159, 1240), (11, 329, 1, 46, 1244), (6, 15, 0, 47, 1248), (6, 31, 1, 15, 1252), (6, 19, 0, 48, 1253), (6, 23, 0, 49, 1257), (6, 27, 0, 50, 1261), (13, 135, 0, 136, 1265), (13, 139, 0, 137, 1269), (13, 143, 0, 138, 1273), (11, 337, 1, 81, 1277), (13, 147, 0, 139, 1281), (11, 349, 1, 82, 1285), (8, 27, 2, 262, 1290), (13, 151, 0, 140, 1294), (11, 356, 1, 89, 1298), (9, 34, 0, 87, 1302), (11, 359, 0, 162, 1303), (11, 393, 1, 23, 1307), (11, 396, 1, 90, 1311), (13, 155, 0, 141, 1315), (13, 159, 0, 142, 1319), (11, 363, 1, 9, 1323), (1, 25, 1, 87, 1327), (1, 31, 0, 10, 1328), (1, 39, 2, 274, 1333), (1, 45, 2, 260, 1334), (1, 51, 2, 261, 1335), (1, 36, 0, 11, 1336), (13, 163, 0, 143, 1340), (13, 12, 4, 163, 1346), (13, 17, 0, 164, 1606), (13, 22, 0, 165, 1610), (13, 26, 0, 166, 1614), (13, 31, 0, 173, 1618), (12, 184, 2, 171, 1622), (12, 188, 0, 167, 1625), (13, 38, 0, 175, 1629), (12, 191, 0, 174, 1633), (12, 195, 2, 172, 1637), (13, 43, 0, 176, 1640), (13, 48, 0, 177, 1645), (13, 53, 0, 178, 1649), (12, 204, 0, 179, 1653), (13, 58, 0, 203, 1657), (12, 342, 0, 168, 1661), (12, 263, 0, 183, 1665), (12, 214, 0, 180, 1669), (12, 226, 2, 181, 1673), (12, 229, 2, 182, 1676), (12, 233, 2, 261, 1680), (12, 345, 0, 202, 1681), (12, 257, 0, 185, 1685), (12, 240, 6, 263, 1690), (12, 246, 6, 264, 1691), (12, 260, 0, 186, 1692), (12, 250, 0, 187, 1696), (12, 324, 0, 195, 1700), (12, 278, 0, 190, 1704), (12, 282, 0, 191, 1708), (12, 289, 0, 192, 1712), (12, 292, 0, 188, 1716), (12, 286, 0, 193, 1720), (12, 298, 0, 189, 1724), (12, 266, 0, 184, 1728), (12, 327, 0, 196, 1732), (12, 330, 0, 197, 1736), (12, 302, 0, 194, 1740), (12, 333, 0, 199, 1744), (12, 305, 0, 200, 1748), (12, 321, 0, 201, 1752), (12, 336, 0, 198, 1758), (12, 180, 0, 169, 1762), (13, 62, 0, 204, 1766), (13, 66, 0, 207, 1770), (13, 71, 0, 208, 1774), (12, 363, 0, 206, 1778), (12, 366, 0, 205, 1782), (13, 75, 0, 212, 1786), (12, 369, 2, 209, 1790), (12, 372, 2, 211, 1793), (12, 375, 2, 210, 1796), (13, 79, 0, 213, 1799), (13, 84, 0, 214, 1803), (13, 89, 0, 217, 1807), (12, 381, 0, 215, 1811), (12, 384, 0, 216, 1815), (13, 94, 0, 222, 1819), (12, 411, 0, 218, 1823), (12, 408, 0, 219, 1828), (12, 405, 0, 220, 1832), (12, 417, 0, 170, 1836), (12, 421, 0, 221, 1840), (13, 98, 0, 223, 1844), (13, 102, 0, 225, 1848), (12, 424, 0, 224, 1852), (13, 106, 0, 226, 1856), (13, 110, 0, 236, 1860), (12, 451, 2, 234, 1864), (12, 454, 0, 227, 1867), (12, 458, 0, 233, 1871), (12, 436, 0, 228, 1875), (12, 439, 0, 229, 1879), (12, 442, 0, 230, 1883), (12, 430, 2, 258, 1887), (12, 433, 2, 260, 1890), (12, 445, 0, 231, 1891), (12, 448, 0, 232, 1895), (13, 114, 0, 237, 1899), (12, 462, 0, 235, 1903), (13, 118, 0, 238, 1907), (13, 122, 0, 239, 1911), (13, 126, 0, 242, 1915), (12, 465, 0, 240, 1919), (12, 468, 2, 241, 1923), (13, 130, 0, 243, 1926), (13, 142, 0, 244, 1930), (13, 134, 0, 247, 1934), (12, 471, 0, 246, 1938), (12, 474, 0, 245, 1942), (13, 138, 0, 248, 1946), (13, 146, 0, 249, 1950), (13, 150, 0, 250, 1954), (12, 479, 2, 262, 1959), (13, 154, 0, 251, 1960), (13, 158, 0, 252, 1965), (13, 162, 0, 253, 1969), (13, 166, 0, 254, 1975)]
abbrev MR : Type := MethodName × ByteArray × Nat × Option FieldType × Nat × Nat × Nat × List Nat
def MTB : List MR := [
  (⟨"SlipSheets$Asked", "<init>", "()V"⟩, prog_2_method_1_code, 1, none, 1, 1, 3, [414, 413, 0, 159]),
  (⟨"SlipSheets$Asked", "prepare", "(LSlipSheets$Land;LSlipSheets$Ledger;II)V"⟩, prog_2_method_2_code, 8, none, 1, 5, 3, [1103, 1102, 65, 159]),
  (⟨"SlipSheets$Asked", "boundRests", "()V"⟩, prog_2_method_3_code, 3, none, 1, 1, 3, [1109, 1108, 66, 159]),
  (⟨"SlipSheets$Asked", "put", "(II)V"⟩, prog_2_method_4_code, 5, none, 1, 3, 3, [1187, 1186, 81, 159]),
  (⟨"SlipSheets$Asked", "leastBeside", "(II)I"⟩, prog_2_method_5_code, 5, some .int, 1, 3, 0, [1168, 1167, 77, 159]),
  (⟨"SlipSheets$Asked", "mostBeside", "(II)I"⟩, prog_2_method_6_code, 5, some .int, 1, 3, 0, [1172, 1171, 78, 159]),
  (⟨"SlipSheets$Asked", "stillOpen", "(II)I"⟩, prog_2_method_7_code, 6, some .int, 1, 3, 0, [1130, 1129, 70, 159]),
  (⟨"SlipSheets$Asked", "stillWithin", "(II)I"⟩, prog_2_method_8_code, 6, some .int, 1, 3, 0, [1223, 1222, 86, 159]),
  (⟨"SlipSheets$Few", "<init>", "()V"⟩, prog_3_method_1_code, 1, none, 1, 1, 3, [540, 539, 0, 162]),
  (⟨"SlipSheets$Few", "find", "(LSlipSheets$Tray;III)I"⟩, prog_3_method_2_code, 7, some .int, 1, 5, 0, [1326, 1325, 101, 162]),
  (⟨"SlipSheets$Few", "countFewest", "(III)V"⟩, prog_3_method_3_code, 6, none, 1, 4, 3, [1331, 1330, 102, 162]),
  (⟨"SlipSheets$Few", "share", "(III)V"⟩, prog_3_method_4_code, 8, none, 1, 4, 3, [1339, 1338, 103, 162]),
  (⟨"SlipSheets$Land", "<init>", "()V"⟩, prog_4_method_1_code, 1, none, 1, 1, 3, [194, 193, 0, 154]),
  (⟨"SlipSheets$Land", "clear", "()V"⟩, prog_4_method_2_code, 1, none, 1, 1, 3, [733, 732, 12, 154]),
  (⟨"SlipSheets$Land", "addCells", "(II)V"⟩, prog_4_method_3_code, 4, none, 1, 3, 3, [872, 871, 28, 154]),
  (⟨"SlipSheets$Land", "unit", "(II)I"⟩, prog_4_method_4_code, 3, some .int, 1, 3, 0, [950, 949, 44, 154]),
  (⟨"SlipSheets$Land", "areNear", "(II)Z"⟩, prog_4_method_5_code, 3, some .boolean, 1, 3, 0, [888, 887, 32, 154]),
  (⟨"SlipSheets$Ledger", "<init>", "()V"⟩, prog_5_method_1_code, 1, none, 1, 1, 3, [306, 305, 0, 156]),
  (⟨"SlipSheets$Ledger", "clear", "()V"⟩, prog_5_method_2_code, 1, none, 1, 1, 3, [918, 917, 39, 156]),
  (⟨"SlipSheets$Ledger", "addRow", "(IIIII)V"⟩, prog_5_method_3_code, 6, none, 1, 6, 3, [965, 964, 45, 156]),
  (⟨"SlipSheets$Ledger", "addOffset", "(III)V"⟩, prog_5_method_4_code, 4, none, 1, 4, 3, [973, 972, 46, 156]),
  (⟨"SlipSheets$Ledger", "counts", "(II)Z"⟩, prog_5_method_5_code, 3, some .boolean, 1, 3, 0, [989, 988, 48, 156]),
  (⟨"SlipSheets$Ledger", "gather", "(I)V"⟩, prog_5_method_6_code, 4, none, 1, 2, 3, [985, 984, 47, 156]),
  (⟨"SlipSheets$Ledger", "marksWithValues", "(I)I"⟩, prog_5_method_7_code, 5, some .int, 1, 2, 0, [1310, 1309, 99, 156]),
  (⟨"SlipSheets$Ledger", "fit", "(LSlipSheets$Line;II)V"⟩, prog_5_method_8_code, 5, none, 1, 4, 3, [997, 996, 49, 156]),
  (⟨"SlipSheets$Ledger", "breakYear", "(LSlipSheets$Line;)I"⟩, prog_5_method_9_code, 9, some .int, 1, 2, 0, [1052, 1051, 58, 156]),
  (⟨"SlipSheets$Ledger", "sideOf", "(LSlipSheets$Line;I)I"⟩, prog_5_method_10_code, 7, some .int, 1, 3, 0, [1072, 1071, 61, 156]),
  (⟨"SlipSheets$Ledger", "slowSlip", "(LSlipSheets$Line;III)I"⟩, prog_5_method_11_code, 13, some .int, 1, 5, 0, [1068, 1067, 60, 156]),
  (⟨"SlipSheets$Ledger", "toldOfSlow", "(IIII)I"⟩, prog_5_method_12_code, 4, some .int, 0, 4, 0, [1084, 1083, 0, 156]),
  (⟨"SlipSheets$Line", "<init>", "()V"⟩, prog_6_method_1_code, 1, none, 1, 1, 3, [369, 368, 0, 157]),
  (⟨"SlipSheets$Line", "clear", "()V"⟩, prog_6_method_2_code, 1, none, 1, 1, 3, [1001, 1000, 50, 157]),
  (⟨"SlipSheets$Line", "add", "(JJ)V"⟩, prog_6_method_3_code, 5, none, 1, 3, 3, [1008, 1007, 51, 157]),
  (⟨"SlipSheets$Line", "stands", "()Z"⟩, prog_6_method_4_code, 1, some .boolean, 1, 1, 0, [1012, 1011, 52, 157]),
  (⟨"SlipSheets$Line", "spread", "()J"⟩, prog_6_method_5_code, 1, some .long, 1, 1, 1, [1021, 1020, 54, 157]),
  (⟨"SlipSheets$Line", "tilt", "()J"⟩, prog_6_method_6_code, 1, some .long, 1, 1, 1, [1017, 1016, 53, 157]),
  (⟨"SlipSheets$Line", "restTop", "()J"⟩, prog_6_method_7_code, 1, some .long, 1, 1, 1, [1038, 1037, 56, 157]),
  (⟨"SlipSheets$Line", "restBottom", "()J"⟩, prog_6_method_8_code, 1, some .long, 1, 1, 1, [1044, 1043, 57, 157]),
  (⟨"SlipSheets$Line", "wholeRest", "()J"⟩, prog_6_method_9_code, 3, some .long, 1, 1, 1, [1058, 1057, 59, 157]),
  (⟨"SlipSheets$Line", "scaled", "(J)J"⟩, prog_6_method_10_code, 3, some .long, 1, 2, 1, [1080, 1079, 63, 157]),
  (⟨"SlipSheets$Line", "scaledAbove", "(JJ)J"⟩, prog_6_method_11_code, 5, some .long, 1, 3, 1, [1076, 1075, 62, 157]),
  (⟨"SlipSheets$Names", "<init>", "()V"⟩, prog_7_method_1_code, 1, none, 1, 1, 3, [239, 238, 0, 155]),
  (⟨"SlipSheets$Names", "clear", "()V"⟩, prog_7_method_2_code, 1, none, 1, 1, 3, [740, 739, 13, 155]),
  (⟨"SlipSheets$Names", "add", "(IIII)V"⟩, prog_7_method_3_code, 5, none, 1, 5, 3, [868, 867, 27, 155]),
  (⟨"SlipSheets$Names", "find", "([BII)I"⟩, prog_7_method_4_code, 5, some .int, 1, 4, 0, [842, 841, 22, 155]),
  (⟨"SlipSheets$Names", "areAlike", "([BIII)Z"⟩, prog_7_method_5_code, 5, some .boolean, 0, 4, 0, [845, 844, 0, 155]),
  (⟨"SlipSheets$Ranks", "<init>", "()V"⟩, prog_8_method_1_code, 1, none, 1, 1, 3, [529, 528, 0, 161]),
  (⟨"SlipSheets$Ranks", "of", "(LSlipSheets$Land;II)I"⟩, prog_8_method_2_code, 11, some .int, 1, 4, 0, [1247, 1246, 90, 161]),
  (⟨"SlipSheets$Ranks", "fill", "(LSlipSheets$Land;II)I"⟩, prog_8_method_3_code, 7, some .int, 1, 4, 0, [1251, 1250, 91, 161]),
  (⟨"SlipSheets$Ranks", "rowWithout0", "(III)I"⟩, prog_8_method_4_code, 5, some .int, 1, 4, 0, [1256, 1255, 92, 161]),
  (⟨"SlipSheets$Ranks", "swapRows", "(II)V"⟩, prog_8_method_5_code, 6, none, 1, 3, 3, [1260, 1259, 93, 161]),
  (⟨"SlipSheets$Ranks", "eliminate", "(IIIJ)V"⟩, prog_8_method_6_code, 12, none, 1, 5, 3, [1264, 1263, 94, 161]),
  (⟨"SlipSheets$Reader", "<init>", "()V"⟩, prog_9_method_1_code, 1, none, 1, 1, 3, [188, 187, 0, 153]),
  (⟨"SlipSheets$Reader", "hasRoom", "()Z"⟩, prog_9_method_2_code, 1, some .boolean, 1, 1, 0, [717, 716, 9, 153]),
  (⟨"SlipSheets$Reader", "append", "(I)V"⟩, prog_9_method_3_code, 3, none, 1, 2, 3, [721, 720, 10, 153]),
  (⟨"SlipSheets$Reader", "trade", "(LSlipSheets$Land;)LSlipSheets$Land;"⟩, prog_9_method_4_code, 3, some (.object "SlipSheets$Land"), 1, 2, 2, [914, 913, 38, 153]),
  (⟨"SlipSheets$Reader", "readParts", "(I)I"⟩, prog_9_method_5_code, 3, some .int, 1, 2, 0, [729, 728, 11, 153]),
  (⟨"SlipSheets$Reader", "fail", "(II)Z"⟩, prog_9_method_6_code, 3, some .boolean, 1, 3, 0, [758, 757, 16, 153]),
  (⟨"SlipSheets$Reader", "advance", "()V"⟩, prog_9_method_7_code, 1, none, 1, 1, 3, [744, 743, 14, 153]),
  (⟨"SlipSheets$Reader", "scanNumber", "()V"⟩, prog_9_method_8_code, 1, none, 1, 1, 3, [754, 753, 15, 153]),
  (⟨"SlipSheets$Reader", "isLetter", "(I)Z"⟩, prog_9_method_9_code, 1, some .boolean, 0, 1, 0, [747, 746, 0, 153]),
  (⟨"SlipSheets$Reader", "isDigit", "(I)Z"⟩, prog_9_method_10_code, 1, some .boolean, 0, 1, 0, [750, 749, 0, 153]),
  (⟨"SlipSheets$Reader", "isSignByte", "(I)Z"⟩, prog_9_method_11_code, 1, some .boolean, 0, 1, 0, [761, 760, 0, 153]),
  (⟨"SlipSheets$Reader", "isSign", "(C)Z"⟩, prog_9_method_12_code, 2, some .boolean, 1, 2, 0, [864, 863, 26, 153]),
  (⟨"SlipSheets$Reader", "isWord", "(Ljava/lang/String;)Z"⟩, prog_9_method_13_code, 3, some .boolean, 1, 2, 0, [770, 769, 18, 153]),
  (⟨"SlipSheets$Reader", "isName", "()Z"⟩, prog_9_method_14_code, 1, some .boolean, 1, 1, 0, [830, 829, 21, 153]),
  (⟨"SlipSheets$Reader", "passWord", "(Ljava/lang/String;)Z"⟩, prog_9_method_15_code, 2, some .boolean, 1, 2, 0, [849, 848, 23, 153]),
  (⟨"SlipSheets$Reader", "seesNumber", "(II)Z"⟩, prog_9_method_16_code, 3, some .boolean, 1, 3, 0, [853, 852, 24, 153]),
  (⟨"SlipSheets$Reader", "seesEnd", "()Z"⟩, prog_9_method_17_code, 1, some .boolean, 1, 1, 0, [860, 859, 25, 153]),
  (⟨"SlipSheets$Reader", "seesNewName", "()Z"⟩, prog_9_method_18_code, 1, some .boolean, 1, 1, 0, [826, 825, 20, 153]),
  (⟨"SlipSheets$Reader", "seeCell", "()I"⟩, prog_9_method_19_code, 2, some .int, 1, 1, 0, [884, 883, 31, 153]),
  (⟨"SlipSheets$Reader", "readPart", "()Z"⟩, prog_9_method_20_code, 2, some .boolean, 1, 1, 0, [765, 764, 17, 153]),
  (⟨"SlipSheets$Reader", "readSheet", "()Z"⟩, prog_9_method_21_code, 5, some .boolean, 1, 1, 0, [822, 821, 19, 153]),
  (⟨"SlipSheets$Reader", "readMark", "()Z"⟩, prog_9_method_22_code, 3, some .boolean, 1, 1, 0, [876, 875, 29, 153]),
  (⟨"SlipSheets$Reader", "readNear", "(I)Z"⟩, prog_9_method_23_code, 4, some .boolean, 1, 2, 0, [880, 879, 30, 153]),
  (⟨"SlipSheets$Reader", "readMoves", "(I)Z"⟩, prog_9_method_24_code, 9, some .boolean, 1, 2, 0, [892, 891, 33, 153]),
  (⟨"SlipSheets$Reader", "readStuck", "(I)Z"⟩, prog_9_method_25_code, 5, some .boolean, 1, 2, 0, [910, 909, 37, 153]),
  (⟨"SlipSheets$Reader", "readSum", "(I)J"⟩, prog_9_method_26_code, 8, some .long, 1, 2, 1, [896, 895, 34, 153]),
  (⟨"SlipSheets$Reader", "readItem", "(I)J"⟩, prog_9_method_27_code, 5, some .long, 1, 2, 1, [900, 899, 35, 153]),
  (⟨"SlipSheets$Reader", "readAtom", "(I)J"⟩, prog_9_method_28_code, 5, some .long, 1, 2, 1, [904, 903, 36, 153]),
  (⟨"SlipSheets$Shakes", "<init>", "()V"⟩, prog_10_method_1_code, 1, none, 1, 1, 3, [394, 393, 0, 158]),
  (⟨"SlipSheets$Shakes", "clear", "()V"⟩, prog_10_method_2_code, 1, none, 1, 1, 3, [922, 921, 40, 158]),
  (⟨"SlipSheets$Shakes", "add", "(III)V"⟩, prog_10_method_3_code, 4, none, 1, 4, 3, [1280, 1279, 95, 158]),
  (⟨"SlipSheets$Shakes", "left", "(IIJ)J"⟩, prog_10_method_4_code, 9, some .long, 1, 4, 1, [1288, 1287, 96, 158]),
  (⟨"SlipSheets$Tray", "<init>", "()V"⟩, prog_11_method_1_code, 1, none, 1, 1, 3, [562, 561, 0, 163]),
  (⟨"SlipSheets$Tray", "isMissing", "()Z"⟩, prog_11_method_2_code, 1, some .boolean, 1, 1, 0, [680, 679, 4, 163]),
  (⟨"SlipSheets$Tray", "lay", "(II)V"⟩, prog_11_method_3_code, 3, none, 1, 3, 3, [661, 660, 1, 163]),
  (⟨"SlipSheets$Tray", "reaches", "(II)Z"⟩, prog_11_method_4_code, 3, some .boolean, 1, 3, 0, [706, 705, 8, 163]),
  (⟨"SlipSheets$Tray", "at", "(I)J"⟩, prog_11_method_5_code, 2, some .long, 1, 2, 1, [697, 696, 7, 163]),
  (⟨"SlipSheets$Tray", "put", "(IJ)V"⟩, prog_11_method_6_code, 4, none, 1, 3, 3, [684, 683, 5, 163]),
  (⟨"SlipSheets$Tray", "allWithin", "(III)Z"⟩, prog_11_method_7_code, 5, some .boolean, 1, 4, 0, [1301, 1300, 97, 163]),
  (⟨"SlipSheets$Tray", "sumOf", "(II)I"⟩, prog_11_method_8_code, 5, some .int, 1, 3, 0, [1314, 1313, 100, 163]),
  (⟨"SlipSheets$Walk", "<init>", "()V"⟩, prog_12_method_1_code, 4, none, 1, 1, 3, [466, 465, 0, 160]),
  (⟨"SlipSheets$Walk", "all", "(LSlipSheets$Asked;III)V"⟩, prog_12_method_2_code, 5, none, 1, 5, 3, [1118, 1117, 67, 160]),
  (⟨"SlipSheets$Walk", "finds", "(LSlipSheets$Asked;II)Z"⟩, prog_12_method_3_code, 4, some .boolean, 1, 4, 0, [1203, 1202, 83, 160]),
  (⟨"SlipSheets$Walk", "begin", "(III)V"⟩, prog_12_method_4_code, 4, none, 1, 4, 3, [1122, 1121, 68, 160]),
  (⟨"SlipSheets$Walk", "visit", "(LSlipSheets$Asked;III)V"⟩, prog_12_method_5_code, 8, none, 1, 5, 3, [1126, 1125, 69, 160]),
  (⟨"SlipSheets$Walk", "isLoose", "(LSlipSheets$Asked;I)Z"⟩, prog_12_method_6_code, 4, some .boolean, 1, 3, 0, [1134, 1133, 71, 160]),
  (⟨"SlipSheets$Walk", "narrow", "(LSlipSheets$Asked;II)V"⟩, prog_12_method_7_code, 7, none, 1, 4, 3, [1164, 1163, 76, 160]),
  (⟨"SlipSheets$Walk", "narrowBy", "(IIII)V"⟩, prog_12_method_8_code, 5, none, 1, 5, 3, [1176, 1175, 79, 160]),
  (⟨"SlipSheets$Walk", "takeLast", "(LSlipSheets$Asked;II)V"⟩, prog_12_method_9_code, 6, none, 1, 4, 3, [1183, 1182, 80, 160]),
  (⟨"SlipSheets$Walk", "takeAnyFrom", "(LSlipSheets$Asked;II)V"⟩, prog_12_method_10_code, 7, none, 1, 4, 3, [1138, 1137, 72, 160]),
  (⟨"SlipSheets$Walk", "waysToReach", "(II)I"⟩, prog_12_method_11_code, 3, some .int, 1, 3, 0, [1159, 1158, 75, 160]),
  (⟨"SlipSheets$Walk", "noteFirst", "(LSlipSheets$Asked;)V"⟩, prog_12_method_12_code, 2, none, 1, 2, 3, [1148, 1147, 73, 160]),
  (⟨"SlipSheets$Walk", "noteEnds", "(II)V"⟩, prog_12_method_13_code, 3, none, 1, 3, 3, [1153, 1152, 74, 160]),
  (⟨"SlipSheets$Walk", "findQuarrel", "(LSlipSheets$Asked;I)V"⟩, prog_12_method_14_code, 4, none, 1, 3, 3, [1215, 1214, 84, 160]),
  (⟨"SlipSheets$Walk", "noteUnmet", "(I)V"⟩, prog_12_method_15_code, 3, none, 1, 2, 3, [1231, 1230, 88, 160]),
  (⟨"SlipSheets$Walk", "visitSets", "(LSlipSheets$Asked;II)V"⟩, prog_12_method_16_code, 7, none, 1, 4, 3, [1219, 1218, 85, 160]),
  (⟨"SlipSheets$Walk", "noteMet", "(I)V"⟩, prog_12_method_17_code, 3, none, 1, 2, 3, [1227, 1226, 87, 160]),
  (⟨"SlipSheets", "<init>", "()V"⟩, prog_1_method_1_code, 2, none, 1, 1, 3, [178, 177, 0, 152]),
  (⟨"SlipSheets", "status", "()I"⟩, prog_1_method_2_code, 1, some .int, 1, 1, 0, [635, 633, 634, 152]),
  (⟨"SlipSheets", "top", "()J"⟩, prog_1_method_3_code, 1, some .long, 1, 1, 1, [639, 637, 638, 152]),
  (⟨"SlipSheets", "bottom", "()J"⟩, prog_1_method_4_code, 1, some .long, 1, 1, 1, [643, 641, 642, 152]),
  (⟨"SlipSheets", "tray", "(III)Z"⟩, prog_1_method_5_code, 4, some .boolean, 1, 4, 0, [647, 645, 646, 152]),
  (⟨"SlipSheets", "write", "(IIJ)Z"⟩, prog_1_method_6_code, 6, some .boolean, 1, 4, 0, [672, 670, 671, 152]),
  (⟨"SlipSheets", "read", "(II)J"⟩, prog_1_method_7_code, 4, some .long, 1, 3, 1, [689, 687, 688, 152]),
  (⟨"SlipSheets", "pour", "(IIIII)Z"⟩, prog_1_method_8_code, 8, some .boolean, 1, 6, 0, [702, 700, 701, 152]),
  (⟨"SlipSheets", "feed", "(IIIII)I"⟩, prog_1_method_9_code, 6, some .int, 1, 6, 0, [713, 711, 712, 152]),
  (⟨"SlipSheets", "land", "(I)I"⟩, prog_1_method_10_code, 3, some .int, 1, 2, 0, [725, 723, 724, 152]),
  (⟨"SlipSheets", "fault", "(I)I"⟩, prog_1_method_11_code, 2, some .int, 1, 2, 0, [930, 928, 929, 152]),
  (⟨"SlipSheets", "many", "(I)I"⟩, prog_1_method_12_code, 2, some .int, 1, 2, 0, [934, 932, 933, 152]),
  (⟨"SlipSheets", "moves", "(II)I"⟩, prog_1_method_13_code, 3, some .int, 1, 3, 0, [938, 936, 937, 152]),
  (⟨"SlipSheets", "row", "(IIIII)Z"⟩, prog_1_method_14_code, 6, some .boolean, 1, 6, 0, [954, 952, 953, 152]),
  (⟨"SlipSheets", "offset", "(III)Z"⟩, prog_1_method_15_code, 4, some .boolean, 1, 4, 0, [969, 967, 968, 152]),
  (⟨"SlipSheets", "asof", "(I)Z"⟩, prog_1_method_16_code, 2, some .boolean, 1, 2, 0, [977, 975, 976, 152]),
  (⟨"SlipSheets", "value", "(III)I"⟩, prog_1_method_17_code, 4, some .int, 1, 4, 0, [981, 979, 980, 152]),
  (⟨"SlipSheets", "line", "(IIII)I"⟩, prog_1_method_18_code, 5, some .int, 1, 5, 0, [993, 991, 992, 152]),
  (⟨"SlipSheets", "breaks", "(I)I"⟩, prog_1_method_19_code, 3, some .int, 1, 2, 0, [1048, 1046, 1047, 152]),
  (⟨"SlipSheets", "slow", "(IIII)I"⟩, prog_1_method_20_code, 6, some .int, 1, 5, 0, [1064, 1062, 1063, 152]),
  (⟨"SlipSheets", "smooth", "(I)Z"⟩, prog_1_method_21_code, 2, some .boolean, 1, 2, 0, [1088, 1086, 1087, 152]),
  (⟨"SlipSheets", "slips", "(II)I"⟩, prog_1_method_22_code, 3, some .int, 1, 3, 0, [1092, 1090, 1091, 152]),
  (⟨"SlipSheets", "ends", "(IIII)I"⟩, prog_1_method_23_code, 5, some .int, 1, 5, 0, [1191, 1189, 1190, 152]),
  (⟨"SlipSheets", "first", "(III)I"⟩, prog_1_method_24_code, 4, some .int, 1, 4, 0, [1199, 1197, 1198, 152]),
  (⟨"SlipSheets", "corner", "(II)I"⟩, prog_1_method_25_code, 4, some .int, 1, 3, 0, [1207, 1205, 1206, 152]),
  (⟨"SlipSheets", "quarrel", "(III)I"⟩, prog_1_method_26_code, 4, some .int, 1, 4, 0, [1211, 1209, 1210, 152]),
  (⟨"SlipSheets", "without", "(III)I"⟩, prog_1_method_27_code, 5, some .int, 1, 4, 0, [1235, 1233, 1234, 152]),
  (⟨"SlipSheets", "rank", "(II)I"⟩, prog_1_method_28_code, 4, some .int, 1, 3, 0, [1239, 1237, 1238, 152]),
  (⟨"SlipSheets", "apart", "(II)I"⟩, prog_1_method_29_code, 4, some .int, 1, 3, 0, [1268, 1266, 1267, 152]),
  (⟨"SlipSheets", "odds", "(IIII)I"⟩, prog_1_method_30_code, 5, some .int, 1, 5, 0, [1272, 1270, 1271, 152]),
  (⟨"SlipSheets", "shake", "(III)Z"⟩, prog_1_method_31_code, 4, some .boolean, 1, 4, 0, [1276, 1274, 1275, 152]),
  (⟨"SlipSheets", "saved", "(III)I"⟩, prog_1_method_32_code, 7, some .int, 1, 4, 0, [1284, 1282, 1283, 152]),
  (⟨"SlipSheets", "net", "(II)I"⟩, prog_1_method_33_code, 4, some .int, 1, 3, 0, [1297, 1295, 1296, 152]),
  (⟨"SlipSheets", "netTold", "(I)I"⟩, prog_1_method_34_code, 2, some .int, 1, 2, 0, [1318, 1316, 1317, 152]),
  (⟨"SlipSheets", "few", "(IIII)I"⟩, prog_1_method_35_code, 7, some .int, 1, 5, 0, [1322, 1320, 1321, 152]),
  (⟨"SlipSheets", "fewOf", "(I)I"⟩, prog_1_method_36_code, 2, some .int, 1, 2, 0, [1343, 1341, 1342, 152]),
  (⟨"SlipSheets", "answer", "(I)I"⟩, prog_1_method_37_code, 2, some .int, 1, 2, 0, [926, 925, 41, 152]),
  (⟨"SlipSheets", "allow", "()Z"⟩, prog_1_method_38_code, 1, some .boolean, 1, 1, 0, [668, 667, 2, 152]),
  (⟨"SlipSheets", "refuse", "(I)I"⟩, prog_1_method_39_code, 2, some .int, 1, 2, 0, [693, 692, 6, 152]),
  (⟨"SlipSheets", "deny", "(I)Z"⟩, prog_1_method_40_code, 2, some .boolean, 1, 2, 0, [657, 656, 0, 152]),
  (⟨"SlipSheets", "tell", "(JJ)I"⟩, prog_1_method_41_code, 7, some .int, 1, 3, 0, [1025, 1024, 55, 152]),
  (⟨"SlipSheets", "commonDivisor", "(JJ)J"⟩, prog_1_method_42_code, 11, some .long, 0, 2, 1, [1031, 1030, 0, 152]),
  (⟨"SlipSheets", "isWithin", "(III)Z"⟩, prog_1_method_43_code, 3, some .boolean, 0, 3, 0, [856, 855, 0, 152]),
  (⟨"SlipSheets", "isOneOf", "(II)Z"⟩, prog_1_method_44_code, 2, some .boolean, 0, 2, 0, [653, 652, 0, 152]),
  (⟨"SlipSheets", "isTray", "(I)Z"⟩, prog_1_method_45_code, 1, some .boolean, 0, 1, 0, [650, 649, 0, 152]),
  (⟨"SlipSheets", "isYear", "(I)Z"⟩, prog_1_method_46_code, 1, some .boolean, 0, 1, 0, [957, 956, 0, 152]),
  (⟨"SlipSheets", "areYears", "(II)Z"⟩, prog_1_method_47_code, 2, some .boolean, 0, 2, 0, [1095, 1094, 0, 152]),
  (⟨"SlipSheets", "isDay", "(I)Z"⟩, prog_1_method_48_code, 1, some .boolean, 0, 1, 0, [961, 960, 0, 152]),
  (⟨"SlipSheets", "isCell", "(I)Z"⟩, prog_1_method_49_code, 2, some .boolean, 1, 2, 0, [942, 941, 42, 152]),
  (⟨"SlipSheets", "isMark", "(I)Z"⟩, prog_1_method_50_code, 2, some .boolean, 1, 2, 0, [946, 945, 43, 152]),
  (⟨"SlipSheets", "isSetOfCells", "(I)Z"⟩, prog_1_method_51_code, 2, some .boolean, 1, 2, 0, [1195, 1194, 82, 152]),
  (⟨"SlipSheets", "isSetOfMarks", "(I)Z"⟩, prog_1_method_52_code, 2, some .boolean, 1, 2, 0, [1243, 1242, 89, 152]),
  (⟨"SlipSheets", "refusalOfPlace", "(II)I"⟩, prog_1_method_53_code, 3, some .int, 1, 3, 0, [676, 675, 3, 152]),
  (⟨"SlipSheets", "walkAll", "(IIII)V"⟩, prog_1_method_54_code, 5, none, 1, 5, 3, [1099, 1098, 64, 152]),
  (⟨"SlipSheets", "chooseNet", "(LSlipSheets$Tray;I)I"⟩, prog_1_method_55_code, 10, some .int, 1, 3, 0, [1306, 1305, 98, 152]),
  (⟨"SlipSheetsModel", "<init>", "()V"⟩, prog_14_method_1_code, 1, none, 1, 1, 3, [1348, 1347, 0, 164]),
  (⟨"SlipSheetsModel", "status", "()I"⟩, prog_14_method_2_code, 1, some .int, 1, 1, 0, [1609, 1607, 1608, 164]),
  (⟨"SlipSheetsModel", "top", "()J"⟩, prog_14_method_3_code, 1, some .long, 1, 1, 1, [1613, 1611, 1612, 164]),
  (⟨"SlipSheetsModel", "bottom", "()J"⟩, prog_14_method_4_code, 1, some .long, 1, 1, 1, [1617, 1615, 1616, 164]),
  (⟨"SlipSheetsModel", "is", "(I)Z"⟩, prog_14_method_5_code, 2, some .boolean, 1, 2, 0, [1628, 1627, 104, 164]),
  (⟨"SlipSheetsModel", "refuse", "(I)I"⟩, prog_14_method_6_code, 2, some .int, 1, 2, 0, [1664, 1663, 107, 164]),
  (⟨"SlipSheetsModel", "gives", "(I)I"⟩, prog_14_method_7_code, 2, some .int, 1, 2, 0, [1765, 1764, 129, 164]),
  (⟨"SlipSheetsModel", "fraction", "(JJ)I"⟩, prog_14_method_8_code, 11, some .int, 1, 3, 0, [1839, 1838, 137, 164]),
  (⟨"SlipSheetsModel", "isTray", "(I)Z"⟩, prog_14_method_9_code, 1, some .boolean, 0, 1, 0, [1624, 1623, 0, 164]),
  (⟨"SlipSheetsModel", "cut", "(JI)J"⟩, prog_14_method_10_code, 3, some .long, 0, 2, 1, [1639, 1638, 0, 164]),
  (⟨"SlipSheetsModel", "tray", "(III)Z"⟩, prog_14_method_11_code, 5, some .boolean, 1, 4, 0, [1621, 1619, 1620, 164]),
  (⟨"SlipSheetsModel", "wrongPlace", "(II)I"⟩, prog_14_method_12_code, 3, some .int, 1, 3, 0, [1636, 1635, 105, 164]),
  (⟨"SlipSheetsModel", "write", "(IIJ)Z"⟩, prog_14_method_13_code, 6, some .boolean, 1, 4, 0, [1632, 1630, 1631, 164]),
  (⟨"SlipSheetsModel", "read", "(II)J"⟩, prog_14_method_14_code, 3, some .long, 1, 3, 1, [1643, 1641, 1642, 164]),
  (⟨"SlipSheetsModel", "pour", "(IIIII)Z"⟩, prog_14_method_15_code, 8, some .boolean, 1, 6, 0, [1648, 1646, 1647, 164]),
  (⟨"SlipSheetsModel", "feed", "(IIIII)I"⟩, prog_14_method_16_code, 6, some .int, 1, 6, 0, [1652, 1650, 1651, 164]),
  (⟨"SlipSheetsModel", "four", "(I)V"⟩, prog_14_method_17_code, 3, none, 1, 2, 3, [1656, 1655, 106, 164]),
  (⟨"SlipSheetsModel", "at", "(I)I"⟩, prog_14_method_18_code, 2, some .int, 1, 2, 0, [1672, 1671, 109, 164]),
  (⟨"SlipSheetsModel", "isSmall", "(I)Z"⟩, prog_14_method_19_code, 1, some .boolean, 0, 1, 0, [1675, 1674, 0, 164]),
  (⟨"SlipSheetsModel", "isDigit", "(I)Z"⟩, prog_14_method_20_code, 1, some .boolean, 0, 1, 0, [1678, 1677, 0, 164]),
  (⟨"SlipSheetsModel", "next", "()V"⟩, prog_14_method_21_code, 2, none, 1, 1, 3, [1668, 1667, 108, 164]),
  (⟨"SlipSheetsModel", "isSign", "(I)Z"⟩, prog_14_method_22_code, 2, some .boolean, 1, 2, 0, [1731, 1730, 121, 164]),
  (⟨"SlipSheetsModel", "key", "()I"⟩, prog_14_method_23_code, 6, some .int, 1, 1, 0, [1688, 1687, 111, 164]),
  (⟨"SlipSheetsModel", "fails", "(I)Z"⟩, prog_14_method_24_code, 2, some .boolean, 1, 2, 0, [1695, 1694, 112, 164]),
  (⟨"SlipSheetsModel", "failsAt", "(II)Z"⟩, prog_14_method_25_code, 3, some .boolean, 1, 3, 0, [1699, 1698, 113, 164]),
  (⟨"SlipSheetsModel", "wantKey", "(I)Z"⟩, prog_14_method_26_code, 2, some .boolean, 1, 2, 0, [1719, 1718, 118, 164]),
  (⟨"SlipSheetsModel", "wantEnd", "()Z"⟩, prog_14_method_27_code, 1, some .boolean, 1, 1, 0, [1727, 1726, 120, 164]),
  (⟨"SlipSheetsModel", "nameHere", "()J"⟩, prog_14_method_28_code, 4, some .long, 1, 1, 1, [1707, 1706, 115, 164]),
  (⟨"SlipSheetsModel", "sheetOf", "(J)I"⟩, prog_14_method_29_code, 4, some .int, 1, 2, 0, [1711, 1710, 116, 164]),
  (⟨"SlipSheetsModel", "markOf", "(J)I"⟩, prog_14_method_30_code, 4, some .int, 1, 2, 0, [1715, 1714, 117, 164]),
  (⟨"SlipSheetsModel", "number", "(II)Z"⟩, prog_14_method_31_code, 3, some .boolean, 1, 3, 0, [1723, 1722, 119, 164]),
  (⟨"SlipSheetsModel", "cell", "()Z"⟩, prog_14_method_32_code, 4, some .boolean, 1, 1, 0, [1743, 1742, 124, 164]),
  (⟨"SlipSheetsModel", "sheet", "()Z"⟩, prog_14_method_33_code, 5, some .boolean, 1, 1, 0, [1703, 1702, 114, 164]),
  (⟨"SlipSheetsModel", "mark", "()Z"⟩, prog_14_method_34_code, 3, some .boolean, 1, 1, 0, [1735, 1734, 122, 164]),
  (⟨"SlipSheetsModel", "near", "()Z"⟩, prog_14_method_35_code, 7, some .boolean, 1, 1, 0, [1739, 1738, 123, 164]),
  (⟨"SlipSheetsModel", "stuck", "()Z"⟩, prog_14_method_36_code, 5, some .boolean, 1, 1, 0, [1761, 1760, 128, 164]),
  (⟨"SlipSheetsModel", "moving", "()Z"⟩, prog_14_method_37_code, 7, some .boolean, 1, 1, 0, [1747, 1746, 125, 164]),
  (⟨"SlipSheetsModel", "sum", "()Z"⟩, prog_14_method_38_code, 4, some .boolean, 1, 1, 0, [1751, 1750, 126, 164]),
  (⟨"SlipSheetsModel", "begin", "(I)V"⟩, prog_14_method_39_code, 2, none, 1, 2, 3, [1755, 1754, 127, 164]),
  (⟨"SlipSheetsModel", "part", "()Z"⟩, prog_14_method_40_code, 3, some .boolean, 1, 1, 0, [1684, 1683, 110, 164]),
  (⟨"SlipSheetsModel", "land", "(I)I"⟩, prog_14_method_41_code, 4, some .int, 1, 2, 0, [1660, 1658, 1659, 164]),
  (⟨"SlipSheetsModel", "fault", "(I)I"⟩, prog_14_method_42_code, 2, some .int, 1, 2, 0, [1769, 1767, 1768, 164]),
  (⟨"SlipSheetsModel", "isMark", "(I)Z"⟩, prog_14_method_43_code, 2, some .boolean, 1, 2, 0, [1785, 1784, 131, 164]),
  (⟨"SlipSheetsModel", "isCell", "(I)Z"⟩, prog_14_method_44_code, 2, some .boolean, 1, 2, 0, [1781, 1780, 130, 164]),
  (⟨"SlipSheetsModel", "many", "(I)I"⟩, prog_14_method_45_code, 2, some .int, 1, 2, 0, [1773, 1771, 1772, 164]),
  (⟨"SlipSheetsModel", "moves", "(II)I"⟩, prog_14_method_46_code, 3, some .int, 1, 3, 0, [1777, 1775, 1776, 164]),
  (⟨"SlipSheetsModel", "isYear", "(I)Z"⟩, prog_14_method_47_code, 1, some .boolean, 0, 1, 0, [1792, 1791, 0, 164]),
  (⟨"SlipSheetsModel", "isDay", "(I)Z"⟩, prog_14_method_48_code, 1, some .boolean, 0, 1, 0, [1798, 1797, 0, 164]),
  (⟨"SlipSheetsModel", "isPlace", "(I)Z"⟩, prog_14_method_49_code, 1, some .boolean, 0, 1, 0, [1795, 1794, 0, 164]),
  (⟨"SlipSheetsModel", "row", "(IIIII)Z"⟩, prog_14_method_50_code, 6, some .boolean, 1, 6, 0, [1789, 1787, 1788, 164]),
  (⟨"SlipSheetsModel", "offset", "(III)Z"⟩, prog_14_method_51_code, 4, some .boolean, 1, 4, 0, [1802, 1800, 1801, 164]),
  (⟨"SlipSheetsModel", "asof", "(I)Z"⟩, prog_14_method_52_code, 2, some .boolean, 1, 2, 0, [1806, 1804, 1805, 164]),
  (⟨"SlipSheetsModel", "rowOf", "(II)I"⟩, prog_14_method_53_code, 4, some .int, 1, 3, 0, [1814, 1813, 132, 164]),
  (⟨"SlipSheetsModel", "valueOf", "(I)I"⟩, prog_14_method_54_code, 4, some .int, 1, 2, 0, [1818, 1817, 133, 164]),
  (⟨"SlipSheetsModel", "value", "(III)I"⟩, prog_14_method_55_code, 5, some .int, 1, 4, 0, [1810, 1808, 1809, 164]),
  (⟨"SlipSheetsModel", "fit", "(III)V"⟩, prog_14_method_56_code, 8, none, 1, 4, 3, [1826, 1825, 134, 164]),
  (⟨"SlipSheetsModel", "steep", "()J"⟩, prog_14_method_57_code, 1, some .long, 1, 1, 1, [1831, 1830, 135, 164]),
  (⟨"SlipSheetsModel", "wide", "()J"⟩, prog_14_method_58_code, 1, some .long, 1, 1, 1, [1835, 1834, 136, 164]),
  (⟨"SlipSheetsModel", "rest", "()J"⟩, prog_14_method_59_code, 1, some .long, 1, 1, 1, [1843, 1842, 138, 164]),
  (⟨"SlipSheetsModel", "line", "(IIII)I"⟩, prog_14_method_60_code, 5, some .int, 1, 5, 0, [1822, 1820, 1821, 164]),
  (⟨"SlipSheetsModel", "breaks", "(I)I"⟩, prog_14_method_61_code, 8, some .int, 1, 2, 0, [1847, 1845, 1846, 164]),
  (⟨"SlipSheetsModel", "sideOf", "(I)I"⟩, prog_14_method_62_code, 8, some .int, 1, 2, 0, [1855, 1854, 139, 164]),
  (⟨"SlipSheetsModel", "slow", "(IIII)I"⟩, prog_14_method_63_code, 13, some .int, 1, 5, 0, [1851, 1849, 1850, 164]),
  (⟨"SlipSheetsModel", "smooth", "(I)Z"⟩, prog_14_method_64_code, 2, some .boolean, 1, 2, 0, [1859, 1857, 1858, 164]),
  (⟨"SlipSheetsModel", "see", "(II)V"⟩, prog_14_method_65_code, 7, none, 1, 3, 3, [1870, 1869, 140, 164]),
  (⟨"SlipSheetsModel", "rowsOfSlips", "()I"⟩, prog_14_method_66_code, 3, some .int, 1, 1, 0, [1878, 1877, 142, 164]),
  (⟨"SlipSheetsModel", "lay", "(I)V"⟩, prog_14_method_67_code, 4, none, 1, 2, 3, [1882, 1881, 143, 164]),
  (⟨"SlipSheetsModel", "bend", "()I"⟩, prog_14_method_68_code, 4, some .int, 1, 1, 0, [1886, 1885, 144, 164]),
  (⟨"SlipSheetsModel", "fitting", "(I)I"⟩, prog_14_method_69_code, 6, some .int, 1, 2, 0, [1894, 1893, 145, 164]),
  (⟨"SlipSheetsModel", "sumOf", "(I)I"⟩, prog_14_method_70_code, 4, some .int, 1, 2, 0, [1898, 1897, 146, 164]),
  (⟨"SlipSheetsModel", "count", "(II)J"⟩, prog_14_method_71_code, 8, some .long, 1, 3, 1, [1874, 1873, 141, 164]),
  (⟨"SlipSheetsModel", "areYears", "(II)Z"⟩, prog_14_method_72_code, 2, some .boolean, 0, 2, 0, [1866, 1865, 0, 164]),
  (⟨"SlipSheetsModel", "areCells", "(I)Z"⟩, prog_14_method_73_code, 2, some .boolean, 1, 2, 0, [1906, 1905, 147, 164]),
  (⟨"SlipSheetsModel", "slips", "(II)I"⟩, prog_14_method_74_code, 3, some .int, 1, 3, 0, [1863, 1861, 1862, 164]),
  (⟨"SlipSheetsModel", "ends", "(IIII)I"⟩, prog_14_method_75_code, 7, some .int, 1, 5, 0, [1902, 1900, 1901, 164]),
  (⟨"SlipSheetsModel", "first", "(III)I"⟩, prog_14_method_76_code, 4, some .int, 1, 4, 0, [1910, 1908, 1909, 164]),
  (⟨"SlipSheetsModel", "corner", "(II)I"⟩, prog_14_method_77_code, 7, some .int, 1, 3, 0, [1914, 1912, 1913, 164]),
  (⟨"SlipSheetsModel", "findSets", "()V"⟩, prog_14_method_78_code, 4, none, 1, 1, 3, [1922, 1921, 148, 164]),
  (⟨"SlipSheetsModel", "bits", "(I)I"⟩, prog_14_method_79_code, 3, some .int, 0, 1, 0, [1925, 1924, 0, 164]),
  (⟨"SlipSheetsModel", "quarrel", "(III)I"⟩, prog_14_method_80_code, 9, some .int, 1, 4, 0, [1918, 1916, 1917, 164]),
  (⟨"SlipSheetsModel", "without", "(III)I"⟩, prog_14_method_81_code, 4, some .int, 1, 4, 0, [1929, 1927, 1928, 164]),
  (⟨"SlipSheetsModel", "odds", "(IIII)I"⟩, prog_14_method_82_code, 10, some .int, 1, 5, 0, [1933, 1931, 1932, 164]),
  (⟨"SlipSheetsModel", "rankOf", "(II)I"⟩, prog_14_method_83_code, 14, some .int, 1, 3, 0, [1945, 1944, 150, 164]),
  (⟨"SlipSheetsModel", "areMarks", "(I)Z"⟩, prog_14_method_84_code, 2, some .boolean, 1, 2, 0, [1941, 1940, 149, 164]),
  (⟨"SlipSheetsModel", "rank", "(II)I"⟩, prog_14_method_85_code, 4, some .int, 1, 3, 0, [1937, 1935, 1936, 164]),
  (⟨"SlipSheetsModel", "apart", "(II)I"⟩, prog_14_method_86_code, 3, some .int, 1, 3, 0, [1949, 1947, 1948, 164]),
  (⟨"SlipSheetsModel", "shake", "(III)Z"⟩, prog_14_method_87_code, 4, some .boolean, 1, 4, 0, [1953, 1951, 1952, 164]),
  (⟨"SlipSheetsModel", "saved", "(III)I"⟩, prog_14_method_88_code, 8, some .int, 1, 4, 0, [1957, 1955, 1956, 164]),
  (⟨"SlipSheetsModel", "net", "(II)I"⟩, prog_14_method_89_code, 10, some .int, 1, 3, 0, [1963, 1961, 1962, 164]),
  (⟨"SlipSheetsModel", "netTold", "(I)I"⟩, prog_14_method_90_code, 2, some .int, 1, 2, 0, [1968, 1966, 1967, 164]),
  (⟨"SlipSheetsModel", "few", "(IIII)I"⟩, prog_14_method_91_code, 11, some .int, 1, 5, 0, [1972, 1970, 1971, 164]),
  (⟨"SlipSheetsModel", "fewOf", "(I)I"⟩, prog_14_method_92_code, 2, some .int, 1, 2, 0, [1978, 1976, 1977, 164]),
  (⟨"java/lang/Integer", "bitCount", "(I)I"⟩, prog_15_method_49_code, 1, some .int, 0, 1, 0, [1141, 1140, 0, 173]),
  (⟨"java/lang/Long", "signum", "(J)I"⟩, prog_16_method_57_code, 2, some .int, 0, 1, 0, [1034, 1033, 0, 172]),
  (⟨"java/lang/Math", "floorDiv", "(II)I"⟩, prog_17_method_47_code, 3, some .int, 0, 2, 0, [1179, 1178, 0, 171]),
  (⟨"java/lang/Math", "abs", "(I)I"⟩, prog_17_method_59_code, 1, some .int, 0, 1, 0, [1889, 1888, 0, 171]),
  (⟨"java/lang/Math", "abs", "(J)J"⟩, prog_17_method_61_code, 2, some .long, 0, 1, 1, [1028, 1027, 0, 171]),
  (⟨"java/lang/Math", "max", "(II)I"⟩, prog_17_method_65_code, 2, some .int, 0, 2, 0, [1004, 1003, 0, 171]),
  (⟨"java/lang/Math", "min", "(II)I"⟩, prog_17_method_69_code, 2, some .int, 0, 2, 0, [1113, 1112, 0, 171]),
  (⟨"java/lang/Math", "min", "(JJ)J"⟩, prog_17_method_70_code, 4, some .long, 0, 2, 1, [1292, 1291, 0, 171]),
  (⟨"java/lang/String", "length", "()I"⟩, prog_18_method_54_code, 1, some .int, 2, 1, 0, [774, 772, 773, 167]),
  (⟨"java/lang/String", "charAt", "(I)C"⟩, prog_18_method_56_code, 2, some .char, 2, 2, 0, [784, 782, 783, 167]),
  (⟨"java/lang/String", "coder", "()B"⟩, prog_18_method_152_code, 1, some .byte, 2, 1, 0, [778, 776, 777, 167]),
  (⟨"java/lang/String", "isLatin1", "()Z"⟩, prog_18_method_154_code, 1, some .boolean, 2, 1, 0, [788, 786, 787, 167]),
  (⟨"java/lang/String", "checkIndex", "(II)V"⟩, prog_18_method_155_code, 2, none, 0, 2, 3, [794, 793, 0, 167]),
  (⟨"java/lang/StringLatin1", "charAt", "([BI)C"⟩, prog_19_method_2_code, 2, some .char, 0, 2, 0, [791, 790, 0, 168]),
  (⟨"java/lang/StringUTF16", "getChar", "([BI)C"⟩, prog_20_method_5_code, 2, some .char, 0, 2, 0, [812, 811, 0, 170]),
  (⟨"java/lang/StringUTF16", "length", "([B)I"⟩, prog_20_method_6_code, 1, some .int, 0, 1, 0, [808, 807, 0, 170]),
  (⟨"java/lang/StringUTF16", "charAt", "([BI)C"⟩, prog_20_method_83_code, 2, some .char, 0, 2, 0, [802, 801, 0, 170]),
  (⟨"java/lang/StringUTF16", "checkIndex", "(I[B)V"⟩, prog_20_method_91_code, 2, none, 0, 2, 3, [805, 804, 0, 170]),
  (⟨"java/util/Arrays", "fill", "([JJ)V"⟩, prog_22_method_101_code, 5, none, 0, 2, 3, [664, 663, 0, 165]),
  (⟨"java/util/Arrays", "fill", "([II)V"⟩, prog_22_method_103_code, 4, none, 0, 2, 3, [736, 735, 0, 165]),
  (⟨"jdk/internal/util/Preconditions", "checkIndex", "(IILjava/util/function/BiFunction;)I"⟩, prog_23_method_11_code, 3, some .int, 0, 3, 0, [799, 798, 0, 169]),
  ((⟨"", "", ""⟩ : MethodName), ByteArray.empty, 0, (none : Option FieldType), 0, 0, 0, ([] : List Nat))]
def mD : MR := ((⟨"", "", ""⟩ : MethodName), ByteArray.empty, 0, (none : Option FieldType), 0, 0, 0, ([] : List Nat))
def mG (j : Nat) : MR := MTB.getD j mD
def mN (j : Nat) : MethodName := (mG j).1
def mC (j : Nat) : ByteArray := (mG j).2.1
def mL (j : Nat) : Nat := (mG j).2.2.1
def mR (j : Nat) : Option FieldType := (mG j).2.2.2.1
def mK (j : Nat) : Nat := (mG j).2.2.2.2.1
def mA (j : Nat) : Nat := (mG j).2.2.2.2.2.1
def mT (j : Nat) : Nat := (mG j).2.2.2.2.2.2.1
def mP (j : Nat) : List Nat := (mG j).2.2.2.2.2.2.2
/-- a field's link, by its place in the tables -/
def flOK (q : Nat × Nat × Nat × Nat × Nat) : Bool := match vwCl[q.2.2.1]? with
  | some (_, T, N) => decide (q.2.2.2.1 < N) && (decide (lw_tbl[q.2.2.2.2]? = some (.fieldLink (cN q.1) q.2.1 (T q.2.2.2.1).1 (T q.2.2.2.1).2.1 (T q.2.2.2.1).2.2.1)) || decide (lw_tbl[q.2.2.2.2]? = some (.fieldLinkNest (cN q.1) q.2.1 (T q.2.2.2.1).1 (T q.2.2.2.1).2.1 (T q.2.2.2.1).2.2.1 "SlipSheets")))
  | none => false
/-- a call's link -/
def clOK (q : Nat × Nat × Nat × Nat × Nat) : Bool := Nat.blt q.2.2.2.1 MTB.length && (match q.2.2.1 with
  | 1 | 3 | 5 => decide (lw_tbl[q.2.2.2.2]? = some (.methodLinkNest (cN q.1) q.2.1 (mN q.2.2.2.1) "SlipSheets"))
  | _ => decide (lw_tbl[q.2.2.2.2]? = some (.methodLink (cN q.1) q.2.1 (mN q.2.2.2.1)))) && (match q.2.2.1 with
  | 0 | 1 => Nat.beq (mK q.2.2.2.1) 1 && !(decide ((mN q.2.2.2.1).name = "<init>"))
  | 2 | 3 => Nat.beq (mK q.2.2.2.1) 0
  | 4 | 5 => Nat.beq (mK q.2.2.2.1) 1 && decide ((mN q.2.2.2.1).name = "<init>")
  | 6 => Nat.beq (mK q.2.2.2.1) 2
  | _ => false)
/-- a method's words -/
def mtOK (j : Nat) : Bool := match mP j with
  | [a, b, d, f] => decide (lw_tbl[b]? = some (if mK j = 0 then .static (mN j) else .instanceMethod (mN j))) && (Nat.beq (mK j) 0 || decide ((mN j).name = "<init>") || decide (lw_tbl[d]? = some (.selects (mN j).cls (mN j) (mN j)))) && decide (lw_tbl[f]? = some (.initialized (mN j).cls)) && Nat.ble (mL j) 41 && decide ((mN j).cls ≠ "java/lang/invoke/MethodHandle") && decide ((mN j).cls ≠ "java/lang/invoke/VarHandle") && decide ((parseMethodDescriptor (mN j).desc).map (fun d => d.parameters.length + (if mK j = 0 then 0 else 1)) = some (mA j)) && (match mK j with
    | 2 => decide ((mN j).cls = "java/lang/String")
    | _ => true) && Nat.ble 0 a
  | _ => false
/-- a list's check, a stretch of it at a time -/
theorem all_cut {α : Type} (p : α → Bool) (l : List α) (a b : Nat) (h : ((l.drop a).take b).all p = true) (h2 : (l.drop (a + b)).all p = true) : (l.drop a).all p = true := by
  rw [← List.take_append_drop b (l.drop a), List.all_append, h, List.drop_drop, h2]; rfl
theorem all_cut0 {α : Type} (p : α → Bool) (l : List α) (h : (l.drop 0).all p = true) : l.all p = true := h
set_option maxRecDepth 100000 in
theorem flOK_s0 : ((FLT.drop 0).take 25).all flOK = true := by decide +kernel
set_option maxRecDepth 100000 in
theorem flOK_s1 : ((FLT.drop 25).take 25).all flOK = true := by decide +kernel
set_option maxRecDepth 100000 in
theorem flOK_s2 : ((FLT.drop 50).take 25).all flOK = true := by decide +kernel
set_option maxRecDepth 100000 in
theorem flOK_s3 : ((FLT.drop 75).take 25).all flOK = true := by decide +kernel
set_option maxRecDepth 100000 in
theorem flOK_s4 : ((FLT.drop 100).take 25).all flOK = true := by decide +kernel
set_option maxRecDepth 100000 in
theorem flOK_s5 : ((FLT.drop 125).take 25).all flOK = true := by decide +kernel
set_option maxRecDepth 100000 in
theorem flOK_s6 : ((FLT.drop 150).take 25).all flOK = true := by decide +kernel
set_option maxRecDepth 100000 in
theorem flOK_s7 : ((FLT.drop 175).take 25).all flOK = true := by decide +kernel
set_option maxRecDepth 100000 in
theorem flOK_s8 : ((FLT.drop 200).take 25).all flOK = true := by decide +kernel
set_option maxRecDepth 100000 in
theorem flOK_s9 : ((FLT.drop 225).take 25).all flOK = true := by decide +kernel
set_option maxRecDepth 100000 in
theorem flOK_e : (FLT.drop 250).all flOK = true := by decide +kernel
theorem flOK_all : FLT.all flOK = true := all_cut0 flOK FLT (all_cut flOK FLT 0 25 flOK_s0 (all_cut flOK FLT 25 25 flOK_s1 (all_cut flOK FLT 50 25 flOK_s2 (all_cut flOK FLT 75 25 flOK_s3 (all_cut flOK FLT 100 25 flOK_s4 (all_cut flOK FLT 125 25 flOK_s5 (all_cut flOK FLT 150 25 flOK_s6 (all_cut flOK FLT 175 25 flOK_s7 (all_cut flOK FLT 200 25 flOK_s8 (all_cut flOK FLT 225 25 flOK_s9 flOK_e))))))))))
set_option maxRecDepth 100000 in
theorem clOK_s0 : ((CLT.drop 0).take 25).all clOK = true := by decide +kernel
set_option maxRecDepth 100000 in
theorem clOK_s1 : ((CLT.drop 25).take 25).all clOK = true := by decide +kernel
set_option maxRecDepth 100000 in
theorem clOK_s2 : ((CLT.drop 50).take 25).all clOK = true := by decide +kernel
set_option maxRecDepth 100000 in
theorem clOK_s3 : ((CLT.drop 75).take 25).all clOK = true := by decide +kernel
set_option maxRecDepth 100000 in
theorem clOK_s4 : ((CLT.drop 100).take 25).all clOK = true := by decide +kernel
set_option maxRecDepth 100000 in
theorem clOK_s5 : ((CLT.drop 125).take 25).all clOK = true := by decide +kernel
set_option maxRecDepth 100000 in
theorem clOK_s6 : ((CLT.drop 150).take 25).all clOK = true := by decide +kernel
set_option maxRecDepth 100000 in
theorem clOK_s7 : ((CLT.drop 175).take 25).all clOK = true := by decide +kernel
set_option maxRecDepth 100000 in
theorem clOK_s8 : ((CLT.drop 200).take 25).all clOK = true := by decide +kernel
set_option maxRecDepth 100000 in
theorem clOK_s9 : ((CLT.drop 225).take 25).all clOK = true := by decide +kernel
set_option maxRecDepth 100000 in
theorem clOK_s10 : ((CLT.drop 250).take 25).all clOK = true := by decide +kernel
set_option maxRecDepth 100000 in
theorem clOK_s11 : ((CLT.drop 275).take 25).all clOK = true := by decide +kernel
set_option maxRecDepth 100000 in
theorem clOK_e : (CLT.drop 300).all clOK = true := by decide +kernel
theorem clOK_all : CLT.all clOK = true := all_cut0 clOK CLT (all_cut clOK CLT 0 25 clOK_s0 (all_cut clOK CLT 25 25 clOK_s1 (all_cut clOK CLT 50 25 clOK_s2 (all_cut clOK CLT 75 25 clOK_s3 (all_cut clOK CLT 100 25 clOK_s4 (all_cut clOK CLT 125 25 clOK_s5 (all_cut clOK CLT 150 25 clOK_s6 (all_cut clOK CLT 175 25 clOK_s7 (all_cut clOK CLT 200 25 clOK_s8 (all_cut clOK CLT 225 25 clOK_s9 (all_cut clOK CLT 250 25 clOK_s10 (all_cut clOK CLT 275 25 clOK_s11 clOK_e))))))))))))
set_option maxRecDepth 100000 in
theorem mtOK_s0 : (((List.range MTB.length).drop 0).take 25).all (fun j => Nat.beq j 276 || mtOK j) = true := by decide +kernel
set_option maxRecDepth 100000 in
theorem mtOK_s1 : (((List.range MTB.length).drop 25).take 25).all (fun j => Nat.beq j 276 || mtOK j) = true := by decide +kernel
set_option maxRecDepth 100000 in
theorem mtOK_s2 : (((List.range MTB.length).drop 50).take 25).all (fun j => Nat.beq j 276 || mtOK j) = true := by decide +kernel
set_option maxRecDepth 100000 in
theorem mtOK_s3 : (((List.range MTB.length).drop 75).take 25).all (fun j => Nat.beq j 276 || mtOK j) = true := by decide +kernel
set_option maxRecDepth 100000 in
theorem mtOK_s4 : (((List.range MTB.length).drop 100).take 25).all (fun j => Nat.beq j 276 || mtOK j) = true := by decide +kernel
set_option maxRecDepth 100000 in
theorem mtOK_s5 : (((List.range MTB.length).drop 125).take 25).all (fun j => Nat.beq j 276 || mtOK j) = true := by decide +kernel
set_option maxRecDepth 100000 in
theorem mtOK_s6 : (((List.range MTB.length).drop 150).take 25).all (fun j => Nat.beq j 276 || mtOK j) = true := by decide +kernel
set_option maxRecDepth 100000 in
theorem mtOK_s7 : (((List.range MTB.length).drop 175).take 25).all (fun j => Nat.beq j 276 || mtOK j) = true := by decide +kernel
set_option maxRecDepth 100000 in
theorem mtOK_s8 : (((List.range MTB.length).drop 200).take 25).all (fun j => Nat.beq j 276 || mtOK j) = true := by decide +kernel
set_option maxRecDepth 100000 in
theorem mtOK_s9 : (((List.range MTB.length).drop 225).take 25).all (fun j => Nat.beq j 276 || mtOK j) = true := by decide +kernel
set_option maxRecDepth 100000 in
theorem mtOK_s10 : (((List.range MTB.length).drop 250).take 25).all (fun j => Nat.beq j 276 || mtOK j) = true := by decide +kernel
set_option maxRecDepth 100000 in
theorem mtOK_s11 : (((List.range MTB.length).drop 275).take 25).all (fun j => Nat.beq j 276 || mtOK j) = true := by decide +kernel
set_option maxRecDepth 100000 in
theorem mtOK_e : ((List.range MTB.length).drop 300).all (fun j => Nat.beq j 276 || mtOK j) = true := by decide +kernel
theorem mtOK_all : (List.range MTB.length).all (fun j => Nat.beq j 276 || mtOK j) = true := all_cut0 (fun j => Nat.beq j 276 || mtOK j) (List.range MTB.length) (all_cut (fun j => Nat.beq j 276 || mtOK j) (List.range MTB.length) 0 25 mtOK_s0 (all_cut (fun j => Nat.beq j 276 || mtOK j) (List.range MTB.length) 25 25 mtOK_s1 (all_cut (fun j => Nat.beq j 276 || mtOK j) (List.range MTB.length) 50 25 mtOK_s2 (all_cut (fun j => Nat.beq j 276 || mtOK j) (List.range MTB.length) 75 25 mtOK_s3 (all_cut (fun j => Nat.beq j 276 || mtOK j) (List.range MTB.length) 100 25 mtOK_s4 (all_cut (fun j => Nat.beq j 276 || mtOK j) (List.range MTB.length) 125 25 mtOK_s5 (all_cut (fun j => Nat.beq j 276 || mtOK j) (List.range MTB.length) 150 25 mtOK_s6 (all_cut (fun j => Nat.beq j 276 || mtOK j) (List.range MTB.length) 175 25 mtOK_s7 (all_cut (fun j => Nat.beq j 276 || mtOK j) (List.range MTB.length) 200 25 mtOK_s8 (all_cut (fun j => Nat.beq j 276 || mtOK j) (List.range MTB.length) 225 25 mtOK_s9 (all_cut (fun j => Nat.beq j 276 || mtOK j) (List.range MTB.length) 250 25 mtOK_s10 (all_cut (fun j => Nat.beq j 276 || mtOK j) (List.range MTB.length) 275 25 mtOK_s11 mtOK_e))))))))))))
