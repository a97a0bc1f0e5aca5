/-! Part 92f: the law's instructions -/
theorem dL_law_1162 : decode code 1162 = .ok (.iconst 1, 1) := by decide +kernel
theorem dL_law_1163 : decode code 1163 = .ok (.iadd, 1) := by decide +kernel
theorem dL_law_1164 : decode code 1164 = .ok (.iaload, 1) := by decide +kernel
theorem dL_law_1165 : decode code 1165 = .ok (.invokevirtual 209, 3) := by decide +kernel
theorem dL_law_1168 : decode code 1168 = .ok (.istore 7, 2) := by decide +kernel
theorem dL_law_1170 : decode code 1170 = .ok (.aload_n 2, 1) := by decide +kernel
theorem dL_law_1171 : decode code 1171 = .ok (.invokevirtual 169, 3) := by decide +kernel
theorem dL_law_1174 : decode code 1174 = .ok (.iload 6, 2) := by decide +kernel
theorem dL_law_1176 : decode code 1176 = .ok (.if_icmp .eq 5, 3) := by decide +kernel
theorem dL_law_1179 : decode code 1179 = .ok (.iconst 0, 1) := by decide +kernel
theorem dL_law_1180 : decode code 1180 = .ok (.ireturn, 1) := by decide +kernel
theorem dL_law_1181 : decode code 1181 = .ok (.iload 6, 2) := by decide +kernel
theorem dL_law_1183 : decode code 1183 = .ok (.ifCond .ne 15, 3) := by decide +kernel
theorem dL_law_1186 : decode code 1186 = .ok (.aload_n 3, 1) := by decide +kernel
theorem dL_law_1187 : decode code 1187 = .ok (.iconst 0, 1) := by decide +kernel
theorem dL_law_1188 : decode code 1188 = .ok (.laload, 1) := by decide +kernel
theorem dL_law_1189 : decode code 1189 = .ok (.iload 7, 2) := by decide +kernel
theorem dL_law_1191 : decode code 1191 = .ok (.i2l, 1) := by decide +kernel
theorem dL_law_1192 : decode code 1192 = .ok (.lcmp, 1) := by decide +kernel
theorem dL_law_1193 : decode code 1193 = .ok (.ifCond .eq 5, 3) := by decide +kernel
theorem dL_law_1196 : decode code 1196 = .ok (.iconst 0, 1) := by decide +kernel
theorem dL_law_1197 : decode code 1197 = .ok (.ireturn, 1) := by decide +kernel
theorem dL_law_1198 : decode code 1198 = .ok (.goto 1715, 3) := by decide +kernel
theorem dL_law_1201 : decode code 1201 = .ok (.aload_n 1, 1) := by decide +kernel
theorem dL_law_1202 : decode code 1202 = .ok (.aload_n 0, 1) := by decide +kernel
theorem dL_law_1203 : decode code 1203 = .ok (.iload 5, 2) := by decide +kernel
theorem dL_law_1205 : decode code 1205 = .ok (.iconst 1, 1) := by decide +kernel
theorem dL_law_1206 : decode code 1206 = .ok (.iadd, 1) := by decide +kernel
theorem dL_law_1207 : decode code 1207 = .ok (.iaload, 1) := by decide +kernel
theorem dL_law_1208 : decode code 1208 = .ok (.aload_n 0, 1) := by decide +kernel
theorem dL_law_1209 : decode code 1209 = .ok (.iload 5, 2) := by decide +kernel
theorem dL_law_1211 : decode code 1211 = .ok (.iconst 2, 1) := by decide +kernel
theorem dL_law_1212 : decode code 1212 = .ok (.iadd, 1) := by decide +kernel
theorem dL_law_1213 : decode code 1213 = .ok (.iaload, 1) := by decide +kernel
theorem dL_law_1214 : decode code 1214 = .ok (.aload_n 3, 1) := by decide +kernel
theorem dL_law_1215 : decode code 1215 = .ok (.invokestatic 210, 3) := by decide +kernel
theorem dL_law_1218 : decode code 1218 = .ok (.istore 6, 2) := by decide +kernel
theorem dL_law_1220 : decode code 1220 = .ok (.aload_n 2, 1) := by decide +kernel
theorem dL_law_1221 : decode code 1221 = .ok (.aload_n 0, 1) := by decide +kernel
theorem dL_law_1222 : decode code 1222 = .ok (.iload 5, 2) := by decide +kernel
theorem dL_law_1224 : decode code 1224 = .ok (.iconst 1, 1) := by decide +kernel
theorem dL_law_1225 : decode code 1225 = .ok (.iadd, 1) := by decide +kernel
theorem dL_law_1226 : decode code 1226 = .ok (.iaload, 1) := by decide +kernel
theorem dL_law_1227 : decode code 1227 = .ok (.aload_n 0, 1) := by decide +kernel
theorem dL_law_1228 : decode code 1228 = .ok (.iload 5, 2) := by decide +kernel
theorem dL_law_1230 : decode code 1230 = .ok (.iconst 2, 1) := by decide +kernel
theorem dL_law_1231 : decode code 1231 = .ok (.iadd, 1) := by decide +kernel
theorem dL_law_1232 : decode code 1232 = .ok (.iaload, 1) := by decide +kernel
theorem dL_law_1233 : decode code 1233 = .ok (.invokevirtual 212, 3) := by decide +kernel
theorem dL_law_1236 : decode code 1236 = .ok (.istore 7, 2) := by decide +kernel
theorem dL_law_1238 : decode code 1238 = .ok (.aload_n 2, 1) := by decide +kernel
theorem dL_law_1239 : decode code 1239 = .ok (.invokevirtual 169, 3) := by decide +kernel
theorem dL_law_1242 : decode code 1242 = .ok (.iload 6, 2) := by decide +kernel
theorem dL_law_1244 : decode code 1244 = .ok (.if_icmp .eq 5, 3) := by decide +kernel
theorem dL_law_1247 : decode code 1247 = .ok (.iconst 0, 1) := by decide +kernel
theorem dL_law_1248 : decode code 1248 = .ok (.ireturn, 1) := by decide +kernel
theorem dL_law_1249 : decode code 1249 = .ok (.iload 6, 2) := by decide +kernel
theorem dL_law_1251 : decode code 1251 = .ok (.ifCond .ne 15, 3) := by decide +kernel
theorem dL_law_1254 : decode code 1254 = .ok (.aload_n 3, 1) := by decide +kernel
theorem dL_law_1255 : decode code 1255 = .ok (.iconst 0, 1) := by decide +kernel
theorem dL_law_1256 : decode code 1256 = .ok (.laload, 1) := by decide +kernel
theorem dL_law_1257 : decode code 1257 = .ok (.iload 7, 2) := by decide +kernel
theorem dL_law_1259 : decode code 1259 = .ok (.i2l, 1) := by decide +kernel
theorem dL_law_1260 : decode code 1260 = .ok (.lcmp, 1) := by decide +kernel
theorem dL_law_1261 : decode code 1261 = .ok (.ifCond .eq 5, 3) := by decide +kernel
theorem dL_law_1264 : decode code 1264 = .ok (.iconst 0, 1) := by decide +kernel
theorem dL_law_1265 : decode code 1265 = .ok (.ireturn, 1) := by decide +kernel
theorem dL_law_1266 : decode code 1266 = .ok (.goto 1647, 3) := by decide +kernel
theorem dL_law_1269 : decode code 1269 = .ok (.aload_n 1, 1) := by decide +kernel
theorem dL_law_1270 : decode code 1270 = .ok (.aload_n 0, 1) := by decide +kernel
theorem dL_law_1271 : decode code 1271 = .ok (.iload 5, 2) := by decide +kernel
theorem dL_law_1273 : decode code 1273 = .ok (.iconst 1, 1) := by decide +kernel
theorem dL_law_1274 : decode code 1274 = .ok (.iadd, 1) := by decide +kernel
theorem dL_law_1275 : decode code 1275 = .ok (.iaload, 1) := by decide +kernel
theorem dL_law_1276 : decode code 1276 = .ok (.aload_n 0, 1) := by decide +kernel
theorem dL_law_1277 : decode code 1277 = .ok (.iload 5, 2) := by decide +kernel
theorem dL_law_1279 : decode code 1279 = .ok (.iconst 2, 1) := by decide +kernel
theorem dL_law_1280 : decode code 1280 = .ok (.iadd, 1) := by decide +kernel
theorem dL_law_1281 : decode code 1281 = .ok (.iaload, 1) := by decide +kernel
theorem dL_law_1282 : decode code 1282 = .ok (.aload_n 0, 1) := by decide +kernel
theorem dL_law_1283 : decode code 1283 = .ok (.iload 5, 2) := by decide +kernel
theorem dL_law_1285 : decode code 1285 = .ok (.iconst 3, 1) := by decide +kernel
theorem dL_law_1286 : decode code 1286 = .ok (.iadd, 1) := by decide +kernel
theorem dL_law_1287 : decode code 1287 = .ok (.iaload, 1) := by decide +kernel
theorem dL_law_1288 : decode code 1288 = .ok (.aload_n 3, 1) := by decide +kernel
theorem dL_law_1289 : decode code 1289 = .ok (.invokestatic 213, 3) := by decide +kernel
theorem dL_law_1292 : decode code 1292 = .ok (.istore 6, 2) := by decide +kernel
theorem dL_law_1294 : decode code 1294 = .ok (.aload_n 2, 1) := by decide +kernel
theorem dL_law_1295 : decode code 1295 = .ok (.aload_n 0, 1) := by decide +kernel
theorem dL_law_1296 : decode code 1296 = .ok (.iload 5, 2) := by decide +kernel
theorem dL_law_1298 : decode code 1298 = .ok (.iconst 1, 1) := by decide +kernel
theorem dL_law_1299 : decode code 1299 = .ok (.iadd, 1) := by decide +kernel
theorem dL_law_1300 : decode code 1300 = .ok (.iaload, 1) := by decide +kernel
theorem dL_law_1301 : decode code 1301 = .ok (.aload_n 0, 1) := by decide +kernel
theorem dL_law_1302 : decode code 1302 = .ok (.iload 5, 2) := by decide +kernel
theorem dL_law_1304 : decode code 1304 = .ok (.iconst 2, 1) := by decide +kernel
theorem dL_law_1305 : decode code 1305 = .ok (.iadd, 1) := by decide +kernel
theorem dL_law_1306 : decode code 1306 = .ok (.iaload, 1) := by decide +kernel
theorem dL_law_1307 : decode code 1307 = .ok (.aload_n 0, 1) := by decide +kernel
theorem dL_law_1308 : decode code 1308 = .ok (.iload 5, 2) := by decide +kernel
theorem dL_law_1310 : decode code 1310 = .ok (.iconst 3, 1) := by decide +kernel
theorem dL_law_1311 : decode code 1311 = .ok (.iadd, 1) := by decide +kernel
theorem dL_law_1312 : decode code 1312 = .ok (.iaload, 1) := by decide +kernel
theorem dL_law_1313 : decode code 1313 = .ok (.invokevirtual 215, 3) := by decide +kernel
theorem dL_law_1316 : decode code 1316 = .ok (.istore 7, 2) := by decide +kernel
theorem dL_law_1318 : decode code 1318 = .ok (.aload_n 2, 1) := by decide +kernel
theorem dL_law_1319 : decode code 1319 = .ok (.invokevirtual 169, 3) := by decide +kernel
theorem dL_law_1322 : decode code 1322 = .ok (.iload 6, 2) := by decide +kernel
theorem dL_law_1324 : decode code 1324 = .ok (.if_icmp .eq 5, 3) := by decide +kernel
theorem dL_law_1327 : decode code 1327 = .ok (.iconst 0, 1) := by decide +kernel
theorem dL_law_1328 : decode code 1328 = .ok (.ireturn, 1) := by decide +kernel
theorem dL_law_1329 : decode code 1329 = .ok (.iload 6, 2) := by decide +kernel
theorem dL_law_1331 : decode code 1331 = .ok (.ifCond .ne 15, 3) := by decide +kernel
theorem dL_law_1334 : decode code 1334 = .ok (.aload_n 3, 1) := by decide +kernel
theorem dL_law_1335 : decode code 1335 = .ok (.iconst 0, 1) := by decide +kernel
theorem dL_law_1336 : decode code 1336 = .ok (.laload, 1) := by decide +kernel
theorem dL_law_1337 : decode code 1337 = .ok (.iload 7, 2) := by decide +kernel
theorem dL_law_1339 : decode code 1339 = .ok (.i2l, 1) := by decide +kernel
theorem dL_law_1340 : decode code 1340 = .ok (.lcmp, 1) := by decide +kernel
theorem dL_law_1341 : decode code 1341 = .ok (.ifCond .eq 5, 3) := by decide +kernel
theorem dL_law_1344 : decode code 1344 = .ok (.iconst 0, 1) := by decide +kernel
theorem dL_law_1345 : decode code 1345 = .ok (.ireturn, 1) := by decide +kernel
theorem dL_law_1346 : decode code 1346 = .ok (.goto 1567, 3) := by decide +kernel
theorem dL_law_1349 : decode code 1349 = .ok (.aload_n 1, 1) := by decide +kernel
theorem dL_law_1350 : decode code 1350 = .ok (.invokevirtual 216, 3) := by decide +kernel
