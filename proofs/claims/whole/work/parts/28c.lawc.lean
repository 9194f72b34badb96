/-! The law's loop: its tables are its code (printed by gen/run6.py) -/
set_option maxRecDepth 100000
theorem wd_2035 : (Cond.methodLink RL 329 yX7_restore) ∈ lw_all := all_at 2035 (by decide +kernel) rfl
theorem wd_2036 : (Cond.instanceMethod yX7_restore) ∈ lw_all := all_at 2036 (by decide +kernel) rfl
theorem wd_2037 : (Cond.selects RX7 yX7_restore yX7_restore) ∈ lw_all := all_at 2037 (by decide +kernel) rfl
theorem wd_2038 : (Cond.code yX7_restore cX7_restore 2 (some .int)) ∈ lw_all := all_at 2038 (by decide +kernel) rfl
theorem wd_1529 : (Cond.methodLink RL 327 yL_restore) ∈ lw_all := all_at 1529 (by decide +kernel) rfl
theorem wd_1530 : (Cond.static yL_restore) ∈ lw_all := all_at 1530 (by decide +kernel) rfl
theorem wd_85 : (Cond.initialized RL) ∈ lw_all := all_at 85 (by decide +kernel) rfl
theorem wd_1531 : (Cond.codeWith yL_restore cL_restore 3 (some .int) [(0, 8, 11, 17)]) ∈ lw_all := all_at 1531 (by decide +kernel) rfl
theorem wd_2031 : (Cond.methodLink RL 326 yX7_save) ∈ lw_all := all_at 2031 (by decide +kernel) rfl
theorem wd_2032 : (Cond.instanceMethod yX7_save) ∈ lw_all := all_at 2032 (by decide +kernel) rfl
theorem wd_2033 : (Cond.selects RX7 yX7_save yX7_save) ∈ lw_all := all_at 2033 (by decide +kernel) rfl
theorem wd_2034 : (Cond.code yX7_save cX7_save 2 (some .int)) ∈ lw_all := all_at 2034 (by decide +kernel) rfl
theorem wd_1094 : (Cond.methodLink RL 323 yX6_save) ∈ lw_all := all_at 1094 (by decide +kernel) rfl
theorem wd_1095 : (Cond.instanceMethod yX6_save) ∈ lw_all := all_at 1095 (by decide +kernel) rfl
theorem wd_1096 : (Cond.selects RX6 yX6_save yX6_save) ∈ lw_all := all_at 1096 (by decide +kernel) rfl
theorem wd_1097 : (Cond.code yX6_save cX6_save 1 (some .int)) ∈ lw_all := all_at 1097 (by decide +kernel) rfl
theorem wd_2027 : (Cond.methodLink RL 322 yX7_undo) ∈ lw_all := all_at 2027 (by decide +kernel) rfl
theorem wd_2028 : (Cond.instanceMethod yX7_undo) ∈ lw_all := all_at 2028 (by decide +kernel) rfl
theorem wd_2029 : (Cond.selects RX7 yX7_undo yX7_undo) ∈ lw_all := all_at 2029 (by decide +kernel) rfl
theorem wd_2030 : (Cond.code yX7_undo cX7_undo 3 (some .int)) ∈ lw_all := all_at 2030 (by decide +kernel) rfl
theorem wd_1517 : (Cond.methodLink RL 320 yL_undo) ∈ lw_all := all_at 1517 (by decide +kernel) rfl
theorem wd_1518 : (Cond.static yL_undo) ∈ lw_all := all_at 1518 (by decide +kernel) rfl
theorem wd_1519 : (Cond.codeWith yL_undo cL_undo 3 (some .int) [(0, 8, 11, 25)]) ∈ lw_all := all_at 1519 (by decide +kernel) rfl
theorem wd_2023 : (Cond.methodLink RL 319 yX7_failedCommand) ∈ lw_all := all_at 2023 (by decide +kernel) rfl
theorem wd_2024 : (Cond.instanceMethod yX7_failedCommand) ∈ lw_all := all_at 2024 (by decide +kernel) rfl
theorem wd_2025 : (Cond.selects RX7 yX7_failedCommand yX7_failedCommand) ∈ lw_all := all_at 2025 (by decide +kernel) rfl
theorem wd_2026 : (Cond.code yX7_failedCommand cX7_failedCommand 1 (some .int)) ∈ lw_all := all_at 2026 (by decide +kernel) rfl
theorem wd_1510 : (Cond.methodLink RL 317 yL_failedCommand) ∈ lw_all := all_at 1510 (by decide +kernel) rfl
theorem wd_1511 : (Cond.static yL_failedCommand) ∈ lw_all := all_at 1511 (by decide +kernel) rfl
theorem wd_1512 : (Cond.codeWith yL_failedCommand cL_failedCommand 3 (some .int) [(0, 8, 11, 25)]) ∈ lw_all := all_at 1512 (by decide +kernel) rfl
theorem wd_2019 : (Cond.methodLink RL 316 yX7_errorPosition) ∈ lw_all := all_at 2019 (by decide +kernel) rfl
theorem wd_2020 : (Cond.instanceMethod yX7_errorPosition) ∈ lw_all := all_at 2020 (by decide +kernel) rfl
theorem wd_2021 : (Cond.selects RX7 yX7_errorPosition yX7_errorPosition) ∈ lw_all := all_at 2021 (by decide +kernel) rfl
theorem wd_2022 : (Cond.code yX7_errorPosition cX7_errorPosition 1 (some .int)) ∈ lw_all := all_at 2022 (by decide +kernel) rfl
theorem wd_1503 : (Cond.methodLink RL 314 yL_errorPosition) ∈ lw_all := all_at 1503 (by decide +kernel) rfl
theorem wd_1504 : (Cond.static yL_errorPosition) ∈ lw_all := all_at 1504 (by decide +kernel) rfl
theorem wd_1505 : (Cond.codeWith yL_errorPosition cL_errorPosition 3 (some .int) [(0, 8, 11, 25)]) ∈ lw_all := all_at 1505 (by decide +kernel) rfl
theorem wd_1963 : (Cond.methodLink RL 313 yX7_runScript) ∈ lw_all := all_at 1963 (by decide +kernel) rfl
theorem wd_1964 : (Cond.instanceMethod yX7_runScript) ∈ lw_all := all_at 1964 (by decide +kernel) rfl
theorem wd_1965 : (Cond.selects RX7 yX7_runScript yX7_runScript) ∈ lw_all := all_at 1965 (by decide +kernel) rfl
theorem wd_1966 : (Cond.code yX7_runScript cX7_runScript 2 (some .int)) ∈ lw_all := all_at 1966 (by decide +kernel) rfl
theorem wd_1404 : (Cond.methodLink RL 311 yL_runScript) ∈ lw_all := all_at 1404 (by decide +kernel) rfl
theorem wd_1405 : (Cond.static yL_runScript) ∈ lw_all := all_at 1405 (by decide +kernel) rfl
theorem wd_1406 : (Cond.codeWith yL_runScript cL_runScript 3 (some .int) [(0, 8, 11, 15), (0, 8, 14, 17)]) ∈ lw_all := all_at 1406 (by decide +kernel) rfl
theorem wd_1959 : (Cond.methodLink RL 310 yX7_type) ∈ lw_all := all_at 1959 (by decide +kernel) rfl
theorem wd_1960 : (Cond.instanceMethod yX7_type) ∈ lw_all := all_at 1960 (by decide +kernel) rfl
theorem wd_1961 : (Cond.selects RX7 yX7_type yX7_type) ∈ lw_all := all_at 1961 (by decide +kernel) rfl
theorem wd_1962 : (Cond.code yX7_type cX7_type 2 (some .int)) ∈ lw_all := all_at 1962 (by decide +kernel) rfl
theorem wd_1389 : (Cond.methodLink RL 307 yL_type) ∈ lw_all := all_at 1389 (by decide +kernel) rfl
theorem wd_1390 : (Cond.static yL_type) ∈ lw_all := all_at 1390 (by decide +kernel) rfl
theorem wd_1391 : (Cond.codeWith yL_type cL_type 4 (some .int) [(0, 9, 12, 15), (0, 9, 15, 17)]) ∈ lw_all := all_at 1391 (by decide +kernel) rfl
theorem wd_1955 : (Cond.methodLink RL 306 yX7_outputAt) ∈ lw_all := all_at 1955 (by decide +kernel) rfl
theorem wd_1956 : (Cond.instanceMethod yX7_outputAt) ∈ lw_all := all_at 1956 (by decide +kernel) rfl
theorem wd_1957 : (Cond.selects RX7 yX7_outputAt yX7_outputAt) ∈ lw_all := all_at 1957 (by decide +kernel) rfl
theorem wd_1958 : (Cond.code yX7_outputAt cX7_outputAt 2 (some .char)) ∈ lw_all := all_at 1958 (by decide +kernel) rfl
theorem wd_1372 : (Cond.methodLink RL 304 yL_outputAt) ∈ lw_all := all_at 1372 (by decide +kernel) rfl
theorem wd_1373 : (Cond.static yL_outputAt) ∈ lw_all := all_at 1373 (by decide +kernel) rfl
theorem wd_1374 : (Cond.codeWith yL_outputAt cL_outputAt 4 (some .int) [(0, 9, 12, 13)]) ∈ lw_all := all_at 1374 (by decide +kernel) rfl
theorem wd_1951 : (Cond.methodLink RL 303 yX7_renderBarge) ∈ lw_all := all_at 1951 (by decide +kernel) rfl
theorem wd_1952 : (Cond.instanceMethod yX7_renderBarge) ∈ lw_all := all_at 1952 (by decide +kernel) rfl
theorem wd_1953 : (Cond.selects RX7 yX7_renderBarge yX7_renderBarge) ∈ lw_all := all_at 1953 (by decide +kernel) rfl
theorem wd_1954 : (Cond.code yX7_renderBarge cX7_renderBarge 2 (some .int)) ∈ lw_all := all_at 1954 (by decide +kernel) rfl
theorem wd_776 : (Cond.methodLink RL 300 yX6_renderBarge) ∈ lw_all := all_at 776 (by decide +kernel) rfl
theorem wd_777 : (Cond.instanceMethod yX6_renderBarge) ∈ lw_all := all_at 777 (by decide +kernel) rfl
theorem wd_778 : (Cond.selects RX6 yX6_renderBarge yX6_renderBarge) ∈ lw_all := all_at 778 (by decide +kernel) rfl
theorem wd_779 : (Cond.code yX6_renderBarge cX6_renderBarge 2 (some .int)) ∈ lw_all := all_at 779 (by decide +kernel) rfl
theorem wd_1939 : (Cond.methodLink RL 299 yX7_renderStack) ∈ lw_all := all_at 1939 (by decide +kernel) rfl
theorem wd_1940 : (Cond.instanceMethod yX7_renderStack) ∈ lw_all := all_at 1940 (by decide +kernel) rfl
theorem wd_1941 : (Cond.selects RX7 yX7_renderStack yX7_renderStack) ∈ lw_all := all_at 1941 (by decide +kernel) rfl
theorem wd_1942 : (Cond.code yX7_renderStack cX7_renderStack 3 (some .int)) ∈ lw_all := all_at 1942 (by decide +kernel) rfl
theorem wd_1361 : (Cond.methodLink RL 297 yL_renderStack) ∈ lw_all := all_at 1361 (by decide +kernel) rfl
theorem wd_1362 : (Cond.static yL_renderStack) ∈ lw_all := all_at 1362 (by decide +kernel) rfl
theorem wd_1363 : (Cond.codeWith yL_renderStack cL_renderStack 4 (some .int) [(0, 9, 12, 13)]) ∈ lw_all := all_at 1363 (by decide +kernel) rfl
theorem wd_1935 : (Cond.methodLink RL 296 yX7_isConsistent) ∈ lw_all := all_at 1935 (by decide +kernel) rfl
theorem wd_1936 : (Cond.instanceMethod yX7_isConsistent) ∈ lw_all := all_at 1936 (by decide +kernel) rfl
theorem wd_1937 : (Cond.selects RX7 yX7_isConsistent yX7_isConsistent) ∈ lw_all := all_at 1937 (by decide +kernel) rfl
theorem wd_1938 : (Cond.code yX7_isConsistent cX7_isConsistent 1 (some .boolean)) ∈ lw_all := all_at 1938 (by decide +kernel) rfl
theorem wd_771 : (Cond.methodLink RL 293 yX6_isConsistent) ∈ lw_all := all_at 771 (by decide +kernel) rfl
theorem wd_772 : (Cond.instanceMethod yX6_isConsistent) ∈ lw_all := all_at 772 (by decide +kernel) rfl
theorem wd_773 : (Cond.selects RX6 yX6_isConsistent yX6_isConsistent) ∈ lw_all := all_at 773 (by decide +kernel) rfl
theorem wd_774 : (Cond.code yX6_isConsistent cX6_isConsistent 2 (some .boolean)) ∈ lw_all := all_at 774 (by decide +kernel) rfl
theorem wd_1931 : (Cond.methodLink RL 292 yX7_capsizedShare) ∈ lw_all := all_at 1931 (by decide +kernel) rfl
theorem wd_1932 : (Cond.instanceMethod yX7_capsizedShare) ∈ lw_all := all_at 1932 (by decide +kernel) rfl
theorem wd_1933 : (Cond.selects RX7 yX7_capsizedShare yX7_capsizedShare) ∈ lw_all := all_at 1933 (by decide +kernel) rfl
theorem wd_1934 : (Cond.code yX7_capsizedShare cX7_capsizedShare 1 (some .float)) ∈ lw_all := all_at 1934 (by decide +kernel) rfl
theorem wd_1354 : (Cond.methodLink RL 290 yL_capsizedShare) ∈ lw_all := all_at 1354 (by decide +kernel) rfl
theorem wd_1355 : (Cond.static yL_capsizedShare) ∈ lw_all := all_at 1355 (by decide +kernel) rfl
theorem wd_1356 : (Cond.codeWith yL_capsizedShare cL_capsizedShare 3 (some .int) [(0, 8, 11, 94)]) ∈ lw_all := all_at 1356 (by decide +kernel) rfl
theorem wd_1927 : (Cond.methodLink RL 289 yX7_meanAge) ∈ lw_all := all_at 1927 (by decide +kernel) rfl
theorem wd_1928 : (Cond.instanceMethod yX7_meanAge) ∈ lw_all := all_at 1928 (by decide +kernel) rfl
theorem wd_1929 : (Cond.selects RX7 yX7_meanAge yX7_meanAge) ∈ lw_all := all_at 1929 (by decide +kernel) rfl
theorem wd_1930 : (Cond.code yX7_meanAge cX7_meanAge 3 (some .double)) ∈ lw_all := all_at 1930 (by decide +kernel) rfl
theorem wd_1324 : (Cond.methodLink RL 286 yL_meanAge) ∈ lw_all := all_at 1324 (by decide +kernel) rfl
theorem wd_1325 : (Cond.static yL_meanAge) ∈ lw_all := all_at 1325 (by decide +kernel) rfl
theorem wd_1326 : (Cond.codeWith yL_meanAge cL_meanAge 3 (some .int) [(0, 7, 10, 94)]) ∈ lw_all := all_at 1326 (by decide +kernel) rfl
theorem wd_1923 : (Cond.methodLink RL 285 yX7_capsizedTotal) ∈ lw_all := all_at 1923 (by decide +kernel) rfl
theorem wd_1924 : (Cond.instanceMethod yX7_capsizedTotal) ∈ lw_all := all_at 1924 (by decide +kernel) rfl
theorem wd_1925 : (Cond.selects RX7 yX7_capsizedTotal yX7_capsizedTotal) ∈ lw_all := all_at 1925 (by decide +kernel) rfl
theorem wd_1926 : (Cond.code yX7_capsizedTotal cX7_capsizedTotal 1 (some .int)) ∈ lw_all := all_at 1926 (by decide +kernel) rfl
theorem wd_767 : (Cond.methodLink RL 282 yX6_capsizedTotal) ∈ lw_all := all_at 767 (by decide +kernel) rfl
theorem wd_768 : (Cond.instanceMethod yX6_capsizedTotal) ∈ lw_all := all_at 768 (by decide +kernel) rfl
theorem wd_769 : (Cond.selects RX6 yX6_capsizedTotal yX6_capsizedTotal) ∈ lw_all := all_at 769 (by decide +kernel) rfl
theorem wd_770 : (Cond.code yX6_capsizedTotal cX6_capsizedTotal 1 (some .int)) ∈ lw_all := all_at 770 (by decide +kernel) rfl
theorem wd_1919 : (Cond.methodLink RL 281 yX7_drillTotal) ∈ lw_all := all_at 1919 (by decide +kernel) rfl
theorem wd_1920 : (Cond.instanceMethod yX7_drillTotal) ∈ lw_all := all_at 1920 (by decide +kernel) rfl
theorem wd_1921 : (Cond.selects RX7 yX7_drillTotal yX7_drillTotal) ∈ lw_all := all_at 1921 (by decide +kernel) rfl
theorem wd_1922 : (Cond.code yX7_drillTotal cX7_drillTotal 1 (some .int)) ∈ lw_all := all_at 1922 (by decide +kernel) rfl
theorem wd_763 : (Cond.methodLink RL 278 yX6_drillTotal) ∈ lw_all := all_at 763 (by decide +kernel) rfl
theorem wd_764 : (Cond.instanceMethod yX6_drillTotal) ∈ lw_all := all_at 764 (by decide +kernel) rfl
theorem wd_765 : (Cond.selects RX6 yX6_drillTotal yX6_drillTotal) ∈ lw_all := all_at 765 (by decide +kernel) rfl
theorem wd_766 : (Cond.code yX6_drillTotal cX6_drillTotal 1 (some .int)) ∈ lw_all := all_at 766 (by decide +kernel) rfl
theorem wd_1915 : (Cond.methodLink RL 277 yX7_deliveredWeight) ∈ lw_all := all_at 1915 (by decide +kernel) rfl
theorem wd_1916 : (Cond.instanceMethod yX7_deliveredWeight) ∈ lw_all := all_at 1916 (by decide +kernel) rfl
theorem wd_1917 : (Cond.selects RX7 yX7_deliveredWeight yX7_deliveredWeight) ∈ lw_all := all_at 1917 (by decide +kernel) rfl
theorem wd_1918 : (Cond.code yX7_deliveredWeight cX7_deliveredWeight 1 (some .int)) ∈ lw_all := all_at 1918 (by decide +kernel) rfl
theorem wd_759 : (Cond.methodLink RL 274 yX6_deliveredWeight) ∈ lw_all := all_at 759 (by decide +kernel) rfl
theorem wd_760 : (Cond.instanceMethod yX6_deliveredWeight) ∈ lw_all := all_at 760 (by decide +kernel) rfl
theorem wd_761 : (Cond.selects RX6 yX6_deliveredWeight yX6_deliveredWeight) ∈ lw_all := all_at 761 (by decide +kernel) rfl
theorem wd_762 : (Cond.code yX6_deliveredWeight cX6_deliveredWeight 1 (some .int)) ∈ lw_all := all_at 762 (by decide +kernel) rfl
theorem wd_1911 : (Cond.methodLink RL 273 yX7_deliveredTotal) ∈ lw_all := all_at 1911 (by decide +kernel) rfl
theorem wd_1912 : (Cond.instanceMethod yX7_deliveredTotal) ∈ lw_all := all_at 1912 (by decide +kernel) rfl
theorem wd_1913 : (Cond.selects RX7 yX7_deliveredTotal yX7_deliveredTotal) ∈ lw_all := all_at 1913 (by decide +kernel) rfl
theorem wd_1914 : (Cond.code yX7_deliveredTotal cX7_deliveredTotal 1 (some .int)) ∈ lw_all := all_at 1914 (by decide +kernel) rfl
theorem wd_755 : (Cond.methodLink RL 270 yX6_deliveredTotal) ∈ lw_all := all_at 755 (by decide +kernel) rfl
theorem wd_756 : (Cond.instanceMethod yX6_deliveredTotal) ∈ lw_all := all_at 756 (by decide +kernel) rfl
theorem wd_757 : (Cond.selects RX6 yX6_deliveredTotal yX6_deliveredTotal) ∈ lw_all := all_at 757 (by decide +kernel) rfl
theorem wd_758 : (Cond.code yX6_deliveredTotal cX6_deliveredTotal 1 (some .int)) ∈ lw_all := all_at 758 (by decide +kernel) rfl
theorem wd_1907 : (Cond.methodLink RL 269 yX7_loadedTotal) ∈ lw_all := all_at 1907 (by decide +kernel) rfl
theorem wd_1908 : (Cond.instanceMethod yX7_loadedTotal) ∈ lw_all := all_at 1908 (by decide +kernel) rfl
theorem wd_1909 : (Cond.selects RX7 yX7_loadedTotal yX7_loadedTotal) ∈ lw_all := all_at 1909 (by decide +kernel) rfl
theorem wd_1910 : (Cond.code yX7_loadedTotal cX7_loadedTotal 1 (some .int)) ∈ lw_all := all_at 1910 (by decide +kernel) rfl
theorem wd_751 : (Cond.methodLink RL 266 yX6_loadedTotal) ∈ lw_all := all_at 751 (by decide +kernel) rfl
theorem wd_752 : (Cond.instanceMethod yX6_loadedTotal) ∈ lw_all := all_at 752 (by decide +kernel) rfl
theorem wd_753 : (Cond.selects RX6 yX6_loadedTotal yX6_loadedTotal) ∈ lw_all := all_at 753 (by decide +kernel) rfl
theorem wd_754 : (Cond.code yX6_loadedTotal cX6_loadedTotal 1 (some .int)) ∈ lw_all := all_at 754 (by decide +kernel) rfl
theorem wd_1903 : (Cond.methodLink RL 265 yX7_bayByWeight) ∈ lw_all := all_at 1903 (by decide +kernel) rfl
theorem wd_1904 : (Cond.instanceMethod yX7_bayByWeight) ∈ lw_all := all_at 1904 (by decide +kernel) rfl
theorem wd_1905 : (Cond.selects RX7 yX7_bayByWeight yX7_bayByWeight) ∈ lw_all := all_at 1905 (by decide +kernel) rfl
theorem wd_1906 : (Cond.code yX7_bayByWeight cX7_bayByWeight 6 (some .int)) ∈ lw_all := all_at 1906 (by decide +kernel) rfl
theorem wd_1313 : (Cond.methodLink RL 263 yL_bayByWeight) ∈ lw_all := all_at 1313 (by decide +kernel) rfl
theorem wd_1314 : (Cond.static yL_bayByWeight) ∈ lw_all := all_at 1314 (by decide +kernel) rfl
theorem wd_1315 : (Cond.codeWith yL_bayByWeight cL_bayByWeight 4 (some .int) [(0, 9, 12, 25)]) ∈ lw_all := all_at 1315 (by decide +kernel) rfl
theorem wd_1891 : (Cond.methodLink RL 262 yX7_pillowByTurn) ∈ lw_all := all_at 1891 (by decide +kernel) rfl
theorem wd_1892 : (Cond.instanceMethod yX7_pillowByTurn) ∈ lw_all := all_at 1892 (by decide +kernel) rfl
theorem wd_1893 : (Cond.selects RX7 yX7_pillowByTurn yX7_pillowByTurn) ∈ lw_all := all_at 1893 (by decide +kernel) rfl
theorem wd_1894 : (Cond.code yX7_pillowByTurn cX7_pillowByTurn 5 (some .int)) ∈ lw_all := all_at 1894 (by decide +kernel) rfl
theorem wd_1298 : (Cond.methodLink RL 260 yL_pillowByTurn) ∈ lw_all := all_at 1298 (by decide +kernel) rfl
theorem wd_1299 : (Cond.static yL_pillowByTurn) ∈ lw_all := all_at 1299 (by decide +kernel) rfl
theorem wd_1300 : (Cond.codeWith yL_pillowByTurn cL_pillowByTurn 4 (some .int) [(0, 9, 12, 25)]) ∈ lw_all := all_at 1300 (by decide +kernel) rfl
theorem wd_1887 : (Cond.methodLink RL 259 yX7_possibleShifts) ∈ lw_all := all_at 1887 (by decide +kernel) rfl
theorem wd_1888 : (Cond.instanceMethod yX7_possibleShifts) ∈ lw_all := all_at 1888 (by decide +kernel) rfl
theorem wd_1889 : (Cond.selects RX7 yX7_possibleShifts yX7_possibleShifts) ∈ lw_all := all_at 1889 (by decide +kernel) rfl
theorem wd_1890 : (Cond.code yX7_possibleShifts cX7_possibleShifts 4 (some .int)) ∈ lw_all := all_at 1890 (by decide +kernel) rfl
theorem wd_746 : (Cond.methodLink RL 256 yX6_possibleShifts) ∈ lw_all := all_at 746 (by decide +kernel) rfl
theorem wd_747 : (Cond.instanceMethod yX6_possibleShifts) ∈ lw_all := all_at 747 (by decide +kernel) rfl
theorem wd_748 : (Cond.selects RX6 yX6_possibleShifts yX6_possibleShifts) ∈ lw_all := all_at 748 (by decide +kernel) rfl
theorem wd_749 : (Cond.code yX6_possibleShifts cX6_possibleShifts 4 (some .int)) ∈ lw_all := all_at 749 (by decide +kernel) rfl
theorem wd_1882 : (Cond.methodLink RL 255 yX7_heaviestPort) ∈ lw_all := all_at 1882 (by decide +kernel) rfl
theorem wd_1883 : (Cond.instanceMethod yX7_heaviestPort) ∈ lw_all := all_at 1883 (by decide +kernel) rfl
theorem wd_1884 : (Cond.selects RX7 yX7_heaviestPort yX7_heaviestPort) ∈ lw_all := all_at 1884 (by decide +kernel) rfl
theorem wd_1885 : (Cond.code yX7_heaviestPort cX7_heaviestPort 4 (some .int)) ∈ lw_all := all_at 1885 (by decide +kernel) rfl
theorem wd_1291 : (Cond.methodLink RL 252 yL_heaviestPort) ∈ lw_all := all_at 1291 (by decide +kernel) rfl
theorem wd_1292 : (Cond.static yL_heaviestPort) ∈ lw_all := all_at 1292 (by decide +kernel) rfl
theorem wd_1293 : (Cond.codeWith yL_heaviestPort cL_heaviestPort 3 (some .int) [(0, 8, 11, 25)]) ∈ lw_all := all_at 1293 (by decide +kernel) rfl
theorem wd_1878 : (Cond.methodLink RL 251 yX7_oldestIn) ∈ lw_all := all_at 1878 (by decide +kernel) rfl
theorem wd_1879 : (Cond.instanceMethod yX7_oldestIn) ∈ lw_all := all_at 1879 (by decide +kernel) rfl
theorem wd_1880 : (Cond.selects RX7 yX7_oldestIn yX7_oldestIn) ∈ lw_all := all_at 1880 (by decide +kernel) rfl
theorem wd_1881 : (Cond.code yX7_oldestIn cX7_oldestIn 5 (some .int)) ∈ lw_all := all_at 1881 (by decide +kernel) rfl
theorem wd_1276 : (Cond.methodLink RL 249 yL_oldestIn) ∈ lw_all := all_at 1276 (by decide +kernel) rfl
theorem wd_1277 : (Cond.static yL_oldestIn) ∈ lw_all := all_at 1277 (by decide +kernel) rfl
theorem wd_1278 : (Cond.codeWith yL_oldestIn cL_oldestIn 4 (some .int) [(0, 9, 12, 13), (0, 9, 15, 25)]) ∈ lw_all := all_at 1278 (by decide +kernel) rfl
theorem wd_1874 : (Cond.methodLink RL 248 yX7_unloadableCount) ∈ lw_all := all_at 1874 (by decide +kernel) rfl
theorem wd_1875 : (Cond.instanceMethod yX7_unloadableCount) ∈ lw_all := all_at 1875 (by decide +kernel) rfl
theorem wd_1876 : (Cond.selects RX7 yX7_unloadableCount yX7_unloadableCount) ∈ lw_all := all_at 1876 (by decide +kernel) rfl
theorem wd_1877 : (Cond.code yX7_unloadableCount cX7_unloadableCount 3 (some .int)) ∈ lw_all := all_at 1877 (by decide +kernel) rfl
theorem wd_741 : (Cond.methodLink RL 245 yX6_unloadableCount) ∈ lw_all := all_at 741 (by decide +kernel) rfl
theorem wd_742 : (Cond.instanceMethod yX6_unloadableCount) ∈ lw_all := all_at 742 (by decide +kernel) rfl
theorem wd_743 : (Cond.selects RX6 yX6_unloadableCount yX6_unloadableCount) ∈ lw_all := all_at 743 (by decide +kernel) rfl
theorem wd_744 : (Cond.code yX6_unloadableCount cX6_unloadableCount 3 (some .int)) ∈ lw_all := all_at 744 (by decide +kernel) rfl
theorem wd_1869 : (Cond.methodLink RL 244 yX7_pairsInTheWayByStacks) ∈ lw_all := all_at 1869 (by decide +kernel) rfl
theorem wd_1870 : (Cond.instanceMethod yX7_pairsInTheWayByStacks) ∈ lw_all := all_at 1870 (by decide +kernel) rfl
theorem wd_1871 : (Cond.selects RX7 yX7_pairsInTheWayByStacks yX7_pairsInTheWayByStacks) ∈ lw_all := all_at 1871 (by decide +kernel) rfl
theorem wd_1872 : (Cond.code yX7_pairsInTheWayByStacks cX7_pairsInTheWayByStacks 1 (some .int)) ∈ lw_all := all_at 1872 (by decide +kernel) rfl
theorem wd_724 : (Cond.methodLink RL 241 yX6_pairsInTheWayByStacks) ∈ lw_all := all_at 724 (by decide +kernel) rfl
theorem wd_725 : (Cond.instanceMethod yX6_pairsInTheWayByStacks) ∈ lw_all := all_at 725 (by decide +kernel) rfl
theorem wd_726 : (Cond.selects RX6 yX6_pairsInTheWayByStacks yX6_pairsInTheWayByStacks) ∈ lw_all := all_at 726 (by decide +kernel) rfl
theorem wd_727 : (Cond.code yX6_pairsInTheWayByStacks cX6_pairsInTheWayByStacks 1 (some .int)) ∈ lw_all := all_at 727 (by decide +kernel) rfl
theorem wd_1865 : (Cond.methodLink RL 240 yX7_pairsInTheWay) ∈ lw_all := all_at 1865 (by decide +kernel) rfl
theorem wd_701 : (Cond.methodLink RL 237 yX6_pairsInTheWay) ∈ lw_all := all_at 701 (by decide +kernel) rfl
theorem wd_702 : (Cond.instanceMethod yX6_pairsInTheWay) ∈ lw_all := all_at 702 (by decide +kernel) rfl
theorem wd_703 : (Cond.selects RX6 yX6_pairsInTheWay yX6_pairsInTheWay) ∈ lw_all := all_at 703 (by decide +kernel) rfl
theorem wd_704 : (Cond.code yX6_pairsInTheWay cX6_pairsInTheWay 1 (some .int)) ∈ lw_all := all_at 704 (by decide +kernel) rfl
theorem wd_1857 : (Cond.methodLink RL 236 yX7_pillowsInTheWay) ∈ lw_all := all_at 1857 (by decide +kernel) rfl
theorem wd_1858 : (Cond.instanceMethod yX7_pillowsInTheWay) ∈ lw_all := all_at 1858 (by decide +kernel) rfl
theorem wd_1859 : (Cond.selects RX7 yX7_pillowsInTheWay yX7_pillowsInTheWay) ∈ lw_all := all_at 1859 (by decide +kernel) rfl
theorem wd_1860 : (Cond.code yX7_pillowsInTheWay cX7_pillowsInTheWay 3 (some .int)) ∈ lw_all := all_at 1860 (by decide +kernel) rfl
theorem wd_1269 : (Cond.methodLink RL 234 yL_pillowsInTheWay) ∈ lw_all := all_at 1269 (by decide +kernel) rfl
theorem wd_1270 : (Cond.static yL_pillowsInTheWay) ∈ lw_all := all_at 1270 (by decide +kernel) rfl
theorem wd_1271 : (Cond.codeWith yL_pillowsInTheWay cL_pillowsInTheWay 4 (some .int) [(0, 9, 12, 25)]) ∈ lw_all := all_at 1271 (by decide +kernel) rfl
theorem wd_1853 : (Cond.methodLink RL 233 yX7_portAfter) ∈ lw_all := all_at 1853 (by decide +kernel) rfl
theorem wd_1854 : (Cond.instanceMethod yX7_portAfter) ∈ lw_all := all_at 1854 (by decide +kernel) rfl
theorem wd_1855 : (Cond.selects RX7 yX7_portAfter yX7_portAfter) ∈ lw_all := all_at 1855 (by decide +kernel) rfl
theorem wd_1856 : (Cond.code yX7_portAfter cX7_portAfter 2 (some .int)) ∈ lw_all := all_at 1856 (by decide +kernel) rfl
theorem wd_1261 : (Cond.methodLink RL 231 yL_portAfter) ∈ lw_all := all_at 1261 (by decide +kernel) rfl
theorem wd_1262 : (Cond.static yL_portAfter) ∈ lw_all := all_at 1262 (by decide +kernel) rfl
theorem wd_1263 : (Cond.codeWith yL_portAfter cL_portAfter 4 (some .int) [(0, 9, 12, 15)]) ∈ lw_all := all_at 1263 (by decide +kernel) rfl
theorem wd_1845 : (Cond.methodLink RL 230 yX7_legsTo) ∈ lw_all := all_at 1845 (by decide +kernel) rfl
theorem wd_1846 : (Cond.instanceMethod yX7_legsTo) ∈ lw_all := all_at 1846 (by decide +kernel) rfl
theorem wd_1847 : (Cond.selects RX7 yX7_legsTo yX7_legsTo) ∈ lw_all := all_at 1847 (by decide +kernel) rfl
theorem wd_1848 : (Cond.code yX7_legsTo cX7_legsTo 2 (some .int)) ∈ lw_all := all_at 1848 (by decide +kernel) rfl
theorem wd_1253 : (Cond.methodLink RL 228 yL_legsTo) ∈ lw_all := all_at 1253 (by decide +kernel) rfl
theorem wd_1254 : (Cond.static yL_legsTo) ∈ lw_all := all_at 1254 (by decide +kernel) rfl
theorem wd_1255 : (Cond.codeWith yL_legsTo cL_legsTo 4 (some .int) [(0, 9, 12, 13)]) ∈ lw_all := all_at 1255 (by decide +kernel) rfl
theorem wd_1841 : (Cond.methodLink RL 227 yX7_isAscending) ∈ lw_all := all_at 1841 (by decide +kernel) rfl
theorem wd_1842 : (Cond.instanceMethod yX7_isAscending) ∈ lw_all := all_at 1842 (by decide +kernel) rfl
theorem wd_1843 : (Cond.selects RX7 yX7_isAscending yX7_isAscending) ∈ lw_all := all_at 1843 (by decide +kernel) rfl
theorem wd_1844 : (Cond.code yX7_isAscending cX7_isAscending 1 (some .boolean)) ∈ lw_all := all_at 1844 (by decide +kernel) rfl
theorem wd_697 : (Cond.methodLink RL 224 yX6_isAscending) ∈ lw_all := all_at 697 (by decide +kernel) rfl
theorem wd_698 : (Cond.instanceMethod yX6_isAscending) ∈ lw_all := all_at 698 (by decide +kernel) rfl
theorem wd_699 : (Cond.selects RX6 yX6_isAscending yX6_isAscending) ∈ lw_all := all_at 699 (by decide +kernel) rfl
theorem wd_700 : (Cond.code yX6_isAscending cX6_isAscending 1 (some .boolean)) ∈ lw_all := all_at 700 (by decide +kernel) rfl
theorem wd_1837 : (Cond.methodLink RL 223 yX7_day) ∈ lw_all := all_at 1837 (by decide +kernel) rfl
theorem wd_1838 : (Cond.instanceMethod yX7_day) ∈ lw_all := all_at 1838 (by decide +kernel) rfl
theorem wd_1839 : (Cond.selects RX7 yX7_day yX7_day) ∈ lw_all := all_at 1839 (by decide +kernel) rfl
theorem wd_1840 : (Cond.code yX7_day cX7_day 1 (some .int)) ∈ lw_all := all_at 1840 (by decide +kernel) rfl
theorem wd_693 : (Cond.methodLink RL 220 yX6_day) ∈ lw_all := all_at 693 (by decide +kernel) rfl
theorem wd_694 : (Cond.instanceMethod yX6_day) ∈ lw_all := all_at 694 (by decide +kernel) rfl
theorem wd_695 : (Cond.selects RX6 yX6_day yX6_day) ∈ lw_all := all_at 695 (by decide +kernel) rfl
theorem wd_696 : (Cond.code yX6_day cX6_day 1 (some .int)) ∈ lw_all := all_at 696 (by decide +kernel) rfl
theorem wd_1833 : (Cond.methodLink RL 219 yX7_port) ∈ lw_all := all_at 1833 (by decide +kernel) rfl
theorem wd_1834 : (Cond.instanceMethod yX7_port) ∈ lw_all := all_at 1834 (by decide +kernel) rfl
theorem wd_1835 : (Cond.selects RX7 yX7_port yX7_port) ∈ lw_all := all_at 1835 (by decide +kernel) rfl
theorem wd_1836 : (Cond.code yX7_port cX7_port 1 (some .int)) ∈ lw_all := all_at 1836 (by decide +kernel) rfl
theorem wd_689 : (Cond.methodLink RL 216 yX6_port) ∈ lw_all := all_at 689 (by decide +kernel) rfl
theorem wd_690 : (Cond.instanceMethod yX6_port) ∈ lw_all := all_at 690 (by decide +kernel) rfl
theorem wd_691 : (Cond.selects RX6 yX6_port yX6_port) ∈ lw_all := all_at 691 (by decide +kernel) rfl
theorem wd_692 : (Cond.code yX6_port cX6_port 1 (some .int)) ∈ lw_all := all_at 692 (by decide +kernel) rfl
theorem wd_1822 : (Cond.methodLink RL 215 yX7_levelingBay) ∈ lw_all := all_at 1822 (by decide +kernel) rfl
theorem wd_1823 : (Cond.instanceMethod yX7_levelingBay) ∈ lw_all := all_at 1823 (by decide +kernel) rfl
theorem wd_1824 : (Cond.selects RX7 yX7_levelingBay yX7_levelingBay) ∈ lw_all := all_at 1824 (by decide +kernel) rfl
theorem wd_1825 : (Cond.code yX7_levelingBay cX7_levelingBay 4 (some .int)) ∈ lw_all := all_at 1825 (by decide +kernel) rfl
theorem wd_1234 : (Cond.methodLink RL 213 yL_levelingBay) ∈ lw_all := all_at 1234 (by decide +kernel) rfl
theorem wd_1235 : (Cond.static yL_levelingBay) ∈ lw_all := all_at 1235 (by decide +kernel) rfl
theorem wd_1236 : (Cond.codeWith yL_levelingBay cL_levelingBay 4 (some .int) [(0, 9, 12, 15), (0, 9, 15, 25)]) ∈ lw_all := all_at 1236 (by decide +kernel) rfl
theorem wd_1818 : (Cond.methodLink RL 212 yX7_greatestPush) ∈ lw_all := all_at 1818 (by decide +kernel) rfl
theorem wd_1819 : (Cond.instanceMethod yX7_greatestPush) ∈ lw_all := all_at 1819 (by decide +kernel) rfl
theorem wd_1820 : (Cond.selects RX7 yX7_greatestPush yX7_greatestPush) ∈ lw_all := all_at 1820 (by decide +kernel) rfl
theorem wd_1821 : (Cond.code yX7_greatestPush cX7_greatestPush 1 (some .int)) ∈ lw_all := all_at 1821 (by decide +kernel) rfl
theorem wd_685 : (Cond.methodLink RL 209 yX6_greatestPush) ∈ lw_all := all_at 685 (by decide +kernel) rfl
theorem wd_686 : (Cond.instanceMethod yX6_greatestPush) ∈ lw_all := all_at 686 (by decide +kernel) rfl
theorem wd_687 : (Cond.selects RX6 yX6_greatestPush yX6_greatestPush) ∈ lw_all := all_at 687 (by decide +kernel) rfl
theorem wd_688 : (Cond.code yX6_greatestPush cX6_greatestPush 1 (some .int)) ∈ lw_all := all_at 688 (by decide +kernel) rfl
theorem wd_1813 : (Cond.methodLink RL 208 yX7_listAngle) ∈ lw_all := all_at 1813 (by decide +kernel) rfl
theorem wd_1814 : (Cond.instanceMethod yX7_listAngle) ∈ lw_all := all_at 1814 (by decide +kernel) rfl
theorem wd_1815 : (Cond.selects RX7 yX7_listAngle yX7_listAngle) ∈ lw_all := all_at 1815 (by decide +kernel) rfl
theorem wd_1816 : (Cond.code yX7_listAngle cX7_listAngle 1 (some .float)) ∈ lw_all := all_at 1816 (by decide +kernel) rfl
theorem wd_680 : (Cond.methodLink RL 205 yX6_listAngle) ∈ lw_all := all_at 680 (by decide +kernel) rfl
theorem wd_681 : (Cond.instanceMethod yX6_listAngle) ∈ lw_all := all_at 681 (by decide +kernel) rfl
theorem wd_682 : (Cond.selects RX6 yX6_listAngle yX6_listAngle) ∈ lw_all := all_at 682 (by decide +kernel) rfl
theorem wd_683 : (Cond.code yX6_listAngle cX6_listAngle 3 (some .float)) ∈ lw_all := all_at 683 (by decide +kernel) rfl
theorem wd_1809 : (Cond.methodLink RL 204 yX7_limit) ∈ lw_all := all_at 1809 (by decide +kernel) rfl
theorem wd_1810 : (Cond.instanceMethod yX7_limit) ∈ lw_all := all_at 1810 (by decide +kernel) rfl
theorem wd_1811 : (Cond.selects RX7 yX7_limit yX7_limit) ∈ lw_all := all_at 1811 (by decide +kernel) rfl
theorem wd_1812 : (Cond.code yX7_limit cX7_limit 1 (some .int)) ∈ lw_all := all_at 1812 (by decide +kernel) rfl
theorem wd_676 : (Cond.methodLink RL 201 yX6_limit) ∈ lw_all := all_at 676 (by decide +kernel) rfl
theorem wd_677 : (Cond.instanceMethod yX6_limit) ∈ lw_all := all_at 677 (by decide +kernel) rfl
theorem wd_678 : (Cond.selects RX6 yX6_limit yX6_limit) ∈ lw_all := all_at 678 (by decide +kernel) rfl
theorem wd_679 : (Cond.code yX6_limit cX6_limit 1 (some .int)) ∈ lw_all := all_at 679 (by decide +kernel) rfl
theorem wd_1805 : (Cond.methodLink RL 200 yX7_weightFor) ∈ lw_all := all_at 1805 (by decide +kernel) rfl
theorem wd_1220 : (Cond.methodLink RL 198 yL_weightFor) ∈ lw_all := all_at 1220 (by decide +kernel) rfl
theorem wd_1221 : (Cond.static yL_weightFor) ∈ lw_all := all_at 1221 (by decide +kernel) rfl
theorem wd_1222 : (Cond.codeWith yL_weightFor cL_weightFor 4 (some .int) [(0, 9, 12, 13)]) ∈ lw_all := all_at 1222 (by decide +kernel) rfl
theorem wd_1797 : (Cond.methodLink RL 197 yX7_totalWeight) ∈ lw_all := all_at 1797 (by decide +kernel) rfl
theorem wd_1798 : (Cond.instanceMethod yX7_totalWeight) ∈ lw_all := all_at 1798 (by decide +kernel) rfl
theorem wd_1799 : (Cond.selects RX7 yX7_totalWeight yX7_totalWeight) ∈ lw_all := all_at 1799 (by decide +kernel) rfl
theorem wd_1800 : (Cond.code yX7_totalWeight cX7_totalWeight 1 (some .int)) ∈ lw_all := all_at 1800 (by decide +kernel) rfl
theorem wd_668 : (Cond.methodLink RL 194 yX6_totalWeight) ∈ lw_all := all_at 668 (by decide +kernel) rfl
theorem wd_669 : (Cond.instanceMethod yX6_totalWeight) ∈ lw_all := all_at 669 (by decide +kernel) rfl
theorem wd_670 : (Cond.selects RX6 yX6_totalWeight yX6_totalWeight) ∈ lw_all := all_at 670 (by decide +kernel) rfl
theorem wd_671 : (Cond.code yX6_totalWeight cX6_totalWeight 1 (some .int)) ∈ lw_all := all_at 671 (by decide +kernel) rfl
theorem wd_1792 : (Cond.methodLink RL 193 yX7_momentByBays) ∈ lw_all := all_at 1792 (by decide +kernel) rfl
theorem wd_1793 : (Cond.instanceMethod yX7_momentByBays) ∈ lw_all := all_at 1793 (by decide +kernel) rfl
theorem wd_1794 : (Cond.selects RX7 yX7_momentByBays yX7_momentByBays) ∈ lw_all := all_at 1794 (by decide +kernel) rfl
theorem wd_1795 : (Cond.code yX7_momentByBays cX7_momentByBays 1 (some .int)) ∈ lw_all := all_at 1795 (by decide +kernel) rfl
theorem wd_656 : (Cond.methodLink RL 190 yX6_momentByBays) ∈ lw_all := all_at 656 (by decide +kernel) rfl
theorem wd_657 : (Cond.instanceMethod yX6_momentByBays) ∈ lw_all := all_at 657 (by decide +kernel) rfl
theorem wd_658 : (Cond.selects RX6 yX6_momentByBays yX6_momentByBays) ∈ lw_all := all_at 658 (by decide +kernel) rfl
theorem wd_659 : (Cond.code yX6_momentByBays cX6_momentByBays 1 (some .int)) ∈ lw_all := all_at 659 (by decide +kernel) rfl
theorem wd_1788 : (Cond.methodLink RL 189 yX7_moment) ∈ lw_all := all_at 1788 (by decide +kernel) rfl
theorem wd_651 : (Cond.methodLink RL 186 yX6_moment) ∈ lw_all := all_at 651 (by decide +kernel) rfl
theorem wd_652 : (Cond.instanceMethod yX6_moment) ∈ lw_all := all_at 652 (by decide +kernel) rfl
theorem wd_653 : (Cond.selects RX6 yX6_moment yX6_moment) ∈ lw_all := all_at 653 (by decide +kernel) rfl
theorem wd_654 : (Cond.code yX6_moment cX6_moment 1 (some .int)) ∈ lw_all := all_at 654 (by decide +kernel) rfl
theorem wd_1784 : (Cond.methodLink RL 185 yX7_ageOf) ∈ lw_all := all_at 1784 (by decide +kernel) rfl
theorem wd_1785 : (Cond.instanceMethod yX7_ageOf) ∈ lw_all := all_at 1785 (by decide +kernel) rfl
theorem wd_1786 : (Cond.selects RX7 yX7_ageOf yX7_ageOf) ∈ lw_all := all_at 1786 (by decide +kernel) rfl
theorem wd_1787 : (Cond.code yX7_ageOf cX7_ageOf 3 (some .int)) ∈ lw_all := all_at 1787 (by decide +kernel) rfl
theorem wd_1209 : (Cond.methodLink RL 183 yL_ageOf) ∈ lw_all := all_at 1209 (by decide +kernel) rfl
theorem wd_1210 : (Cond.static yL_ageOf) ∈ lw_all := all_at 1210 (by decide +kernel) rfl
theorem wd_1211 : (Cond.codeWith yL_ageOf cL_ageOf 4 (some .int) [(0, 9, 12, 25)]) ∈ lw_all := all_at 1211 (by decide +kernel) rfl
theorem wd_1780 : (Cond.methodLink RL 182 yX7_positionOf) ∈ lw_all := all_at 1780 (by decide +kernel) rfl
theorem wd_1781 : (Cond.instanceMethod yX7_positionOf) ∈ lw_all := all_at 1781 (by decide +kernel) rfl
theorem wd_1782 : (Cond.selects RX7 yX7_positionOf yX7_positionOf) ∈ lw_all := all_at 1782 (by decide +kernel) rfl
theorem wd_1783 : (Cond.code yX7_positionOf cX7_positionOf 3 (some .int)) ∈ lw_all := all_at 1783 (by decide +kernel) rfl
theorem wd_1202 : (Cond.methodLink RL 180 yL_positionOf) ∈ lw_all := all_at 1202 (by decide +kernel) rfl
theorem wd_1203 : (Cond.static yL_positionOf) ∈ lw_all := all_at 1203 (by decide +kernel) rfl
theorem wd_1204 : (Cond.codeWith yL_positionOf cL_positionOf 4 (some .int) [(0, 9, 12, 25)]) ∈ lw_all := all_at 1204 (by decide +kernel) rfl
theorem wd_1776 : (Cond.methodLink RL 179 yX7_bayOf) ∈ lw_all := all_at 1776 (by decide +kernel) rfl
theorem wd_1777 : (Cond.instanceMethod yX7_bayOf) ∈ lw_all := all_at 1777 (by decide +kernel) rfl
theorem wd_1778 : (Cond.selects RX7 yX7_bayOf yX7_bayOf) ∈ lw_all := all_at 1778 (by decide +kernel) rfl
theorem wd_1779 : (Cond.code yX7_bayOf cX7_bayOf 3 (some .int)) ∈ lw_all := all_at 1779 (by decide +kernel) rfl
theorem wd_1195 : (Cond.methodLink RL 177 yL_bayOf) ∈ lw_all := all_at 1195 (by decide +kernel) rfl
theorem wd_1196 : (Cond.static yL_bayOf) ∈ lw_all := all_at 1196 (by decide +kernel) rfl
theorem wd_1197 : (Cond.codeWith yL_bayOf cL_bayOf 4 (some .int) [(0, 9, 12, 25)]) ∈ lw_all := all_at 1197 (by decide +kernel) rfl
theorem wd_1772 : (Cond.methodLink RL 176 yX7_destinationOf) ∈ lw_all := all_at 1772 (by decide +kernel) rfl
theorem wd_1773 : (Cond.instanceMethod yX7_destinationOf) ∈ lw_all := all_at 1773 (by decide +kernel) rfl
theorem wd_1774 : (Cond.selects RX7 yX7_destinationOf yX7_destinationOf) ∈ lw_all := all_at 1774 (by decide +kernel) rfl
theorem wd_1775 : (Cond.code yX7_destinationOf cX7_destinationOf 2 (some .int)) ∈ lw_all := all_at 1775 (by decide +kernel) rfl
theorem wd_1187 : (Cond.methodLink RL 174 yL_destinationOf) ∈ lw_all := all_at 1187 (by decide +kernel) rfl
theorem wd_1188 : (Cond.static yL_destinationOf) ∈ lw_all := all_at 1188 (by decide +kernel) rfl
theorem wd_1189 : (Cond.codeWith yL_destinationOf cL_destinationOf 4 (some .int) [(0, 9, 12, 25)]) ∈ lw_all := all_at 1189 (by decide +kernel) rfl
theorem wd_1760 : (Cond.methodLink RL 173 yX7_weightOf) ∈ lw_all := all_at 1760 (by decide +kernel) rfl
theorem wd_1761 : (Cond.instanceMethod yX7_weightOf) ∈ lw_all := all_at 1761 (by decide +kernel) rfl
theorem wd_1762 : (Cond.selects RX7 yX7_weightOf yX7_weightOf) ∈ lw_all := all_at 1762 (by decide +kernel) rfl
theorem wd_1763 : (Cond.code yX7_weightOf cX7_weightOf 2 (some .int)) ∈ lw_all := all_at 1763 (by decide +kernel) rfl
theorem wd_1171 : (Cond.methodLink RL 171 yL_weightOf) ∈ lw_all := all_at 1171 (by decide +kernel) rfl
theorem wd_1172 : (Cond.static yL_weightOf) ∈ lw_all := all_at 1172 (by decide +kernel) rfl
theorem wd_1173 : (Cond.codeWith yL_weightOf cL_weightOf 4 (some .int) [(0, 9, 12, 25)]) ∈ lw_all := all_at 1173 (by decide +kernel) rfl
theorem wd_1756 : (Cond.methodLink RL 170 yX7_pillowAt) ∈ lw_all := all_at 1756 (by decide +kernel) rfl
theorem wd_1757 : (Cond.instanceMethod yX7_pillowAt) ∈ lw_all := all_at 1757 (by decide +kernel) rfl
theorem wd_1758 : (Cond.selects RX7 yX7_pillowAt yX7_pillowAt) ∈ lw_all := all_at 1758 (by decide +kernel) rfl
theorem wd_1759 : (Cond.code yX7_pillowAt cX7_pillowAt 3 (some .int)) ∈ lw_all := all_at 1759 (by decide +kernel) rfl
theorem wd_1160 : (Cond.methodLink RL 168 yL_pillowAt) ∈ lw_all := all_at 1160 (by decide +kernel) rfl
theorem wd_1161 : (Cond.static yL_pillowAt) ∈ lw_all := all_at 1161 (by decide +kernel) rfl
theorem wd_1162 : (Cond.codeWith yL_pillowAt cL_pillowAt 5 (some .int) [(0, 10, 13, 13), (0, 10, 17, 25)]) ∈ lw_all := all_at 1162 (by decide +kernel) rfl
theorem wd_1752 : (Cond.methodLink RL 167 yX7_stackHeight) ∈ lw_all := all_at 1752 (by decide +kernel) rfl
theorem wd_1753 : (Cond.instanceMethod yX7_stackHeight) ∈ lw_all := all_at 1753 (by decide +kernel) rfl
theorem wd_1754 : (Cond.selects RX7 yX7_stackHeight yX7_stackHeight) ∈ lw_all := all_at 1754 (by decide +kernel) rfl
theorem wd_1755 : (Cond.code yX7_stackHeight cX7_stackHeight 2 (some .int)) ∈ lw_all := all_at 1755 (by decide +kernel) rfl
theorem wd_1148 : (Cond.methodLink RL 165 yL_stackHeight) ∈ lw_all := all_at 1148 (by decide +kernel) rfl
theorem wd_1149 : (Cond.static yL_stackHeight) ∈ lw_all := all_at 1149 (by decide +kernel) rfl
theorem wd_1150 : (Cond.codeWith yL_stackHeight cL_stackHeight 4 (some .int) [(0, 9, 12, 13)]) ∈ lw_all := all_at 1150 (by decide +kernel) rfl
theorem wd_1744 : (Cond.methodLink RL 164 yX7_pillowCount) ∈ lw_all := all_at 1744 (by decide +kernel) rfl
theorem wd_1745 : (Cond.instanceMethod yX7_pillowCount) ∈ lw_all := all_at 1745 (by decide +kernel) rfl
theorem wd_1746 : (Cond.selects RX7 yX7_pillowCount yX7_pillowCount) ∈ lw_all := all_at 1746 (by decide +kernel) rfl
theorem wd_1747 : (Cond.code yX7_pillowCount cX7_pillowCount 1 (some .int)) ∈ lw_all := all_at 1747 (by decide +kernel) rfl
theorem wd_643 : (Cond.methodLink RL 161 yX6_pillowCount) ∈ lw_all := all_at 643 (by decide +kernel) rfl
theorem wd_644 : (Cond.instanceMethod yX6_pillowCount) ∈ lw_all := all_at 644 (by decide +kernel) rfl
theorem wd_645 : (Cond.selects RX6 yX6_pillowCount yX6_pillowCount) ∈ lw_all := all_at 645 (by decide +kernel) rfl
theorem wd_646 : (Cond.code yX6_pillowCount cX6_pillowCount 1 (some .int)) ∈ lw_all := all_at 646 (by decide +kernel) rfl
theorem wd_1733 : (Cond.methodLink RL 160 yX7_drill) ∈ lw_all := all_at 1733 (by decide +kernel) rfl
theorem wd_1734 : (Cond.instanceMethod yX7_drill) ∈ lw_all := all_at 1734 (by decide +kernel) rfl
theorem wd_1735 : (Cond.selects RX7 yX7_drill yX7_drill) ∈ lw_all := all_at 1735 (by decide +kernel) rfl
theorem wd_1736 : (Cond.code yX7_drill cX7_drill 2 (some .boolean)) ∈ lw_all := all_at 1736 (by decide +kernel) rfl
theorem wd_1141 : (Cond.methodLink RL 158 yL_drill) ∈ lw_all := all_at 1141 (by decide +kernel) rfl
theorem wd_1142 : (Cond.static yL_drill) ∈ lw_all := all_at 1142 (by decide +kernel) rfl
theorem wd_1143 : (Cond.codeWith yL_drill cL_drill 4 (some .int) [(0, 16, 19, 15)]) ∈ lw_all := all_at 1143 (by decide +kernel) rfl
theorem wd_1721 : (Cond.methodLink RL 157 yX7_setLimit) ∈ lw_all := all_at 1721 (by decide +kernel) rfl
theorem wd_1722 : (Cond.instanceMethod yX7_setLimit) ∈ lw_all := all_at 1722 (by decide +kernel) rfl
theorem wd_1723 : (Cond.selects RX7 yX7_setLimit yX7_setLimit) ∈ lw_all := all_at 1723 (by decide +kernel) rfl
theorem wd_1724 : (Cond.code yX7_setLimit cX7_setLimit 3 (some .int)) ∈ lw_all := all_at 1724 (by decide +kernel) rfl
theorem wd_1134 : (Cond.methodLink RL 155 yL_setLimit) ∈ lw_all := all_at 1134 (by decide +kernel) rfl
theorem wd_1135 : (Cond.static yL_setLimit) ∈ lw_all := all_at 1135 (by decide +kernel) rfl
theorem wd_1136 : (Cond.codeWith yL_setLimit cL_setLimit 4 (some .int) [(0, 9, 12, 15), (0, 9, 15, 19)]) ∈ lw_all := all_at 1136 (by decide +kernel) rfl
theorem wd_1713 : (Cond.methodLink RL 154 yX7_turn) ∈ lw_all := all_at 1713 (by decide +kernel) rfl
theorem wd_1714 : (Cond.instanceMethod yX7_turn) ∈ lw_all := all_at 1714 (by decide +kernel) rfl
theorem wd_1715 : (Cond.selects RX7 yX7_turn yX7_turn) ∈ lw_all := all_at 1715 (by decide +kernel) rfl
theorem wd_1716 : (Cond.code yX7_turn cX7_turn 1 (some .boolean)) ∈ lw_all := all_at 1716 (by decide +kernel) rfl
theorem wd_335 : (Cond.methodLink RL 150 yX6_turn) ∈ lw_all := all_at 335 (by decide +kernel) rfl
theorem wd_336 : (Cond.instanceMethod yX6_turn) ∈ lw_all := all_at 336 (by decide +kernel) rfl
theorem wd_337 : (Cond.selects RX6 yX6_turn yX6_turn) ∈ lw_all := all_at 337 (by decide +kernel) rfl
theorem wd_338 : (Cond.code yX6_turn cX6_turn 1 (some .boolean)) ∈ lw_all := all_at 338 (by decide +kernel) rfl
theorem wd_1698 : (Cond.methodLink RL 149 yX7_sail) ∈ lw_all := all_at 1698 (by decide +kernel) rfl
theorem wd_1699 : (Cond.instanceMethod yX7_sail) ∈ lw_all := all_at 1699 (by decide +kernel) rfl
theorem wd_1700 : (Cond.selects RX7 yX7_sail yX7_sail) ∈ lw_all := all_at 1700 (by decide +kernel) rfl
theorem wd_1701 : (Cond.code yX7_sail cX7_sail 2 (some .int)) ∈ lw_all := all_at 1701 (by decide +kernel) rfl
theorem wd_1127 : (Cond.methodLink RL 147 yL_sail) ∈ lw_all := all_at 1127 (by decide +kernel) rfl
theorem wd_1128 : (Cond.static yL_sail) ∈ lw_all := all_at 1128 (by decide +kernel) rfl
theorem wd_1129 : (Cond.codeWith yL_sail cL_sail 4 (some .int) [(0, 9, 12, 15)]) ∈ lw_all := all_at 1129 (by decide +kernel) rfl
theorem wd_1686 : (Cond.methodLink RL 146 yX7_shift) ∈ lw_all := all_at 1686 (by decide +kernel) rfl
theorem wd_1687 : (Cond.instanceMethod yX7_shift) ∈ lw_all := all_at 1687 (by decide +kernel) rfl
theorem wd_1688 : (Cond.selects RX7 yX7_shift yX7_shift) ∈ lw_all := all_at 1688 (by decide +kernel) rfl
theorem wd_1689 : (Cond.code yX7_shift cX7_shift 4 (some .int)) ∈ lw_all := all_at 1689 (by decide +kernel) rfl
theorem wd_1120 : (Cond.methodLink RL 143 yL_shift) ∈ lw_all := all_at 1120 (by decide +kernel) rfl
theorem wd_1121 : (Cond.static yL_shift) ∈ lw_all := all_at 1121 (by decide +kernel) rfl
theorem wd_1122 : (Cond.codeWith yL_shift cL_shift 5 (some .int) [(0, 10, 13, 13), (0, 10, 17, 15), (0, 10, 21, 25), (0, 10, 25, 17), (0, 10, 29, 19)]) ∈ lw_all := all_at 1122 (by decide +kernel) rfl
theorem wd_1666 : (Cond.methodLink RL 142 yX7_unload) ∈ lw_all := all_at 1666 (by decide +kernel) rfl
theorem wd_1667 : (Cond.instanceMethod yX7_unload) ∈ lw_all := all_at 1667 (by decide +kernel) rfl
theorem wd_1668 : (Cond.selects RX7 yX7_unload yX7_unload) ∈ lw_all := all_at 1668 (by decide +kernel) rfl
theorem wd_1669 : (Cond.code yX7_unload cX7_unload 3 (some .int)) ∈ lw_all := all_at 1669 (by decide +kernel) rfl
theorem wd_1112 : (Cond.methodLink RL 139 yL_unload) ∈ lw_all := all_at 1112 (by decide +kernel) rfl
theorem wd_1113 : (Cond.static yL_unload) ∈ lw_all := all_at 1113 (by decide +kernel) rfl
theorem wd_1114 : (Cond.codeWith yL_unload cL_unload 4 (some .int) [(0, 9, 12, 13), (0, 9, 15, 25), (0, 9, 18, 17), (0, 9, 21, 19)]) ∈ lw_all := all_at 1114 (by decide +kernel) rfl
theorem wd_1540 : (Cond.methodLink RL 136 yX7_thrown) ∈ lw_all := all_at 1540 (by decide +kernel) rfl
theorem wd_1541 : (Cond.instanceMethod yX7_thrown) ∈ lw_all := all_at 1541 (by decide +kernel) rfl
theorem wd_1542 : (Cond.selects RX7 yX7_thrown yX7_thrown) ∈ lw_all := all_at 1542 (by decide +kernel) rfl
theorem wd_1543 : (Cond.code yX7_thrown cX7_thrown 1 (some .int)) ∈ lw_all := all_at 1543 (by decide +kernel) rfl
theorem wd_1605 : (Cond.methodLink RL 135 yX7_load) ∈ lw_all := all_at 1605 (by decide +kernel) rfl
theorem wd_1606 : (Cond.instanceMethod yX7_load) ∈ lw_all := all_at 1606 (by decide +kernel) rfl
theorem wd_1607 : (Cond.selects RX7 yX7_load yX7_load) ∈ lw_all := all_at 1607 (by decide +kernel) rfl
theorem wd_1608 : (Cond.code yX7_load cX7_load 5 (some .int)) ∈ lw_all := all_at 1608 (by decide +kernel) rfl
theorem wd_1099 : (Cond.methodLink RL 130 yL_load) ∈ lw_all := all_at 1099 (by decide +kernel) rfl
theorem wd_1100 : (Cond.static yL_load) ∈ lw_all := all_at 1100 (by decide +kernel) rfl
theorem wd_1101 : (Cond.codeWith yL_load cL_load 6 (some .int) [(0, 12, 15, 13), (0, 12, 19, 15), (0, 12, 23, 17), (0, 12, 27, 19)]) ∈ lw_all := all_at 1101 (by decide +kernel) rfl
def iv_Law_law : List (Instr × Nat) := [(.invokestatic 130, 4325481), (.invokevirtual 135, 2867233), (.invokevirtual 136, 2506761), (.invokestatic 139, 4341849), (.invokevirtual 142, 2916369), (.invokestatic 143, 4358241), (.invokevirtual 146, 2965529), (.invokestatic 147, 4374617), (.invokevirtual 149, 3031057), (.invokevirtual 150, 1228873), (.invokevirtual 154, 3063817), (.invokestatic 155, 4391001), (.invokevirtual 157, 3112977), (.invokestatic 158, 4407385), (.invokevirtual 160, 3162129), (.invokevirtual 161, 1310729), (.invokevirtual 164, 3178505), (.invokestatic 165, 4423769), (.invokevirtual 167, 3194897), (.invokestatic 168, 4440225), (.invokevirtual 170, 3211289), (.invokestatic 171, 4456537), (.invokevirtual 173, 3260433), (.invokestatic 174, 4472921), (.invokevirtual 176, 3276817), (.invokestatic 177, 4489305), (.invokevirtual 179, 3293201), (.invokestatic 180, 4505689), (.invokevirtual 182, 3309585), (.invokestatic 183, 4522073), (.invokevirtual 185, 3325969), (.invokevirtual 186, 1490953), (.invokevirtual 189, 3342345), (.invokevirtual 190, 1507337), (.invokevirtual 193, 3358729), (.invokevirtual 194, 1523721), (.invokevirtual 197, 3375113), (.invokestatic 198, 4538457), (.invokevirtual 200, 3391505), (.invokevirtual 201, 1556489), (.invokevirtual 204, 3407881), (.invokevirtual 205, 1572874), (.invokevirtual 208, 3424266), (.invokevirtual 209, 1589257), (.invokevirtual 212, 3440649), (.invokestatic 213, 4554841), (.invokevirtual 215, 3489809), (.invokevirtual 216, 1654793), (.invokevirtual 219, 3506185), (.invokevirtual 220, 1671177), (.invokevirtual 223, 3522569), (.invokevirtual 224, 1687561), (.invokevirtual 227, 3538953), (.invokestatic 228, 4571225), (.invokevirtual 230, 3571729), (.invokestatic 231, 4587609), (.invokevirtual 233, 3588113), (.invokestatic 234, 4603993), (.invokevirtual 236, 3620881), (.invokevirtual 237, 1769481), (.invokevirtual 240, 3637257), (.invokevirtual 241, 1785865), (.invokevirtual 244, 3653641), (.invokevirtual 245, 1884169), (.invokevirtual 248, 3702793), (.invokestatic 249, 4620441), (.invokevirtual 251, 3719185), (.invokestatic 252, 4637265), (.invokevirtual 255, 3735561), (.invokevirtual 256, 1900553), (.invokevirtual 259, 3751945), (.invokestatic 260, 4655705), (.invokevirtual 262, 3768337), (.invokestatic 263, 4670169), (.invokevirtual 265, 3784721), (.invokevirtual 266, 1998857), (.invokevirtual 269, 3801097), (.invokevirtual 270, 2015241), (.invokevirtual 273, 3817481), (.invokevirtual 274, 2031625), (.invokevirtual 277, 3833865), (.invokevirtual 278, 2048009), (.invokevirtual 281, 3850249), (.invokevirtual 282, 2064393), (.invokevirtual 285, 3866633), (.invokestatic 286, 4685905), (.invokevirtual 289, 3883019), (.invokestatic 290, 4702289), (.invokevirtual 292, 3899402), (.invokevirtual 293, 2129929), (.invokevirtual 296, 3915785), (.invokestatic 297, 4724377), (.invokevirtual 299, 3964945), (.invokevirtual 300, 2196873), (.invokevirtual 303, 3981321), (.invokestatic 304, 4735065), (.invokevirtual 306, 3997713), (.invokestatic 307, 4751449), (.invokevirtual 310, 4014097), (.invokestatic 311, 4767825), (.invokevirtual 313, 4227081), (.invokestatic 314, 4784209), (.invokevirtual 316, 4243465), (.invokestatic 317, 4800593), (.invokevirtual 319, 4259849), (.invokestatic 320, 4816977), (.invokevirtual 322, 4276233), (.invokevirtual 323, 2326537), (.invokevirtual 326, 4292617), (.invokestatic 327, 4833361), (.invokevirtual 329, 4309001)]
theorem tk_Law_c0 : (List.range 50).all (fun d => match T_Law_law (0 + d) with | none => true | some e => ck FT_ PT_ NT_ CT_ RL code (some .boolean) iv_Law_law (0 + d) e) = true := by decide +kernel
theorem tk_Law_c1 : (List.range 50).all (fun d => match T_Law_law (50 + d) with | none => true | some e => ck FT_ PT_ NT_ CT_ RL code (some .boolean) iv_Law_law (50 + d) e) = true := by decide +kernel
theorem tk_Law_c2 : (List.range 50).all (fun d => match T_Law_law (100 + d) with | none => true | some e => ck FT_ PT_ NT_ CT_ RL code (some .boolean) iv_Law_law (100 + d) e) = true := by decide +kernel
theorem tk_Law_c3 : (List.range 50).all (fun d => match T_Law_law (150 + d) with | none => true | some e => ck FT_ PT_ NT_ CT_ RL code (some .boolean) iv_Law_law (150 + d) e) = true := by decide +kernel
theorem tk_Law_c4 : (List.range 50).all (fun d => match T_Law_law (200 + d) with | none => true | some e => ck FT_ PT_ NT_ CT_ RL code (some .boolean) iv_Law_law (200 + d) e) = true := by decide +kernel
theorem tk_Law_c5 : (List.range 50).all (fun d => match T_Law_law (250 + d) with | none => true | some e => ck FT_ PT_ NT_ CT_ RL code (some .boolean) iv_Law_law (250 + d) e) = true := by decide +kernel
theorem tk_Law_c6 : (List.range 50).all (fun d => match T_Law_law (300 + d) with | none => true | some e => ck FT_ PT_ NT_ CT_ RL code (some .boolean) iv_Law_law (300 + d) e) = true := by decide +kernel
theorem tk_Law_c7 : (List.range 50).all (fun d => match T_Law_law (350 + d) with | none => true | some e => ck FT_ PT_ NT_ CT_ RL code (some .boolean) iv_Law_law (350 + d) e) = true := by decide +kernel
theorem tk_Law_c8 : (List.range 50).all (fun d => match T_Law_law (400 + d) with | none => true | some e => ck FT_ PT_ NT_ CT_ RL code (some .boolean) iv_Law_law (400 + d) e) = true := by decide +kernel
theorem tk_Law_c9 : (List.range 50).all (fun d => match T_Law_law (450 + d) with | none => true | some e => ck FT_ PT_ NT_ CT_ RL code (some .boolean) iv_Law_law (450 + d) e) = true := by decide +kernel
theorem tk_Law_c10 : (List.range 50).all (fun d => match T_Law_law (500 + d) with | none => true | some e => ck FT_ PT_ NT_ CT_ RL code (some .boolean) iv_Law_law (500 + d) e) = true := by decide +kernel
theorem tk_Law_c11 : (List.range 50).all (fun d => match T_Law_law (550 + d) with | none => true | some e => ck FT_ PT_ NT_ CT_ RL code (some .boolean) iv_Law_law (550 + d) e) = true := by decide +kernel
theorem tk_Law_c12 : (List.range 50).all (fun d => match T_Law_law (600 + d) with | none => true | some e => ck FT_ PT_ NT_ CT_ RL code (some .boolean) iv_Law_law (600 + d) e) = true := by decide +kernel
theorem tk_Law_c13 : (List.range 50).all (fun d => match T_Law_law (650 + d) with | none => true | some e => ck FT_ PT_ NT_ CT_ RL code (some .boolean) iv_Law_law (650 + d) e) = true := by decide +kernel
theorem tk_Law_c14 : (List.range 50).all (fun d => match T_Law_law (700 + d) with | none => true | some e => ck FT_ PT_ NT_ CT_ RL code (some .boolean) iv_Law_law (700 + d) e) = true := by decide +kernel
theorem tk_Law_c15 : (List.range 50).all (fun d => match T_Law_law (750 + d) with | none => true | some e => ck FT_ PT_ NT_ CT_ RL code (some .boolean) iv_Law_law (750 + d) e) = true := by decide +kernel
theorem tk_Law_c16 : (List.range 50).all (fun d => match T_Law_law (800 + d) with | none => true | some e => ck FT_ PT_ NT_ CT_ RL code (some .boolean) iv_Law_law (800 + d) e) = true := by decide +kernel
theorem tk_Law_c17 : (List.range 50).all (fun d => match T_Law_law (850 + d) with | none => true | some e => ck FT_ PT_ NT_ CT_ RL code (some .boolean) iv_Law_law (850 + d) e) = true := by decide +kernel
theorem tk_Law_c18 : (List.range 50).all (fun d => match T_Law_law (900 + d) with | none => true | some e => ck FT_ PT_ NT_ CT_ RL code (some .boolean) iv_Law_law (900 + d) e) = true := by decide +kernel
theorem tk_Law_c19 : (List.range 50).all (fun d => match T_Law_law (950 + d) with | none => true | some e => ck FT_ PT_ NT_ CT_ RL code (some .boolean) iv_Law_law (950 + d) e) = true := by decide +kernel
theorem tk_Law_c20 : (List.range 50).all (fun d => match T_Law_law (1000 + d) with | none => true | some e => ck FT_ PT_ NT_ CT_ RL code (some .boolean) iv_Law_law (1000 + d) e) = true := by decide +kernel
theorem tk_Law_c21 : (List.range 50).all (fun d => match T_Law_law (1050 + d) with | none => true | some e => ck FT_ PT_ NT_ CT_ RL code (some .boolean) iv_Law_law (1050 + d) e) = true := by decide +kernel
theorem tk_Law_c22 : (List.range 50).all (fun d => match T_Law_law (1100 + d) with | none => true | some e => ck FT_ PT_ NT_ CT_ RL code (some .boolean) iv_Law_law (1100 + d) e) = true := by decide +kernel
theorem tk_Law_c23 : (List.range 50).all (fun d => match T_Law_law (1150 + d) with | none => true | some e => ck FT_ PT_ NT_ CT_ RL code (some .boolean) iv_Law_law (1150 + d) e) = true := by decide +kernel
theorem tk_Law_c24 : (List.range 50).all (fun d => match T_Law_law (1200 + d) with | none => true | some e => ck FT_ PT_ NT_ CT_ RL code (some .boolean) iv_Law_law (1200 + d) e) = true := by decide +kernel
theorem tk_Law_c25 : (List.range 50).all (fun d => match T_Law_law (1250 + d) with | none => true | some e => ck FT_ PT_ NT_ CT_ RL code (some .boolean) iv_Law_law (1250 + d) e) = true := by decide +kernel
theorem tk_Law_c26 : (List.range 50).all (fun d => match T_Law_law (1300 + d) with | none => true | some e => ck FT_ PT_ NT_ CT_ RL code (some .boolean) iv_Law_law (1300 + d) e) = true := by decide +kernel
theorem tk_Law_c27 : (List.range 50).all (fun d => match T_Law_law (1350 + d) with | none => true | some e => ck FT_ PT_ NT_ CT_ RL code (some .boolean) iv_Law_law (1350 + d) e) = true := by decide +kernel
theorem tk_Law_c28 : (List.range 50).all (fun d => match T_Law_law (1400 + d) with | none => true | some e => ck FT_ PT_ NT_ CT_ RL code (some .boolean) iv_Law_law (1400 + d) e) = true := by decide +kernel
theorem tk_Law_c29 : (List.range 50).all (fun d => match T_Law_law (1450 + d) with | none => true | some e => ck FT_ PT_ NT_ CT_ RL code (some .boolean) iv_Law_law (1450 + d) e) = true := by decide +kernel
theorem tk_Law_c30 : (List.range 50).all (fun d => match T_Law_law (1500 + d) with | none => true | some e => ck FT_ PT_ NT_ CT_ RL code (some .boolean) iv_Law_law (1500 + d) e) = true := by decide +kernel
theorem tk_Law_c31 : (List.range 50).all (fun d => match T_Law_law (1550 + d) with | none => true | some e => ck FT_ PT_ NT_ CT_ RL code (some .boolean) iv_Law_law (1550 + d) e) = true := by decide +kernel
theorem tk_Law_c32 : (List.range 50).all (fun d => match T_Law_law (1600 + d) with | none => true | some e => ck FT_ PT_ NT_ CT_ RL code (some .boolean) iv_Law_law (1600 + d) e) = true := by decide +kernel
theorem tk_Law_c33 : (List.range 50).all (fun d => match T_Law_law (1650 + d) with | none => true | some e => ck FT_ PT_ NT_ CT_ RL code (some .boolean) iv_Law_law (1650 + d) e) = true := by decide +kernel
theorem tk_Law_c34 : (List.range 50).all (fun d => match T_Law_law (1700 + d) with | none => true | some e => ck FT_ PT_ NT_ CT_ RL code (some .boolean) iv_Law_law (1700 + d) e) = true := by decide +kernel
theorem tk_Law_c35 : (List.range 50).all (fun d => match T_Law_law (1750 + d) with | none => true | some e => ck FT_ PT_ NT_ CT_ RL code (some .boolean) iv_Law_law (1750 + d) e) = true := by decide +kernel
theorem tk_Law_c36 : (List.range 50).all (fun d => match T_Law_law (1800 + d) with | none => true | some e => ck FT_ PT_ NT_ CT_ RL code (some .boolean) iv_Law_law (1800 + d) e) = true := by decide +kernel
theorem tk_Law_c37 : (List.range 50).all (fun d => match T_Law_law (1850 + d) with | none => true | some e => ck FT_ PT_ NT_ CT_ RL code (some .boolean) iv_Law_law (1850 + d) e) = true := by decide +kernel
theorem tk_Law_c38 : (List.range 50).all (fun d => match T_Law_law (1900 + d) with | none => true | some e => ck FT_ PT_ NT_ CT_ RL code (some .boolean) iv_Law_law (1900 + d) e) = true := by decide +kernel
theorem tk_Law_c39 : (List.range 50).all (fun d => match T_Law_law (1950 + d) with | none => true | some e => ck FT_ PT_ NT_ CT_ RL code (some .boolean) iv_Law_law (1950 + d) e) = true := by decide +kernel
theorem tk_Law_c40 : (List.range 50).all (fun d => match T_Law_law (2000 + d) with | none => true | some e => ck FT_ PT_ NT_ CT_ RL code (some .boolean) iv_Law_law (2000 + d) e) = true := by decide +kernel
theorem tk_Law_c41 : (List.range 50).all (fun d => match T_Law_law (2050 + d) with | none => true | some e => ck FT_ PT_ NT_ CT_ RL code (some .boolean) iv_Law_law (2050 + d) e) = true := by decide +kernel
theorem tk_Law_c42 : (List.range 50).all (fun d => match T_Law_law (2100 + d) with | none => true | some e => ck FT_ PT_ NT_ CT_ RL code (some .boolean) iv_Law_law (2100 + d) e) = true := by decide +kernel
theorem tk_Law_c43 : (List.range 50).all (fun d => match T_Law_law (2150 + d) with | none => true | some e => ck FT_ PT_ NT_ CT_ RL code (some .boolean) iv_Law_law (2150 + d) e) = true := by decide +kernel
theorem tk_Law_c44 : (List.range 50).all (fun d => match T_Law_law (2200 + d) with | none => true | some e => ck FT_ PT_ NT_ CT_ RL code (some .boolean) iv_Law_law (2200 + d) e) = true := by decide +kernel
theorem tk_Law_c45 : (List.range 50).all (fun d => match T_Law_law (2250 + d) with | none => true | some e => ck FT_ PT_ NT_ CT_ RL code (some .boolean) iv_Law_law (2250 + d) e) = true := by decide +kernel
theorem tk_Law_c46 : (List.range 50).all (fun d => match T_Law_law (2300 + d) with | none => true | some e => ck FT_ PT_ NT_ CT_ RL code (some .boolean) iv_Law_law (2300 + d) e) = true := by decide +kernel
theorem tk_Law_c47 : (List.range 50).all (fun d => match T_Law_law (2350 + d) with | none => true | some e => ck FT_ PT_ NT_ CT_ RL code (some .boolean) iv_Law_law (2350 + d) e) = true := by decide +kernel
theorem tk_Law_c48 : (List.range 50).all (fun d => match T_Law_law (2400 + d) with | none => true | some e => ck FT_ PT_ NT_ CT_ RL code (some .boolean) iv_Law_law (2400 + d) e) = true := by decide +kernel
theorem tk_useC {T : Tb} {N M : Nat} {P : Nat → En → Bool} (hN : ∀ pc, N ≤ pc → T pc = none) (hM : N ≤ 50 * M) (h : ∀ i, i < M → (List.range 50).all (fun d => match T (50 * i + d) with | none => true | some e => P (50 * i + d) e) = true) (pc : Nat) (e : En) (he : T pc = some e) : P pc e = true := by
  have hlt : pc < N := by
    rcases Nat.lt_or_ge pc N with q | q
    · exact q
    · rw [hN pc q] at he; cases he
  have h1 := List.all_eq_true.mp (h (pc / 50) (by omega)) (pc % 50) (List.mem_range.mpr (Nat.mod_lt _ (by decide)))
  rw [show 50 * (pc / 50) + pc % 50 = pc by omega, he] at h1
  exact h1
theorem TT_law (kk : Nat) (l : Launch) (hst : l.stackTraces = false) : ∀ x : CX, FX x → cxH x = l → cxO x = RL → cxC x = code → cxV x = 14 → cxR x = some .boolean → cxSide sdX x → ∀ pc e, T_Law_law pc = some e → EnOK x (call_Law_law kk) (fun _ => []) pc e := by
  intro x hF hH hO hC hV hR hsd pc e he
  have hsm : cxSide sdM x := sdM_any
  refine ck_sound FT_ok PT_ok NT_ok CT_ok (invs := iv_Law_law) ?_ ?_
  · exact (List.forall_mem_cons.mpr ⟨fun pc hd => ⟨cwN_SH (n := 5) hF hd (by rw [hH]; exact Ct_Law_load kk l hst) hsd (by rw [hO]; exact wd_1099) wd_1100 wd_85 wd_1101 ⟨by decide +kernel, by decide +kernel, by decide +kernel⟩ (by decide) (by rw [hV]; decide) (sh_Law_load kk), hd_nil⟩,
 (List.forall_mem_cons.mpr ⟨fun pc hd => ⟨cwX_V (C := RX7) (n := 3) hF hd (by rw [hH]; exact Ct_Mo_load kk l hst) hsm (by rw [hO]; exact wd_1605) wd_1606 wd_1607 wd_97 wd_1608 ⟨rfl, by decide +kernel, by decide +kernel, by decide +kernel⟩ (by decide) (by rw [hV]; decide) (sh_Mo_load kk), hd_nil⟩,
 (List.forall_mem_cons.mpr ⟨fun pc hd => ⟨cwX_V (C := RX7) (n := 0) hF hd (by rw [hH]; exact Ct_Mo_thrown kk l hst) hsm (by rw [hO]; exact wd_1540) wd_1541 wd_1542 wd_97 wd_1543 ⟨rfl, by decide +kernel, by decide +kernel, by decide +kernel⟩ (by decide) (by rw [hV]; decide) (sh_Mo_thrown kk), hd_nil⟩,
 (List.forall_mem_cons.mpr ⟨fun pc hd => ⟨cwN_SH (n := 3) hF hd (by rw [hH]; exact Ct_Law_unload kk l hst) hsd (by rw [hO]; exact wd_1112) wd_1113 wd_85 wd_1114 ⟨by decide +kernel, by decide +kernel, by decide +kernel⟩ (by decide) (by rw [hV]; decide) (sh_Law_unload kk), hd_nil⟩,
 (List.forall_mem_cons.mpr ⟨fun pc hd => ⟨cwX_V (C := RX7) (n := 1) hF hd (by rw [hH]; exact Ct_Mo_unload kk l hst) hsm (by rw [hO]; exact wd_1666) wd_1667 wd_1668 wd_97 wd_1669 ⟨rfl, by decide +kernel, by decide +kernel, by decide +kernel⟩ (by decide) (by rw [hV]; decide) (sh_Mo_unload kk), hd_nil⟩,
 (List.forall_mem_cons.mpr ⟨fun pc hd => ⟨cwN_SH (n := 4) hF hd (by rw [hH]; exact Ct_Law_shift kk l hst) hsd (by rw [hO]; exact wd_1120) wd_1121 wd_85 wd_1122 ⟨by decide +kernel, by decide +kernel, by decide +kernel⟩ (by decide) (by rw [hV]; decide) (sh_Law_shift kk), hd_nil⟩,
 (List.forall_mem_cons.mpr ⟨fun pc hd => ⟨cwX_V (C := RX7) (n := 2) hF hd (by rw [hH]; exact Ct_Mo_shift kk l hst) hsm (by rw [hO]; exact wd_1686) wd_1687 wd_1688 wd_97 wd_1689 ⟨rfl, by decide +kernel, by decide +kernel, by decide +kernel⟩ (by decide) (by rw [hV]; decide) (sh_Mo_shift kk), hd_nil⟩,
 (List.forall_mem_cons.mpr ⟨fun pc hd => ⟨cwN_SH (n := 3) hF hd (by rw [hH]; exact Ct_Law_sail kk l hst) hsd (by rw [hO]; exact wd_1127) wd_1128 wd_85 wd_1129 ⟨by decide +kernel, by decide +kernel, by decide +kernel⟩ (by decide) (by rw [hV]; decide) (sh_Law_sail kk), hd_nil⟩,
 (List.forall_mem_cons.mpr ⟨fun pc hd => ⟨cwX_V (C := RX7) (n := 1) hF hd (by rw [hH]; exact Ct_Mo_sail kk l hst) hsm (by rw [hO]; exact wd_1698) wd_1699 wd_1700 wd_97 wd_1701 ⟨rfl, by decide +kernel, by decide +kernel, by decide +kernel⟩ (by decide) (by rw [hV]; decide) (sh_Mo_sail kk), hd_nil⟩,
 (List.forall_mem_cons.mpr ⟨fun pc hd => ⟨cwX_V (C := RX6) (n := 0) hF hd (by rw [hH]; exact Ct_PB_turn kk l hst) hsd (by rw [hO]; exact wd_335) wd_336 wd_337 wd_86 wd_338 ⟨rfl, by decide +kernel, by decide +kernel, by decide +kernel⟩ (by decide) (by rw [hV]; decide) (sh_PB_turn kk), hd_nil⟩,
 (List.forall_mem_cons.mpr ⟨fun pc hd => ⟨cwX_V (C := RX7) (n := 0) hF hd (by rw [hH]; exact Ct_Mo_turn kk l hst) hsm (by rw [hO]; exact wd_1713) wd_1714 wd_1715 wd_97 wd_1716 ⟨rfl, by decide +kernel, by decide +kernel, by decide +kernel⟩ (by decide) (by rw [hV]; decide) (sh_Mo_turn kk), hd_nil⟩,
 (List.forall_mem_cons.mpr ⟨fun pc hd => ⟨cwN_SH (n := 3) hF hd (by rw [hH]; exact Ct_Law_setLimit kk l hst) hsd (by rw [hO]; exact wd_1134) wd_1135 wd_85 wd_1136 ⟨by decide +kernel, by decide +kernel, by decide +kernel⟩ (by decide) (by rw [hV]; decide) (sh_Law_setLimit kk), hd_nil⟩,
 (List.forall_mem_cons.mpr ⟨fun pc hd => ⟨cwX_V (C := RX7) (n := 1) hF hd (by rw [hH]; exact Ct_Mo_setLimit kk l hst) hsm (by rw [hO]; exact wd_1721) wd_1722 wd_1723 wd_97 wd_1724 ⟨rfl, by decide +kernel, by decide +kernel, by decide +kernel⟩ (by decide) (by rw [hV]; decide) (sh_Mo_setLimit kk), hd_nil⟩,
 (List.forall_mem_cons.mpr ⟨fun pc hd => ⟨cwN_SH (n := 3) hF hd (by rw [hH]; exact Ct_Law_drill kk l hst) hsd (by rw [hO]; exact wd_1141) wd_1142 wd_85 wd_1143 ⟨by decide +kernel, by decide +kernel, by decide +kernel⟩ (by decide) (by rw [hV]; decide) (sh_Law_drill kk), hd_nil⟩,
 (List.forall_mem_cons.mpr ⟨fun pc hd => ⟨cwX_V (C := RX7) (n := 1) hF hd (by rw [hH]; exact Ct_Mo_drill kk l hst) hsm (by rw [hO]; exact wd_1733) wd_1734 wd_1735 wd_97 wd_1736 ⟨rfl, by decide +kernel, by decide +kernel, by decide +kernel⟩ (by decide) (by rw [hV]; decide) (sh_Mo_drill kk), hd_nil⟩,
 (List.forall_mem_cons.mpr ⟨fun pc hd => ⟨cwX_V (C := RX6) (n := 0) hF hd (by rw [hH]; exact Ct_PB_pillowCount kk l hst) hsd (by rw [hO]; exact wd_643) wd_644 wd_645 wd_86 wd_646 ⟨rfl, by decide +kernel, by decide +kernel, by decide +kernel⟩ (by decide) (by rw [hV]; decide) (sh_PB_pillowCount kk), hd_nil⟩,
 (List.forall_mem_cons.mpr ⟨fun pc hd => ⟨cwX_V (C := RX7) (n := 0) hF hd (by rw [hH]; exact Ct_Mo_pillowCount kk l hst) hsm (by rw [hO]; exact wd_1744) wd_1745 wd_1746 wd_97 wd_1747 ⟨rfl, by decide +kernel, by decide +kernel, by decide +kernel⟩ (by decide) (by rw [hV]; decide) (sh_Mo_pillowCount kk), hd_nil⟩,
 (List.forall_mem_cons.mpr ⟨fun pc hd => ⟨cwN_SH (n := 3) hF hd (by rw [hH]; exact Ct_Law_stackHeight kk l hst) hsd (by rw [hO]; exact wd_1148) wd_1149 wd_85 wd_1150 ⟨by decide +kernel, by decide +kernel, by decide +kernel⟩ (by decide) (by rw [hV]; decide) (sh_Law_stackHeight kk), hd_nil⟩,
 (List.forall_mem_cons.mpr ⟨fun pc hd => ⟨cwX_V (C := RX7) (n := 1) hF hd (by rw [hH]; exact Ct_Mo_stackHeight kk l hst) hsm (by rw [hO]; exact wd_1752) wd_1753 wd_1754 wd_97 wd_1755 ⟨rfl, by decide +kernel, by decide +kernel, by decide +kernel⟩ (by decide) (by rw [hV]; decide) (sh_Mo_stackHeight kk), hd_nil⟩,
 (List.forall_mem_cons.mpr ⟨fun pc hd => ⟨cwN_SH (n := 4) hF hd (by rw [hH]; exact Ct_Law_pillowAt kk l hst) hsd (by rw [hO]; exact wd_1160) wd_1161 wd_85 wd_1162 ⟨by decide +kernel, by decide +kernel, by decide +kernel⟩ (by decide) (by rw [hV]; decide) (sh_Law_pillowAt kk), hd_nil⟩,
 (List.forall_mem_cons.mpr ⟨fun pc hd => ⟨cwX_V (C := RX7) (n := 2) hF hd (by rw [hH]; exact Ct_Mo_pillowAt kk l hst) hsm (by rw [hO]; exact wd_1756) wd_1757 wd_1758 wd_97 wd_1759 ⟨rfl, by decide +kernel, by decide +kernel, by decide +kernel⟩ (by decide) (by rw [hV]; decide) (sh_Mo_pillowAt kk), hd_nil⟩,
 (List.forall_mem_cons.mpr ⟨fun pc hd => ⟨cwN_SH (n := 3) hF hd (by rw [hH]; exact Ct_Law_weightOf kk l hst) hsd (by rw [hO]; exact wd_1171) wd_1172 wd_85 wd_1173 ⟨by decide +kernel, by decide +kernel, by decide +kernel⟩ (by decide) (by rw [hV]; decide) (sh_Law_weightOf kk), hd_nil⟩,
 (List.forall_mem_cons.mpr ⟨fun pc hd => ⟨cwX_V (C := RX7) (n := 1) hF hd (by rw [hH]; exact Ct_Mo_weightOf kk l hst) hsm (by rw [hO]; exact wd_1760) wd_1761 wd_1762 wd_97 wd_1763 ⟨rfl, by decide +kernel, by decide +kernel, by decide +kernel⟩ (by decide) (by rw [hV]; decide) (sh_Mo_weightOf kk), hd_nil⟩,
 (List.forall_mem_cons.mpr ⟨fun pc hd => ⟨cwN_SH (n := 3) hF hd (by rw [hH]; exact Ct_Law_destinationOf kk l hst) hsd (by rw [hO]; exact wd_1187) wd_1188 wd_85 wd_1189 ⟨by decide +kernel, by decide +kernel, by decide +kernel⟩ (by decide) (by rw [hV]; decide) (sh_Law_destinationOf kk), hd_nil⟩,
 (List.forall_mem_cons.mpr ⟨fun pc hd => ⟨cwX_V (C := RX7) (n := 1) hF hd (by rw [hH]; exact Ct_Mo_destinationOf kk l hst) hsm (by rw [hO]; exact wd_1772) wd_1773 wd_1774 wd_97 wd_1775 ⟨rfl, by decide +kernel, by decide +kernel, by decide +kernel⟩ (by decide) (by rw [hV]; decide) (sh_Mo_destinationOf kk), hd_nil⟩,
 (List.forall_mem_cons.mpr ⟨fun pc hd => ⟨cwN_SH (n := 3) hF hd (by rw [hH]; exact Ct_Law_bayOf kk l hst) hsd (by rw [hO]; exact wd_1195) wd_1196 wd_85 wd_1197 ⟨by decide +kernel, by decide +kernel, by decide +kernel⟩ (by decide) (by rw [hV]; decide) (sh_Law_bayOf kk), hd_nil⟩,
 (List.forall_mem_cons.mpr ⟨fun pc hd => ⟨cwX_V (C := RX7) (n := 1) hF hd (by rw [hH]; exact Ct_Mo_bayOf kk l hst) hsm (by rw [hO]; exact wd_1776) wd_1777 wd_1778 wd_97 wd_1779 ⟨rfl, by decide +kernel, by decide +kernel, by decide +kernel⟩ (by decide) (by rw [hV]; decide) (sh_Mo_bayOf kk), hd_nil⟩,
 (List.forall_mem_cons.mpr ⟨fun pc hd => ⟨cwN_SH (n := 3) hF hd (by rw [hH]; exact Ct_Law_positionOf kk l hst) hsd (by rw [hO]; exact wd_1202) wd_1203 wd_85 wd_1204 ⟨by decide +kernel, by decide +kernel, by decide +kernel⟩ (by decide) (by rw [hV]; decide) (sh_Law_positionOf kk), hd_nil⟩,
 (List.forall_mem_cons.mpr ⟨fun pc hd => ⟨cwX_V (C := RX7) (n := 1) hF hd (by rw [hH]; exact Ct_Mo_positionOf kk l hst) hsm (by rw [hO]; exact wd_1780) wd_1781 wd_1782 wd_97 wd_1783 ⟨rfl, by decide +kernel, by decide +kernel, by decide +kernel⟩ (by decide) (by rw [hV]; decide) (sh_Mo_positionOf kk), hd_nil⟩,
 (List.forall_mem_cons.mpr ⟨fun pc hd => ⟨cwN_SH (n := 3) hF hd (by rw [hH]; exact Ct_Law_ageOf kk l hst) hsd (by rw [hO]; exact wd_1209) wd_1210 wd_85 wd_1211 ⟨by decide +kernel, by decide +kernel, by decide +kernel⟩ (by decide) (by rw [hV]; decide) (sh_Law_ageOf kk), hd_nil⟩,
 (List.forall_mem_cons.mpr ⟨fun pc hd => ⟨cwX_V (C := RX7) (n := 1) hF hd (by rw [hH]; exact Ct_Mo_ageOf kk l hst) hsm (by rw [hO]; exact wd_1784) wd_1785 wd_1786 wd_97 wd_1787 ⟨rfl, by decide +kernel, by decide +kernel, by decide +kernel⟩ (by decide) (by rw [hV]; decide) (sh_Mo_ageOf kk), hd_nil⟩,
 (List.forall_mem_cons.mpr ⟨fun pc hd => ⟨cwX_V (C := RX6) (n := 0) hF hd (by rw [hH]; exact Ct_PB_moment kk l hst) hsd (by rw [hO]; exact wd_651) wd_652 wd_653 wd_86 wd_654 ⟨rfl, by decide +kernel, by decide +kernel, by decide +kernel⟩ (by decide) (by rw [hV]; decide) (sh_PB_moment kk), hd_nil⟩,
 (List.forall_mem_cons.mpr ⟨fun pc hd => ⟨cwX_V (C := RX7) (n := 0) hF hd (by rw [hH]; exact Ct_Mo_moment kk l hst) hsm (by rw [hO]; exact wd_1788) wd_1789 wd_1790 wd_97 wd_1791 ⟨rfl, by decide +kernel, by decide +kernel, by decide +kernel⟩ (by decide) (by rw [hV]; decide) (sh_Mo_moment kk), hd_nil⟩,
 (List.forall_mem_cons.mpr ⟨fun pc hd => ⟨cwX_V (C := RX6) (n := 0) hF hd (by rw [hH]; exact Ct_PB_momentByBays kk l hst) hsd (by rw [hO]; exact wd_656) wd_657 wd_658 wd_86 wd_659 ⟨rfl, by decide +kernel, by decide +kernel, by decide +kernel⟩ (by decide) (by rw [hV]; decide) (sh_PB_momentByBays kk), hd_nil⟩,
 (List.forall_mem_cons.mpr ⟨fun pc hd => ⟨cwX_V (C := RX7) (n := 0) hF hd (by rw [hH]; exact Ct_Mo_momentByBays kk l hst) hsm (by rw [hO]; exact wd_1792) wd_1793 wd_1794 wd_97 wd_1795 ⟨rfl, by decide +kernel, by decide +kernel, by decide +kernel⟩ (by decide) (by rw [hV]; decide) (sh_Mo_momentByBays kk), hd_nil⟩,
 (List.forall_mem_cons.mpr ⟨fun pc hd => ⟨cwX_V (C := RX6) (n := 0) hF hd (by rw [hH]; exact Ct_PB_totalWeight kk l hst) hsd (by rw [hO]; exact wd_668) wd_669 wd_670 wd_86 wd_671 ⟨rfl, by decide +kernel, by decide +kernel, by decide +kernel⟩ (by decide) (by rw [hV]; decide) (sh_PB_totalWeight kk), hd_nil⟩,
 (List.forall_mem_cons.mpr ⟨fun pc hd => ⟨cwX_V (C := RX7) (n := 0) hF hd (by rw [hH]; exact Ct_Mo_totalWeight kk l hst) hsm (by rw [hO]; exact wd_1797) wd_1798 wd_1799 wd_97 wd_1800 ⟨rfl, by decide +kernel, by decide +kernel, by decide +kernel⟩ (by decide) (by rw [hV]; decide) (sh_Mo_totalWeight kk), hd_nil⟩,
 (List.forall_mem_cons.mpr ⟨fun pc hd => ⟨cwN_SH (n := 3) hF hd (by rw [hH]; exact Ct_Law_weightFor kk l hst) hsd (by rw [hO]; exact wd_1220) wd_1221 wd_85 wd_1222 ⟨by decide +kernel, by decide +kernel, by decide +kernel⟩ (by decide) (by rw [hV]; decide) (sh_Law_weightFor kk), hd_nil⟩,
 (List.forall_mem_cons.mpr ⟨fun pc hd => ⟨cwX_V (C := RX7) (n := 1) hF hd (by rw [hH]; exact Ct_Mo_weightFor kk l hst) hsm (by rw [hO]; exact wd_1805) wd_1806 wd_1807 wd_97 wd_1808 ⟨rfl, by decide +kernel, by decide +kernel, by decide +kernel⟩ (by decide) (by rw [hV]; decide) (sh_Mo_weightFor kk), hd_nil⟩,
 (List.forall_mem_cons.mpr ⟨fun pc hd => ⟨cwX_V (C := RX6) (n := 0) hF hd (by rw [hH]; exact Ct_PB_limit kk l hst) hsd (by rw [hO]; exact wd_676) wd_677 wd_678 wd_86 wd_679 ⟨rfl, by decide +kernel, by decide +kernel, by decide +kernel⟩ (by decide) (by rw [hV]; decide) (sh_PB_limit kk), hd_nil⟩,
 (List.forall_mem_cons.mpr ⟨fun pc hd => ⟨cwX_V (C := RX7) (n := 0) hF hd (by rw [hH]; exact Ct_Mo_limit kk l hst) hsm (by rw [hO]; exact wd_1809) wd_1810 wd_1811 wd_97 wd_1812 ⟨rfl, by decide +kernel, by decide +kernel, by decide +kernel⟩ (by decide) (by rw [hV]; decide) (sh_Mo_limit kk), hd_nil⟩,
 (List.forall_mem_cons.mpr ⟨fun pc hd => ⟨cwX_V (C := RX6) (n := 0) hF hd (by rw [hH]; exact Ct_PB_listAngle kk l hst) hsd (by rw [hO]; exact wd_680) wd_681 wd_682 wd_86 wd_683 ⟨rfl, by decide +kernel, by decide +kernel, by decide +kernel⟩ (by decide) (by rw [hV]; decide) (sh_PB_listAngle kk), hd_nil⟩,
 (List.forall_mem_cons.mpr ⟨fun pc hd => ⟨cwX_V (C := RX7) (n := 0) hF hd (by rw [hH]; exact Ct_Mo_listAngle kk l hst) hsm (by rw [hO]; exact wd_1813) wd_1814 wd_1815 wd_97 wd_1816 ⟨rfl, by decide +kernel, by decide +kernel, by decide +kernel⟩ (by decide) (by rw [hV]; decide) (sh_Mo_listAngle kk), hd_nil⟩,
 (List.forall_mem_cons.mpr ⟨fun pc hd => ⟨cwX_V (C := RX6) (n := 0) hF hd (by rw [hH]; exact Ct_PB_greatestPush kk l hst) hsd (by rw [hO]; exact wd_685) wd_686 wd_687 wd_86 wd_688 ⟨rfl, by decide +kernel, by decide +kernel, by decide +kernel⟩ (by decide) (by rw [hV]; decide) (sh_PB_greatestPush kk), hd_nil⟩,
 (List.forall_mem_cons.mpr ⟨fun pc hd => ⟨cwX_V (C := RX7) (n := 0) hF hd (by rw [hH]; exact Ct_Mo_greatestPush kk l hst) hsm (by rw [hO]; exact wd_1818) wd_1819 wd_1820 wd_97 wd_1821 ⟨rfl, by decide +kernel, by decide +kernel, by decide +kernel⟩ (by decide) (by rw [hV]; decide) (sh_Mo_greatestPush kk), hd_nil⟩,
 (List.forall_mem_cons.mpr ⟨fun pc hd => ⟨cwN_SH (n := 3) hF hd (by rw [hH]; exact Ct_Law_levelingBay kk l hst) hsd (by rw [hO]; exact wd_1234) wd_1235 wd_85 wd_1236 ⟨by decide +kernel, by decide +kernel, by decide +kernel⟩ (by decide) (by rw [hV]; decide) (sh_Law_levelingBay kk), hd_nil⟩,
 (List.forall_mem_cons.mpr ⟨fun pc hd => ⟨cwX_V (C := RX7) (n := 1) hF hd (by rw [hH]; exact Ct_Mo_levelingBay kk l hst) hsm (by rw [hO]; exact wd_1822) wd_1823 wd_1824 wd_97 wd_1825 ⟨rfl, by decide +kernel, by decide +kernel, by decide +kernel⟩ (by decide) (by rw [hV]; decide) (sh_Mo_levelingBay kk), hd_nil⟩,
 (List.forall_mem_cons.mpr ⟨fun pc hd => ⟨cwX_V (C := RX6) (n := 0) hF hd (by rw [hH]; exact Ct_PB_port kk l hst) hsd (by rw [hO]; exact wd_689) wd_690 wd_691 wd_86 wd_692 ⟨rfl, by decide +kernel, by decide +kernel, by decide +kernel⟩ (by decide) (by rw [hV]; decide) (sh_PB_port kk), hd_nil⟩,
 (List.forall_mem_cons.mpr ⟨fun pc hd => ⟨cwX_V (C := RX7) (n := 0) hF hd (by rw [hH]; exact Ct_Mo_port kk l hst) hsm (by rw [hO]; exact wd_1833) wd_1834 wd_1835 wd_97 wd_1836 ⟨rfl, by decide +kernel, by decide +kernel, by decide +kernel⟩ (by decide) (by rw [hV]; decide) (sh_Mo_port kk), hd_nil⟩,
 (List.forall_mem_cons.mpr ⟨fun pc hd => ⟨cwX_V (C := RX6) (n := 0) hF hd (by rw [hH]; exact Ct_PB_day kk l hst) hsd (by rw [hO]; exact wd_693) wd_694 wd_695 wd_86 wd_696 ⟨rfl, by decide +kernel, by decide +kernel, by decide +kernel⟩ (by decide) (by rw [hV]; decide) (sh_PB_day kk), hd_nil⟩,
 (List.forall_mem_cons.mpr ⟨fun pc hd => ⟨cwX_V (C := RX7) (n := 0) hF hd (by rw [hH]; exact Ct_Mo_day kk l hst) hsm (by rw [hO]; exact wd_1837) wd_1838 wd_1839 wd_97 wd_1840 ⟨rfl, by decide +kernel, by decide +kernel, by decide +kernel⟩ (by decide) (by rw [hV]; decide) (sh_Mo_day kk), hd_nil⟩,
 (List.forall_mem_cons.mpr ⟨fun pc hd => ⟨cwX_V (C := RX6) (n := 0) hF hd (by rw [hH]; exact Ct_PB_isAscending kk l hst) hsd (by rw [hO]; exact wd_697) wd_698 wd_699 wd_86 wd_700 ⟨rfl, by decide +kernel, by decide +kernel, by decide +kernel⟩ (by decide) (by rw [hV]; decide) (sh_PB_isAscending kk), hd_nil⟩,
 (List.forall_mem_cons.mpr ⟨fun pc hd => ⟨cwX_V (C := RX7) (n := 0) hF hd (by rw [hH]; exact Ct_Mo_isAscending kk l hst) hsm (by rw [hO]; exact wd_1841) wd_1842 wd_1843 wd_97 wd_1844 ⟨rfl, by decide +kernel, by decide +kernel, by decide +kernel⟩ (by decide) (by rw [hV]; decide) (sh_Mo_isAscending kk), hd_nil⟩,
 (List.forall_mem_cons.mpr ⟨fun pc hd => ⟨cwN_SH (n := 3) hF hd (by rw [hH]; exact Ct_Law_legsTo kk l hst) hsd (by rw [hO]; exact wd_1253) wd_1254 wd_85 wd_1255 ⟨by decide +kernel, by decide +kernel, by decide +kernel⟩ (by decide) (by rw [hV]; decide) (sh_Law_legsTo kk), hd_nil⟩,
 (List.forall_mem_cons.mpr ⟨fun pc hd => ⟨cwX_V (C := RX7) (n := 1) hF hd (by rw [hH]; exact Ct_Mo_legsTo kk l hst) hsm (by rw [hO]; exact wd_1845) wd_1846 wd_1847 wd_97 wd_1848 ⟨rfl, by decide +kernel, by decide +kernel, by decide +kernel⟩ (by decide) (by rw [hV]; decide) (sh_Mo_legsTo kk), hd_nil⟩,
 (List.forall_mem_cons.mpr ⟨fun pc hd => ⟨cwN_SH (n := 3) hF hd (by rw [hH]; exact Ct_Law_portAfter kk l hst) hsd (by rw [hO]; exact wd_1261) wd_1262 wd_85 wd_1263 ⟨by decide +kernel, by decide +kernel, by decide +kernel⟩ (by decide) (by rw [hV]; decide) (sh_Law_portAfter kk), hd_nil⟩,
 (List.forall_mem_cons.mpr ⟨fun pc hd => ⟨cwX_V (C := RX7) (n := 1) hF hd (by rw [hH]; exact Ct_Mo_portAfter kk l hst) hsm (by rw [hO]; exact wd_1853) wd_1854 wd_1855 wd_97 wd_1856 ⟨rfl, by decide +kernel, by decide +kernel, by decide +kernel⟩ (by decide) (by rw [hV]; decide) (sh_Mo_portAfter kk), hd_nil⟩,
 (List.forall_mem_cons.mpr ⟨fun pc hd => ⟨cwN_SH (n := 3) hF hd (by rw [hH]; exact Ct_Law_pillowsInTheWay kk l hst) hsd (by rw [hO]; exact wd_1269) wd_1270 wd_85 wd_1271 ⟨by decide +kernel, by decide +kernel, by decide +kernel⟩ (by decide) (by rw [hV]; decide) (sh_Law_pillowsInTheWay kk), hd_nil⟩,
 (List.forall_mem_cons.mpr ⟨fun pc hd => ⟨cwX_V (C := RX7) (n := 1) hF hd (by rw [hH]; exact Ct_Mo_pillowsInTheWay kk l hst) hsm (by rw [hO]; exact wd_1857) wd_1858 wd_1859 wd_97 wd_1860 ⟨rfl, by decide +kernel, by decide +kernel, by decide +kernel⟩ (by decide) (by rw [hV]; decide) (sh_Mo_pillowsInTheWay kk), hd_nil⟩,
 (List.forall_mem_cons.mpr ⟨fun pc hd => ⟨cwX_V (C := RX6) (n := 0) hF hd (by rw [hH]; exact Ct_PB_pairsInTheWay kk l hst) hsd (by rw [hO]; exact wd_701) wd_702 wd_703 wd_86 wd_704 ⟨rfl, by decide +kernel, by decide +kernel, by decide +kernel⟩ (by decide) (by rw [hV]; decide) (sh_PB_pairsInTheWay kk), hd_nil⟩,
 (List.forall_mem_cons.mpr ⟨fun pc hd => ⟨cwX_V (C := RX7) (n := 0) hF hd (by rw [hH]; exact Ct_Mo_pairsInTheWay kk l hst) hsm (by rw [hO]; exact wd_1865) wd_1866 wd_1867 wd_97 wd_1868 ⟨rfl, by decide +kernel, by decide +kernel, by decide +kernel⟩ (by decide) (by rw [hV]; decide) (sh_Mo_pairsInTheWay kk), hd_nil⟩,
 (List.forall_mem_cons.mpr ⟨fun pc hd => ⟨cwX_V (C := RX6) (n := 0) hF hd (by rw [hH]; exact Ct_PB_pairsInTheWayByStacks kk l hst) hsd (by rw [hO]; exact wd_724) wd_725 wd_726 wd_86 wd_727 ⟨rfl, by decide +kernel, by decide +kernel, by decide +kernel⟩ (by decide) (by rw [hV]; decide) (sh_PB_pairsInTheWayByStacks kk), hd_nil⟩,
 (List.forall_mem_cons.mpr ⟨fun pc hd => ⟨cwX_V (C := RX7) (n := 0) hF hd (by rw [hH]; exact Ct_Mo_pairsInTheWayByStacks kk l hst) hsm (by rw [hO]; exact wd_1869) wd_1870 wd_1871 wd_97 wd_1872 ⟨rfl, by decide +kernel, by decide +kernel, by decide +kernel⟩ (by decide) (by rw [hV]; decide) (sh_Mo_pairsInTheWayByStacks kk), hd_nil⟩,
 (List.forall_mem_cons.mpr ⟨fun pc hd => ⟨cwX_V (C := RX6) (n := 0) hF hd (by rw [hH]; exact Ct_PB_unloadableCount kk l hst) hsd (by rw [hO]; exact wd_741) wd_742 wd_743 wd_86 wd_744 ⟨rfl, by decide +kernel, by decide +kernel, by decide +kernel⟩ (by decide) (by rw [hV]; decide) (sh_PB_unloadableCount kk), hd_nil⟩,
 (List.forall_mem_cons.mpr ⟨fun pc hd => ⟨cwX_V (C := RX7) (n := 0) hF hd (by rw [hH]; exact Ct_Mo_unloadableCount kk l hst) hsm (by rw [hO]; exact wd_1874) wd_1875 wd_1876 wd_97 wd_1877 ⟨rfl, by decide +kernel, by decide +kernel, by decide +kernel⟩ (by decide) (by rw [hV]; decide) (sh_Mo_unloadableCount kk), hd_nil⟩,
 (List.forall_mem_cons.mpr ⟨fun pc hd => ⟨cwN_SH (n := 3) hF hd (by rw [hH]; exact Ct_Law_oldestIn kk l hst) hsd (by rw [hO]; exact wd_1276) wd_1277 wd_85 wd_1278 ⟨by decide +kernel, by decide +kernel, by decide +kernel⟩ (by decide) (by rw [hV]; decide) (sh_Law_oldestIn kk), hd_nil⟩,
 (List.forall_mem_cons.mpr ⟨fun pc hd => ⟨cwX_V (C := RX7) (n := 1) hF hd (by rw [hH]; exact Ct_Mo_oldestIn kk l hst) hsm (by rw [hO]; exact wd_1878) wd_1879 wd_1880 wd_97 wd_1881 ⟨rfl, by decide +kernel, by decide +kernel, by decide +kernel⟩ (by decide) (by rw [hV]; decide) (sh_Mo_oldestIn kk), hd_nil⟩,
 (List.forall_mem_cons.mpr ⟨fun pc hd => ⟨cwN_SH (n := 2) hF hd (by rw [hH]; exact Ct_Law_heaviestPort kk l hst) hsd (by rw [hO]; exact wd_1291) wd_1292 wd_85 wd_1293 ⟨by decide +kernel, by decide +kernel, by decide +kernel⟩ (by decide) (by rw [hV]; decide) (sh_Law_heaviestPort kk), hd_nil⟩,
 (List.forall_mem_cons.mpr ⟨fun pc hd => ⟨cwX_V (C := RX7) (n := 0) hF hd (by rw [hH]; exact Ct_Mo_heaviestPort kk l hst) hsm (by rw [hO]; exact wd_1882) wd_1883 wd_1884 wd_97 wd_1885 ⟨rfl, by decide +kernel, by decide +kernel, by decide +kernel⟩ (by decide) (by rw [hV]; decide) (sh_Mo_heaviestPort kk), hd_nil⟩,
 (List.forall_mem_cons.mpr ⟨fun pc hd => ⟨cwX_V (C := RX6) (n := 0) hF hd (by rw [hH]; exact Ct_PB_possibleShifts kk l hst) hsd (by rw [hO]; exact wd_746) wd_747 wd_748 wd_86 wd_749 ⟨rfl, by decide +kernel, by decide +kernel, by decide +kernel⟩ (by decide) (by rw [hV]; decide) (sh_PB_possibleShifts kk), hd_nil⟩,
 (List.forall_mem_cons.mpr ⟨fun pc hd => ⟨cwX_V (C := RX7) (n := 0) hF hd (by rw [hH]; exact Ct_Mo_possibleShifts kk l hst) hsm (by rw [hO]; exact wd_1887) wd_1888 wd_1889 wd_97 wd_1890 ⟨rfl, by decide +kernel, by decide +kernel, by decide +kernel⟩ (by decide) (by rw [hV]; decide) (sh_Mo_possibleShifts kk), hd_nil⟩,
 (List.forall_mem_cons.mpr ⟨fun pc hd => ⟨cwN_SH (n := 3) hF hd (by rw [hH]; exact Ct_Law_pillowByTurn kk l hst) hsd (by rw [hO]; exact wd_1298) wd_1299 wd_85 wd_1300 ⟨by decide +kernel, by decide +kernel, by decide +kernel⟩ (by decide) (by rw [hV]; decide) (sh_Law_pillowByTurn kk), hd_nil⟩,
 (List.forall_mem_cons.mpr ⟨fun pc hd => ⟨cwX_V (C := RX7) (n := 1) hF hd (by rw [hH]; exact Ct_Mo_pillowByTurn kk l hst) hsm (by rw [hO]; exact wd_1891) wd_1892 wd_1893 wd_97 wd_1894 ⟨rfl, by decide +kernel, by decide +kernel, by decide +kernel⟩ (by decide) (by rw [hV]; decide) (sh_Mo_pillowByTurn kk), hd_nil⟩,
 (List.forall_mem_cons.mpr ⟨fun pc hd => ⟨cwN_SH (n := 3) hF hd (by rw [hH]; exact Ct_Law_bayByWeight kk l hst) hsd (by rw [hO]; exact wd_1313) wd_1314 wd_85 wd_1315 ⟨by decide +kernel, by decide +kernel, by decide +kernel⟩ (by decide) (by rw [hV]; decide) (sh_Law_bayByWeight kk), hd_nil⟩,
 (List.forall_mem_cons.mpr ⟨fun pc hd => ⟨cwX_V (C := RX7) (n := 1) hF hd (by rw [hH]; exact Ct_Mo_bayByWeight kk l hst) hsm (by rw [hO]; exact wd_1903) wd_1904 wd_1905 wd_97 wd_1906 ⟨rfl, by decide +kernel, by decide +kernel, by decide +kernel⟩ (by decide) (by rw [hV]; decide) (sh_Mo_bayByWeight kk), hd_nil⟩,
 (List.forall_mem_cons.mpr ⟨fun pc hd => ⟨cwX_V (C := RX6) (n := 0) hF hd (by rw [hH]; exact Ct_PB_loadedTotal kk l hst) hsd (by rw [hO]; exact wd_751) wd_752 wd_753 wd_86 wd_754 ⟨rfl, by decide +kernel, by decide +kernel, by decide +kernel⟩ (by decide) (by rw [hV]; decide) (sh_PB_loadedTotal kk), hd_nil⟩,
 (List.forall_mem_cons.mpr ⟨fun pc hd => ⟨cwX_V (C := RX7) (n := 0) hF hd (by rw [hH]; exact Ct_Mo_loadedTotal kk l hst) hsm (by rw [hO]; exact wd_1907) wd_1908 wd_1909 wd_97 wd_1910 ⟨rfl, by decide +kernel, by decide +kernel, by decide +kernel⟩ (by decide) (by rw [hV]; decide) (sh_Mo_loadedTotal kk), hd_nil⟩,
 (List.forall_mem_cons.mpr ⟨fun pc hd => ⟨cwX_V (C := RX6) (n := 0) hF hd (by rw [hH]; exact Ct_PB_deliveredTotal kk l hst) hsd (by rw [hO]; exact wd_755) wd_756 wd_757 wd_86 wd_758 ⟨rfl, by decide +kernel, by decide +kernel, by decide +kernel⟩ (by decide) (by rw [hV]; decide) (sh_PB_deliveredTotal kk), hd_nil⟩,
 (List.forall_mem_cons.mpr ⟨fun pc hd => ⟨cwX_V (C := RX7) (n := 0) hF hd (by rw [hH]; exact Ct_Mo_deliveredTotal kk l hst) hsm (by rw [hO]; exact wd_1911) wd_1912 wd_1913 wd_97 wd_1914 ⟨rfl, by decide +kernel, by decide +kernel, by decide +kernel⟩ (by decide) (by rw [hV]; decide) (sh_Mo_deliveredTotal kk), hd_nil⟩,
 (List.forall_mem_cons.mpr ⟨fun pc hd => ⟨cwX_V (C := RX6) (n := 0) hF hd (by rw [hH]; exact Ct_PB_deliveredWeight kk l hst) hsd (by rw [hO]; exact wd_759) wd_760 wd_761 wd_86 wd_762 ⟨rfl, by decide +kernel, by decide +kernel, by decide +kernel⟩ (by decide) (by rw [hV]; decide) (sh_PB_deliveredWeight kk), hd_nil⟩,
 (List.forall_mem_cons.mpr ⟨fun pc hd => ⟨cwX_V (C := RX7) (n := 0) hF hd (by rw [hH]; exact Ct_Mo_deliveredWeight kk l hst) hsm (by rw [hO]; exact wd_1915) wd_1916 wd_1917 wd_97 wd_1918 ⟨rfl, by decide +kernel, by decide +kernel, by decide +kernel⟩ (by decide) (by rw [hV]; decide) (sh_Mo_deliveredWeight kk), hd_nil⟩,
 (List.forall_mem_cons.mpr ⟨fun pc hd => ⟨cwX_V (C := RX6) (n := 0) hF hd (by rw [hH]; exact Ct_PB_drillTotal kk l hst) hsd (by rw [hO]; exact wd_763) wd_764 wd_765 wd_86 wd_766 ⟨rfl, by decide +kernel, by decide +kernel, by decide +kernel⟩ (by decide) (by rw [hV]; decide) (sh_PB_drillTotal kk), hd_nil⟩,
 (List.forall_mem_cons.mpr ⟨fun pc hd => ⟨cwX_V (C := RX7) (n := 0) hF hd (by rw [hH]; exact Ct_Mo_drillTotal kk l hst) hsm (by rw [hO]; exact wd_1919) wd_1920 wd_1921 wd_97 wd_1922 ⟨rfl, by decide +kernel, by decide +kernel, by decide +kernel⟩ (by decide) (by rw [hV]; decide) (sh_Mo_drillTotal kk), hd_nil⟩,
 (List.forall_mem_cons.mpr ⟨fun pc hd => ⟨cwX_V (C := RX6) (n := 0) hF hd (by rw [hH]; exact Ct_PB_capsizedTotal kk l hst) hsd (by rw [hO]; exact wd_767) wd_768 wd_769 wd_86 wd_770 ⟨rfl, by decide +kernel, by decide +kernel, by decide +kernel⟩ (by decide) (by rw [hV]; decide) (sh_PB_capsizedTotal kk), hd_nil⟩,
 (List.forall_mem_cons.mpr ⟨fun pc hd => ⟨cwX_V (C := RX7) (n := 0) hF hd (by rw [hH]; exact Ct_Mo_capsizedTotal kk l hst) hsm (by rw [hO]; exact wd_1923) wd_1924 wd_1925 wd_97 wd_1926 ⟨rfl, by decide +kernel, by decide +kernel, by decide +kernel⟩ (by decide) (by rw [hV]; decide) (sh_Mo_capsizedTotal kk), hd_nil⟩,
 (List.forall_mem_cons.mpr ⟨fun pc hd => ⟨cwN_SH (n := 2) hF hd (by rw [hH]; exact Ct_Law_meanAge kk l hst) hsd (by rw [hO]; exact wd_1324) wd_1325 wd_85 wd_1326 ⟨by decide +kernel, by decide +kernel, by decide +kernel⟩ (by decide) (by rw [hV]; decide) (sh_Law_meanAge kk), hd_nil⟩,
 (List.forall_mem_cons.mpr ⟨fun pc hd => ⟨cwX_V (C := RX7) (n := 0) hF hd (by rw [hH]; exact Ct_Mo_meanAge kk l hst) hsm (by rw [hO]; exact wd_1927) wd_1928 wd_1929 wd_97 wd_1930 ⟨rfl, by decide +kernel, by decide +kernel, by decide +kernel⟩ (by decide) (by rw [hV]; decide) (sh_Mo_meanAge kk), hd_nil⟩,
 (List.forall_mem_cons.mpr ⟨fun pc hd => ⟨cwN_SH (n := 2) hF hd (by rw [hH]; exact Ct_Law_capsizedShare kk l hst) hsd (by rw [hO]; exact wd_1354) wd_1355 wd_85 wd_1356 ⟨by decide +kernel, by decide +kernel, by decide +kernel⟩ (by decide) (by rw [hV]; decide) (sh_Law_capsizedShare kk), hd_nil⟩,
 (List.forall_mem_cons.mpr ⟨fun pc hd => ⟨cwX_V (C := RX7) (n := 0) hF hd (by rw [hH]; exact Ct_Mo_capsizedShare kk l hst) hsm (by rw [hO]; exact wd_1931) wd_1932 wd_1933 wd_97 wd_1934 ⟨rfl, by decide +kernel, by decide +kernel, by decide +kernel⟩ (by decide) (by rw [hV]; decide) (sh_Mo_capsizedShare kk), hd_nil⟩,
 (List.forall_mem_cons.mpr ⟨fun pc hd => ⟨cwX_V (C := RX6) (n := 0) hF hd (by rw [hH]; exact Ct_PB_isConsistent kk l hst) hsd (by rw [hO]; exact wd_771) wd_772 wd_773 wd_86 wd_774 ⟨rfl, by decide +kernel, by decide +kernel, by decide +kernel⟩ (by decide) (by rw [hV]; decide) (sh_PB_isConsistent kk), hd_nil⟩,
 (List.forall_mem_cons.mpr ⟨fun pc hd => ⟨cwX_V (C := RX7) (n := 0) hF hd (by rw [hH]; exact Ct_Mo_isConsistent kk l hst) hsm (by rw [hO]; exact wd_1935) wd_1936 wd_1937 wd_97 wd_1938 ⟨rfl, by decide +kernel, by decide +kernel, by decide +kernel⟩ (by decide) (by rw [hV]; decide) (sh_Mo_isConsistent kk), hd_nil⟩,
 (List.forall_mem_cons.mpr ⟨fun pc hd => ⟨cwN_SH (n := 3) hF hd (by rw [hH]; exact Ct_Law_renderStack kk l hst) hsd (by rw [hO]; exact wd_1361) wd_1362 wd_85 wd_1363 ⟨by decide +kernel, by decide +kernel, by decide +kernel⟩ (by decide) (by rw [hV]; decide) (sh_Law_renderStack kk), hd_nil⟩,
 (List.forall_mem_cons.mpr ⟨fun pc hd => ⟨cwX_V (C := RX7) (n := 1) hF hd (by rw [hH]; exact Ct_Mo_renderStack kk l hst) hsm (by rw [hO]; exact wd_1939) wd_1940 wd_1941 wd_97 wd_1942 ⟨rfl, by decide +kernel, by decide +kernel, by decide +kernel⟩ (by decide) (by rw [hV]; decide) (sh_Mo_renderStack kk), hd_nil⟩,
 (List.forall_mem_cons.mpr ⟨fun pc hd => ⟨cwX_V (C := RX6) (n := 0) hF hd (by rw [hH]; exact Ct_PB_renderBarge kk l hst) hsd (by rw [hO]; exact wd_776) wd_777 wd_778 wd_86 wd_779 ⟨rfl, by decide +kernel, by decide +kernel, by decide +kernel⟩ (by decide) (by rw [hV]; decide) (sh_PB_renderBarge kk), hd_nil⟩,
 (List.forall_mem_cons.mpr ⟨fun pc hd => ⟨cwX_V (C := RX7) (n := 0) hF hd (by rw [hH]; exact Ct_Mo_renderBarge kk l hst) hsm (by rw [hO]; exact wd_1951) wd_1952 wd_1953 wd_97 wd_1954 ⟨rfl, by decide +kernel, by decide +kernel, by decide +kernel⟩ (by decide) (by rw [hV]; decide) (sh_Mo_renderBarge kk), hd_nil⟩,
 (List.forall_mem_cons.mpr ⟨fun pc hd => ⟨cwN_SH (n := 3) hF hd (by rw [hH]; exact Ct_Law_outputAt kk l hst) hsd (by rw [hO]; exact wd_1372) wd_1373 wd_85 wd_1374 ⟨by decide +kernel, by decide +kernel, by decide +kernel⟩ (by decide) (by rw [hV]; decide) (sh_Law_outputAt kk), hd_nil⟩,
 (List.forall_mem_cons.mpr ⟨fun pc hd => ⟨cwX_V (C := RX7) (n := 1) hF hd (by rw [hH]; exact Ct_Mo_outputAt kk l hst) hsm (by rw [hO]; exact wd_1955) wd_1956 wd_1957 wd_97 wd_1958 ⟨rfl, by decide +kernel, by decide +kernel, by decide +kernel⟩ (by decide) (by rw [hV]; decide) (sh_Mo_outputAt kk), hd_nil⟩,
 (List.forall_mem_cons.mpr ⟨fun pc hd => ⟨cwN_SH (n := 3) hF hd (by rw [hH]; exact Ct_Law_type kk l hst) hsd (by rw [hO]; exact wd_1389) wd_1390 wd_85 wd_1391 ⟨by decide +kernel, by decide +kernel, by decide +kernel⟩ (by decide) (by rw [hV]; decide) (sh_Law_type kk), hd_nil⟩,
 (List.forall_mem_cons.mpr ⟨fun pc hd => ⟨cwX_V (C := RX7) (n := 1) hF hd (by rw [hH]; exact Ct_Mo_type kk l hst) hsm (by rw [hO]; exact wd_1959) wd_1960 wd_1961 wd_97 wd_1962 ⟨rfl, by decide +kernel, by decide +kernel, by decide +kernel⟩ (by decide) (by rw [hV]; decide) (sh_Mo_type kk), hd_nil⟩,
 (List.forall_mem_cons.mpr ⟨fun pc hd => ⟨cwN_SH (n := 2) hF hd (by rw [hH]; exact Ct_Law_runScript kk l hst) hsd (by rw [hO]; exact wd_1404) wd_1405 wd_85 wd_1406 ⟨by decide +kernel, by decide +kernel, by decide +kernel⟩ (by decide) (by rw [hV]; decide) (sh_Law_runScript kk), hd_nil⟩,
 (List.forall_mem_cons.mpr ⟨fun pc hd => ⟨cwX_V (C := RX7) (n := 0) hF hd (by rw [hH]; exact Ct_Mo_runScript kk l hst) hsm (by rw [hO]; exact wd_1963) wd_1964 wd_1965 wd_97 wd_1966 ⟨rfl, by decide +kernel, by decide +kernel, by decide +kernel⟩ (by decide) (by rw [hV]; decide) (sh_Mo_runScript kk), hd_nil⟩,
 (List.forall_mem_cons.mpr ⟨fun pc hd => ⟨cwN_SH (n := 2) hF hd (by rw [hH]; exact Ct_Law_errorPosition kk l hst) hsd (by rw [hO]; exact wd_1503) wd_1504 wd_85 wd_1505 ⟨by decide +kernel, by decide +kernel, by decide +kernel⟩ (by decide) (by rw [hV]; decide) (sh_Law_errorPosition kk), hd_nil⟩,
 (List.forall_mem_cons.mpr ⟨fun pc hd => ⟨cwX_V (C := RX7) (n := 0) hF hd (by rw [hH]; exact Ct_Mo_errorPosition kk l hst) hsm (by rw [hO]; exact wd_2019) wd_2020 wd_2021 wd_97 wd_2022 ⟨rfl, by decide +kernel, by decide +kernel, by decide +kernel⟩ (by decide) (by rw [hV]; decide) (sh_Mo_errorPosition kk), hd_nil⟩,
 (List.forall_mem_cons.mpr ⟨fun pc hd => ⟨cwN_SH (n := 2) hF hd (by rw [hH]; exact Ct_Law_failedCommand kk l hst) hsd (by rw [hO]; exact wd_1510) wd_1511 wd_85 wd_1512 ⟨by decide +kernel, by decide +kernel, by decide +kernel⟩ (by decide) (by rw [hV]; decide) (sh_Law_failedCommand kk), hd_nil⟩,
 (List.forall_mem_cons.mpr ⟨fun pc hd => ⟨cwX_V (C := RX7) (n := 0) hF hd (by rw [hH]; exact Ct_Mo_failedCommand kk l hst) hsm (by rw [hO]; exact wd_2023) wd_2024 wd_2025 wd_97 wd_2026 ⟨rfl, by decide +kernel, by decide +kernel, by decide +kernel⟩ (by decide) (by rw [hV]; decide) (sh_Mo_failedCommand kk), hd_nil⟩,
 (List.forall_mem_cons.mpr ⟨fun pc hd => ⟨cwN_SH (n := 2) hF hd (by rw [hH]; exact Ct_Law_undo kk l hst) hsd (by rw [hO]; exact wd_1517) wd_1518 wd_85 wd_1519 ⟨by decide +kernel, by decide +kernel, by decide +kernel⟩ (by decide) (by rw [hV]; decide) (sh_Law_undo kk), hd_nil⟩,
 (List.forall_mem_cons.mpr ⟨fun pc hd => ⟨cwX_V (C := RX7) (n := 0) hF hd (by rw [hH]; exact Ct_Mo_undo kk l hst) hsm (by rw [hO]; exact wd_2027) wd_2028 wd_2029 wd_97 wd_2030 ⟨rfl, by decide +kernel, by decide +kernel, by decide +kernel⟩ (by decide) (by rw [hV]; decide) (sh_Mo_undo kk), hd_nil⟩,
 (List.forall_mem_cons.mpr ⟨fun pc hd => ⟨cwX_V (C := RX6) (n := 0) hF hd (by rw [hH]; exact Ct_PB_save kk l hst) hsd (by rw [hO]; exact wd_1094) wd_1095 wd_1096 wd_86 wd_1097 ⟨rfl, by decide +kernel, by decide +kernel, by decide +kernel⟩ (by decide) (by rw [hV]; decide) (sh_PB_save kk), hd_nil⟩,
 (List.forall_mem_cons.mpr ⟨fun pc hd => ⟨cwX_V (C := RX7) (n := 0) hF hd (by rw [hH]; exact Ct_Mo_save kk l hst) hsm (by rw [hO]; exact wd_2031) wd_2032 wd_2033 wd_97 wd_2034 ⟨rfl, by decide +kernel, by decide +kernel, by decide +kernel⟩ (by decide) (by rw [hV]; decide) (sh_Mo_save kk), hd_nil⟩,
 (List.forall_mem_cons.mpr ⟨fun pc hd => ⟨cwN_SH (n := 2) hF hd (by rw [hH]; exact Ct_Law_restore kk l hst) hsd (by rw [hO]; exact wd_1529) wd_1530 wd_85 wd_1531 ⟨by decide +kernel, by decide +kernel, by decide +kernel⟩ (by decide) (by rw [hV]; decide) (sh_Law_restore kk), hd_nil⟩,
 (List.forall_mem_cons.mpr ⟨fun pc hd => ⟨cwX_V (C := RX7) (n := 0) hF hd (by rw [hH]; exact Ct_Mo_restore kk l hst) hsm (by rw [hO]; exact wd_2035) wd_2036 wd_2037 wd_97 wd_2038 ⟨rfl, by decide +kernel, by decide +kernel, by decide +kernel⟩ (by decide) (by rw [hV]; decide) (sh_Mo_restore kk), hd_nil⟩,
 (fun _ h => nomatch h)⟩)⟩)⟩)⟩)⟩)⟩)⟩)⟩)⟩)⟩)⟩)⟩)⟩)⟩)⟩)⟩)⟩)⟩)⟩)⟩)⟩)⟩)⟩)⟩)⟩)⟩)⟩)⟩)⟩)⟩)⟩)⟩)⟩)⟩)⟩)⟩)⟩)⟩)⟩)⟩)⟩)⟩)⟩)⟩)⟩)⟩)⟩)⟩)⟩)⟩)⟩)⟩)⟩)⟩)⟩)⟩)⟩)⟩)⟩)⟩)⟩)⟩)⟩)⟩)⟩)⟩)⟩)⟩)⟩)⟩)⟩)⟩)⟩)⟩)⟩)⟩)⟩)⟩)⟩)⟩)⟩)⟩)⟩)⟩)⟩)⟩)⟩)⟩)⟩)⟩)⟩)⟩)⟩)⟩)⟩)⟩)⟩)⟩)⟩)⟩)⟩)⟩)⟩)⟩)⟩)⟩)⟩)⟩)⟩)⟩)⟩)
  · rw [hO, hC, hR]; exact tk_useC (N := 2413) (M := 49) (fun pc h => by unfold T_Law_law; rw [Nat.ble_eq_true_of_le h]) (by decide) (fun i hi => match i, hi with | 0, _ => tk_Law_c0 | 1, _ => tk_Law_c1 | 2, _ => tk_Law_c2 | 3, _ => tk_Law_c3 | 4, _ => tk_Law_c4 | 5, _ => tk_Law_c5 | 6, _ => tk_Law_c6 | 7, _ => tk_Law_c7 | 8, _ => tk_Law_c8 | 9, _ => tk_Law_c9 | 10, _ => tk_Law_c10 | 11, _ => tk_Law_c11 | 12, _ => tk_Law_c12 | 13, _ => tk_Law_c13 | 14, _ => tk_Law_c14 | 15, _ => tk_Law_c15 | 16, _ => tk_Law_c16 | 17, _ => tk_Law_c17 | 18, _ => tk_Law_c18 | 19, _ => tk_Law_c19 | 20, _ => tk_Law_c20 | 21, _ => tk_Law_c21 | 22, _ => tk_Law_c22 | 23, _ => tk_Law_c23 | 24, _ => tk_Law_c24 | 25, _ => tk_Law_c25 | 26, _ => tk_Law_c26 | 27, _ => tk_Law_c27 | 28, _ => tk_Law_c28 | 29, _ => tk_Law_c29 | 30, _ => tk_Law_c30 | 31, _ => tk_Law_c31 | 32, _ => tk_Law_c32 | 33, _ => tk_Law_c33 | 34, _ => tk_Law_c34 | 35, _ => tk_Law_c35 | 36, _ => tk_Law_c36 | 37, _ => tk_Law_c37 | 38, _ => tk_Law_c38 | 39, _ => tk_Law_c39 | 40, _ => tk_Law_c40 | 41, _ => tk_Law_c41 | 42, _ => tk_Law_c42 | 43, _ => tk_Law_c43 | 44, _ => tk_Law_c44 | 45, _ => tk_Law_c45 | 46, _ => tk_Law_c46 | 47, _ => tk_Law_c47 | 48, _ => tk_Law_c48 | j + 49, h => absurd h (by omega)) pc e he
