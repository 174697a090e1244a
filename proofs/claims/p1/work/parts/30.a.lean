theorem zmem {w : Cond} (i : Nat) (h : tables_1[i]? = some w) (g : goodWord w = true) : w ∈ zGW := List.mem_filter.mpr ⟨List.mem_append_right _ (List.mem_of_getElem? h), g⟩
theorem zmemN {w : Cond} (i : Nat) (h : tables_1[i]? = some w) (g : zisN w = true) : w ∈ zNL := List.mem_filter.mpr ⟨List.mem_append_right _ (List.mem_of_getElem? h), g⟩
theorem zmemS {q : MethodName × Nat} (i : Nat) (h : lw_privs[i]? = some q) : Cond.selects q.1.cls q.1 q.1 ∈ zGW := List.mem_filter.mpr ⟨List.mem_append_left _ (List.mem_map.mpr ⟨q, List.mem_of_getElem? h, rfl⟩), rfl⟩
theorem zin_r {ws : List Cond} (ps : List Nat) (hp : ws = ps.filterMap (fun i => tables_1[i]?)) (h : ws.all goodWord = true) : ∀ w ∈ ws, w ∈ zGW := by
  intro w hw
  have h1 := List.all_eq_true.mp h w hw
  rw [hp] at hw
  obtain ⟨i, -, hi⟩ := List.mem_filterMap.mp hw
  exact zmem i hi h1
theorem inX0 : ∀ w ∈ u_ws RX0 TX0 16, w ∈ zGW := zin_r [449, 451, 453, 455, 457, 459, 461, 463, 465, 467, 469, 471, 473, 475, 477, 479] (by decide +kernel) (by decide +kernel)
theorem inX1 : ∀ w ∈ u_ws RX1 TX1 13, w ∈ zGW := zin_r [831, 833, 835, 837, 839, 841, 843, 845, 847, 849, 851, 853, 855] (by decide +kernel) (by decide +kernel)
theorem inX2 : ∀ w ∈ u_ws RX2 TX2 13, w ∈ zGW := zin_r [780, 782, 784, 786, 788, 790, 792, 794, 796, 798, 800, 802, 804] (by decide +kernel) (by decide +kernel)
theorem inX3 : ∀ w ∈ u_ws RX3 TX3 19, w ∈ zGW := zin_r [711, 713, 715, 717, 719, 721, 723, 725, 727, 729, 731, 733, 735, 737, 739, 741, 743, 745, 747] (by decide +kernel) (by decide +kernel)
theorem inX4 : ∀ w ∈ u_ws RX4 TX4 8, w ∈ zGW := zin_r [629, 631, 633, 635, 637, 639, 641, 643] (by decide +kernel) (by decide +kernel)
theorem inX5 : ∀ w ∈ u_ws RX5 TX5 11, w ∈ zGW := zin_r [169, 171, 173, 175, 177, 179, 181, 183, 185, 187, 189] (by decide +kernel) (by decide +kernel)
theorem inX6 : ∀ w ∈ u_ws RX6 TX6 14, w ∈ zGW := zin_r [582, 584, 586, 588, 590, 592, 594, 596, 598, 600, 602, 604, 606, 608] (by decide +kernel) (by decide +kernel)
theorem inX7 : ∀ w ∈ u_ws RX7 TX7 20, w ∈ zGW := zin_r [98, 100, 102, 104, 106, 108, 110, 112, 114, 116, 118, 120, 122, 124, 126, 128, 130, 132, 134, 136] (by decide +kernel) (by decide +kernel)
theorem inX8 : ∀ w ∈ u_ws RX8 TX8 13, w ∈ zGW := zin_r [951, 953, 955, 957, 959, 961, 963, 965, 967, 969, 971, 973, 975] (by decide +kernel) (by decide +kernel)
theorem inX9 : ∀ w ∈ u_ws RX9 TX9 13, w ∈ zGW := zin_r [508, 510, 512, 514, 516, 518, 520, 522, 524, 526, 528, 530, 532] (by decide +kernel) (by decide +kernel)
theorem inX10 : ∀ w ∈ u_ws RX10 TX10 9, w ∈ zGW := zin_r [665, 667, 669, 671, 673, 675, 677, 679, 681] (by decide +kernel) (by decide +kernel)
theorem inX11 : ∀ w ∈ u_ws RX11 TX11 21, w ∈ zGW := zin_r [215, 217, 219, 221, 223, 225, 227, 229, 231, 233, 235, 237, 239, 241, 243, 245, 247, 249, 251, 253, 255] (by decide +kernel) (by decide +kernel)
theorem inX12 : ∀ w ∈ u_ws RX12 TX12 30, w ∈ zGW := zin_r [2049, 2051, 2053, 2055, 2057, 2059, 2061, 2063, 2065, 2067, 2069, 2071, 2073, 2075, 2077, 2079, 2081, 2083, 2085, 2087, 2089, 2091, 2093, 2095, 2097, 2099, 2101, 2103, 2105, 2107] (by decide +kernel) (by decide +kernel)
theorem inX13 : ∀ w ∈ u_ws RX13 TX13 10, w ∈ zGW := zin_r [2185, 2187, 2189, 2191, 2193, 2195, 2197, 2199, 2201, 2203] (by decide +kernel) (by decide +kernel)
theorem inX14 : ∀ w ∈ u_ws RX14 TX14 47, w ∈ zGW := zin_r [2299, 2301, 2303, 2305, 2307, 2309, 2311, 2313, 2315, 2317, 2319, 2321, 2323, 2325, 2327, 2329, 2331, 2333, 2335, 2337, 2339, 2341, 2343, 2345, 2347, 2349, 2351, 2353, 2355, 2357, 2359, 2361, 2363, 2365, 2367, 2369, 2371, 2373, 2375, 2377, 2379, 2381, 2383, 2385, 2387, 2389, 2391] (by decide +kernel) (by decide +kernel)
theorem inX15 : ∀ w ∈ u_ws RX15 TX15 6, w ∈ zGW := zin_r [2154, 2156, 2158, 2160, 2162, 2164] (by decide +kernel) (by decide +kernel)
theorem inX16 : ∀ w ∈ u_ws RX16 TX16 10, w ∈ zGW := zin_r [2426, 2428, 2430, 2432, 2434, 2436, 2438, 2440, 2442, 2444] (by decide +kernel) (by decide +kernel)
theorem inX17 : ∀ w ∈ u_ws RX17 TX17 7, w ∈ zGW := zin_r [2125, 2127, 2129, 2131, 2133, 2135, 2137] (by decide +kernel) (by decide +kernel)
theorem inX18 : ∀ w ∈ u_ws RX18 TX18 13, w ∈ zGW := zin_r [2492, 2494, 2496, 2498, 2500, 2502, 2504, 2506, 2508, 2510, 2512, 2514, 2516] (by decide +kernel) (by decide +kernel)
theorem inX19 : ∀ w ∈ u_ws RX19 TX19 32, w ∈ zGW := zin_r [1917, 1919, 1921, 1923, 1925, 1927, 1929, 1931, 1933, 1935, 1937, 1939, 1941, 1943, 1945, 1947, 1949, 1951, 1953, 1955, 1957, 1959, 1961, 1963, 1965, 1967, 1969, 1971, 1973, 1975, 1977, 1979] (by decide +kernel) (by decide +kernel)
