/-! The blocks of X, one by one (written by program: wip/whole/mkw.py). -/
theorem km1 : xmt 1 = some (2, 2, 0, 0, [], xM1.2.2.2.2.2) := xmt_at (q := 0) (r := 1) rfl rfl
theorem km2 : xmt 2 = some (2, 6, 0, 0, [], xM2.2.2.2.2.2) := xmt_at (q := 0) (r := 2) rfl rfl
theorem km4 : xmt 4 = some (2, 2, 1, 0, [], xM4.2.2.2.2.2) := xmt_at (q := 0) (r := 4) rfl rfl
theorem km5 : xmt 5 = some (4, 4, 1, 0, [], xM5.2.2.2.2.2) := xmt_at (q := 0) (r := 5) rfl rfl
theorem km6 : xmt 6 = some (2, 3, 1, 0, [], xM6.2.2.2.2.2) := xmt_at (q := 0) (r := 6) rfl rfl
theorem km7 : xmt 7 = some (3, 5, 1, 1, [], xM7.2.2.2.2.2) := xmt_at (q := 0) (r := 7) rfl rfl
theorem km8 : xmt 8 = some (3, 6, 1, 1, [], xM8.2.2.2.2.2) := xmt_at (q := 0) (r := 8) rfl rfl
theorem km9 : xmt 9 = some (2, 4, 1, 1, [], xM9.2.2.2.2.2) := xmt_at (q := 0) (r := 9) rfl rfl
theorem km11 : xmt 11 = some (1, 1, 2, 0, [], xM11.2.2.2.2.2) := xmt_at (q := 0) (r := 11) rfl rfl
theorem km12 : xmt 12 = some (1, 2, 2, 0, [], xM12.2.2.2.2.2) := xmt_at (q := 0) (r := 12) rfl rfl
theorem km13 : xmt 13 = some (2, 2, 2, 0, [], xM13.2.2.2.2.2) := xmt_at (q := 0) (r := 13) rfl rfl
theorem km14 : xmt 14 = some (2, 2, 2, 0, [], xM14.2.2.2.2.2) := xmt_at (q := 0) (r := 14) rfl rfl
theorem km15 : xmt 15 = some (3, 3, 2, 0, [], xM15.2.2.2.2.2) := xmt_at (q := 0) (r := 15) rfl rfl
theorem km16 : xmt 16 = some (3, 3, 2, 0, [], xM16.2.2.2.2.2) := xmt_at (q := 0) (r := 16) rfl rfl
theorem km17 : xmt 17 = some (2, 2, 99, 0, [], xM17.2.2.2.2.2) := xmt_at (q := 0) (r := 17) rfl rfl
theorem km19 : xmt 19 = some (2, 3, 3, 2, [], xM19.2.2.2.2.2) := xmt_at (q := 0) (r := 19) rfl rfl
theorem km20 : xmt 20 = some (2, 2, 3, 2, [], xM20.2.2.2.2.2) := xmt_at (q := 1) (r := 0) rfl rfl
theorem km21 : xmt 21 = some (1, 2, 3, 2, [], xM21.2.2.2.2.2) := xmt_at (q := 1) (r := 1) rfl rfl
theorem km22 : xmt 22 = some (1, 1, 3, 2, [], xM22.2.2.2.2.2) := xmt_at (q := 1) (r := 2) rfl rfl
theorem km23 : xmt 23 = some (1, 3, 3, 2, [], xM23.2.2.2.2.2) := xmt_at (q := 1) (r := 3) rfl rfl
theorem km24 : xmt 24 = some (1, 4, 3, 2, [], xM24.2.2.2.2.2) := xmt_at (q := 1) (r := 4) rfl rfl
theorem km25 : xmt 25 = some (1, 2, 3, 2, [], xM25.2.2.2.2.2) := xmt_at (q := 1) (r := 5) rfl rfl
theorem km26 : xmt 26 = some (3, 3, 3, 2, [], xM26.2.2.2.2.2) := xmt_at (q := 1) (r := 6) rfl rfl
theorem km28 : xmt 28 = some (2, 2, 4, 0, [], xM28.2.2.2.2.2) := xmt_at (q := 1) (r := 8) rfl rfl
theorem km29 : xmt 29 = some (3, 3, 4, 0, [], xM29.2.2.2.2.2) := xmt_at (q := 1) (r := 9) rfl rfl
theorem km30 : xmt 30 = some (2, 4, 4, 1, [], xM30.2.2.2.2.2) := xmt_at (q := 1) (r := 10) rfl rfl
theorem km31 : xmt 31 = some (1, 3, 4, 1, [], xM31.2.2.2.2.2) := xmt_at (q := 1) (r := 11) rfl rfl
theorem km33 : xmt 33 = some (4, 7, 5, 0, [], xM33.2.2.2.2.2) := xmt_at (q := 1) (r := 13) rfl rfl
theorem km34 : xmt 34 = some (4, 4, 5, 0, [], xM34.2.2.2.2.2) := xmt_at (q := 1) (r := 14) rfl rfl
theorem km35 : xmt 35 = some (2, 2, 5, 1, [], xM35.2.2.2.2.2) := xmt_at (q := 1) (r := 15) rfl rfl
theorem km36 : xmt 36 = some (2, 2, 5, 1, [], xM36.2.2.2.2.2) := xmt_at (q := 1) (r := 16) rfl rfl
theorem km37 : xmt 37 = some (3, 5, 5, 1, [], xM37.2.2.2.2.2) := xmt_at (q := 1) (r := 17) rfl rfl
theorem km38 : xmt 38 = some (3, 5, 5, 1, [], xM38.2.2.2.2.2) := xmt_at (q := 1) (r := 18) rfl rfl
theorem km39 : xmt 39 = some (3, 3, 5, 2, [], xM39.2.2.2.2.2) := xmt_at (q := 1) (r := 19) rfl rfl
theorem km40 : xmt 40 = some (3, 4, 5, 6, [], xM40.2.2.2.2.2) := xmt_at (q := 2) (r := 0) rfl rfl
theorem km42 : xmt 42 = some (2, 2, 6, 0, [], xM42.2.2.2.2.2) := xmt_at (q := 2) (r := 2) rfl rfl
theorem km43 : xmt 43 = some (3, 3, 6, 0, [], xM43.2.2.2.2.2) := xmt_at (q := 2) (r := 3) rfl rfl
theorem km44 : xmt 44 = some (2, 3, 6, 0, [], xM44.2.2.2.2.2) := xmt_at (q := 2) (r := 4) rfl rfl
theorem km45 : xmt 45 = some (3, 3, 6, 1, [], xM45.2.2.2.2.2) := xmt_at (q := 2) (r := 5) rfl rfl
theorem km46 : xmt 46 = some (3, 5, 6, 1, [], xM46.2.2.2.2.2) := xmt_at (q := 2) (r := 6) rfl rfl
theorem km48 : xmt 48 = some (2, 2, 7, 0, [], xM48.2.2.2.2.2) := xmt_at (q := 2) (r := 8) rfl rfl
theorem km49 : xmt 49 = some (5, 5, 7, 0, [], xM49.2.2.2.2.2) := xmt_at (q := 2) (r := 9) rfl rfl
theorem km50 : xmt 50 = some (2, 2, 7, 1, [], xM50.2.2.2.2.2) := xmt_at (q := 2) (r := 10) rfl rfl
theorem km51 : xmt 51 = some (2, 2, 7, 1, [], xM51.2.2.2.2.2) := xmt_at (q := 2) (r := 11) rfl rfl
theorem km52 : xmt 52 = some (3, 3, 7, 0, [], xM52.2.2.2.2.2) := xmt_at (q := 2) (r := 12) rfl rfl
theorem km53 : xmt 53 = some (2, 3, 7, 0, [], xM53.2.2.2.2.2) := xmt_at (q := 2) (r := 13) rfl rfl
theorem km54 : xmt 54 = some (3, 5, 7, 0, [], xM54.2.2.2.2.2) := xmt_at (q := 2) (r := 14) rfl rfl
theorem km55 : xmt 55 = some (1, 3, 7, 1, [], xM55.2.2.2.2.2) := xmt_at (q := 2) (r := 15) rfl rfl
theorem km56 : xmt 56 = some (2, 4, 7, 1, [], xM56.2.2.2.2.2) := xmt_at (q := 2) (r := 16) rfl rfl
theorem km57 : xmt 57 = some (1, 3, 7, 1, [], xM57.2.2.2.2.2) := xmt_at (q := 2) (r := 17) rfl rfl
theorem km58 : xmt 58 = some (2, 4, 7, 1, [], xM58.2.2.2.2.2) := xmt_at (q := 2) (r := 18) rfl rfl
theorem km59 : xmt 59 = some (1, 3, 7, 1, [], xM59.2.2.2.2.2) := xmt_at (q := 2) (r := 19) rfl rfl
theorem km60 : xmt 60 = some (1, 3, 7, 1, [], xM60.2.2.2.2.2) := xmt_at (q := 3) (r := 0) rfl rfl
theorem km61 : xmt 61 = some (1, 1, 7, 7, [], xM61.2.2.2.2.2) := xmt_at (q := 3) (r := 1) rfl rfl
theorem km62 : xmt 62 = some (2, 4, 7, 1, [], xM62.2.2.2.2.2) := xmt_at (q := 3) (r := 2) rfl rfl
theorem km63 : xmt 63 = some (2, 4, 7, 1, [], xM63.2.2.2.2.2) := xmt_at (q := 3) (r := 3) rfl rfl
theorem km64 : xmt 64 = some (2, 4, 7, 1, [], xM64.2.2.2.2.2) := xmt_at (q := 3) (r := 4) rfl rfl
theorem km65 : xmt 65 = some (2, 4, 7, 1, [], xM65.2.2.2.2.2) := xmt_at (q := 3) (r := 5) rfl rfl
theorem km66 : xmt 66 = some (2, 5, 7, 1, [], xM66.2.2.2.2.2) := xmt_at (q := 3) (r := 6) rfl rfl
theorem km68 : xmt 68 = some (2, 2, 8, 0, [], xM68.2.2.2.2.2) := xmt_at (q := 3) (r := 8) rfl rfl
theorem km69 : xmt 69 = some (1, 2, 8, 0, [], xM69.2.2.2.2.2) := xmt_at (q := 3) (r := 9) rfl rfl
theorem km70 : xmt 70 = some (1, 1, 8, 0, [], xM70.2.2.2.2.2) := xmt_at (q := 3) (r := 10) rfl rfl
theorem km71 : xmt 71 = some (1, 3, 8, 0, [], xM71.2.2.2.2.2) := xmt_at (q := 3) (r := 11) rfl rfl
theorem km72 : xmt 72 = some (1, 2, 8, 0, [], xM72.2.2.2.2.2) := xmt_at (q := 3) (r := 12) rfl rfl
theorem km73 : xmt 73 = some (1, 2, 8, 0, [], xM73.2.2.2.2.2) := xmt_at (q := 3) (r := 13) rfl rfl
theorem km74 : xmt 74 = some (2, 2, 8, 2, [], xM74.2.2.2.2.2) := xmt_at (q := 3) (r := 14) rfl rfl
theorem km75 : xmt 75 = some (2, 2, 8, 0, [], xM75.2.2.2.2.2) := xmt_at (q := 3) (r := 15) rfl rfl
theorem km76 : xmt 76 = some (2, 2, 8, 0, [], xM76.2.2.2.2.2) := xmt_at (q := 3) (r := 16) rfl rfl
theorem km77 : xmt 77 = some (2, 2, 8, 2, [], xM77.2.2.2.2.2) := xmt_at (q := 3) (r := 17) rfl rfl
theorem km78 : xmt 78 = some (3, 3, 8, 0, [], xM78.2.2.2.2.2) := xmt_at (q := 3) (r := 18) rfl rfl
theorem km79 : xmt 79 = some (3, 3, 8, 2, [], xM79.2.2.2.2.2) := xmt_at (q := 3) (r := 19) rfl rfl
theorem km81 : xmt 81 = some (6, 6, 9, 1, [], xM81.2.2.2.2.2) := xmt_at (q := 4) (r := 1) rfl rfl
theorem km82 : xmt 82 = some (2, 3, 9, 0, [], xM82.2.2.2.2.2) := xmt_at (q := 4) (r := 2) rfl rfl
theorem km83 : xmt 83 = some (2, 2, 9, 0, [], xM83.2.2.2.2.2) := xmt_at (q := 4) (r := 3) rfl rfl
theorem km84 : xmt 84 = some (1, 1, 9, 0, [], xM84.2.2.2.2.2) := xmt_at (q := 4) (r := 4) rfl rfl
theorem km85 : xmt 85 = some (1, 1, 9, 0, [], xM85.2.2.2.2.2) := xmt_at (q := 4) (r := 5) rfl rfl
theorem km86 : xmt 86 = some (1, 1, 9, 0, [], xM86.2.2.2.2.2) := xmt_at (q := 4) (r := 6) rfl rfl
theorem km87 : xmt 87 = some (1, 1, 9, 1, [], xM87.2.2.2.2.2) := xmt_at (q := 4) (r := 7) rfl rfl
theorem km88 : xmt 88 = some (2, 3, 9, 1, [], xM88.2.2.2.2.2) := xmt_at (q := 4) (r := 8) rfl rfl
theorem km89 : xmt 89 = some (2, 3, 9, 2, [], xM89.2.2.2.2.2) := xmt_at (q := 4) (r := 9) rfl rfl
theorem km91 : xmt 91 = some (6, 6, 10, 1, [], xM91.2.2.2.2.2) := xmt_at (q := 4) (r := 11) rfl rfl
theorem km92 : xmt 92 = some (2, 3, 10, 1, [], xM92.2.2.2.2.2) := xmt_at (q := 4) (r := 12) rfl rfl
theorem km93 : xmt 93 = some (1, 1, 10, 1, [], xM93.2.2.2.2.2) := xmt_at (q := 4) (r := 13) rfl rfl
theorem km94 : xmt 94 = some (1, 1, 10, 1, [], xM94.2.2.2.2.2) := xmt_at (q := 4) (r := 14) rfl rfl
theorem km95 : xmt 95 = some (1, 1, 10, 1, [], xM95.2.2.2.2.2) := xmt_at (q := 4) (r := 15) rfl rfl
theorem km96 : xmt 96 = some (2, 2, 10, 1, [], xM96.2.2.2.2.2) := xmt_at (q := 4) (r := 16) rfl rfl
theorem km97 : xmt 97 = some (2, 2, 10, 1, [], xM97.2.2.2.2.2) := xmt_at (q := 4) (r := 17) rfl rfl
theorem km98 : xmt 98 = some (3, 4, 10, 1, [], xM98.2.2.2.2.2) := xmt_at (q := 4) (r := 18) rfl rfl
theorem km99 : xmt 99 = some (3, 4, 10, 1, [], xM99.2.2.2.2.2) := xmt_at (q := 4) (r := 19) rfl rfl
theorem km100 : xmt 100 = some (3, 4, 10, 1, [], xM100.2.2.2.2.2) := xmt_at (q := 5) (r := 0) rfl rfl
theorem km101 : xmt 101 = some (3, 4, 10, 1, [], xM101.2.2.2.2.2) := xmt_at (q := 5) (r := 1) rfl rfl
theorem km102 : xmt 102 = some (3, 3, 10, 1, [], xM102.2.2.2.2.2) := xmt_at (q := 5) (r := 2) rfl rfl
theorem km103 : xmt 103 = some (3, 3, 10, 1, [], xM103.2.2.2.2.2) := xmt_at (q := 5) (r := 3) rfl rfl
theorem km104 : xmt 104 = some (2, 2, 10, 1, [], xM104.2.2.2.2.2) := xmt_at (q := 5) (r := 4) rfl rfl
theorem km105 : xmt 105 = some (2, 2, 10, 1, [], xM105.2.2.2.2.2) := xmt_at (q := 5) (r := 5) rfl rfl
theorem km106 : xmt 106 = some (2, 2, 10, 2, [], xM106.2.2.2.2.2) := xmt_at (q := 5) (r := 6) rfl rfl
theorem km107 : xmt 107 = some (2, 2, 10, 6, [], xM107.2.2.2.2.2) := xmt_at (q := 5) (r := 7) rfl rfl
theorem km108 : xmt 108 = some (2, 2, 10, 1, [], xM108.2.2.2.2.2) := xmt_at (q := 5) (r := 8) rfl rfl
theorem km109 : xmt 109 = some (2, 4, 10, 1, [], xM109.2.2.2.2.2) := xmt_at (q := 5) (r := 9) rfl rfl
theorem km110 : xmt 110 = some (3, 3, 10, 1, [], xM110.2.2.2.2.2) := xmt_at (q := 5) (r := 10) rfl rfl
theorem km111 : xmt 111 = some (2, 3, 10, 1, [], xM111.2.2.2.2.2) := xmt_at (q := 5) (r := 11) rfl rfl
theorem km112 : xmt 112 = some (2, 2, 10, 1, [], xM112.2.2.2.2.2) := xmt_at (q := 5) (r := 12) rfl rfl
theorem km113 : xmt 113 = some (2, 3, 10, 1, [], xM113.2.2.2.2.2) := xmt_at (q := 5) (r := 13) rfl rfl
theorem km114 : xmt 114 = some (2, 2, 10, 1, [], xM114.2.2.2.2.2) := xmt_at (q := 5) (r := 14) rfl rfl
theorem km115 : xmt 115 = some (2, 2, 10, 1, [], xM115.2.2.2.2.2) := xmt_at (q := 5) (r := 15) rfl rfl
theorem km116 : xmt 116 = some (1, 3, 10, 1, [], xM116.2.2.2.2.2) := xmt_at (q := 5) (r := 16) rfl rfl
theorem km117 : xmt 117 = some (1, 1, 10, 1, [], xM117.2.2.2.2.2) := xmt_at (q := 5) (r := 17) rfl rfl
theorem km118 : xmt 118 = some (3, 3, 10, 1, [], xM118.2.2.2.2.2) := xmt_at (q := 5) (r := 18) rfl rfl
theorem km119 : xmt 119 = some (1, 5, 10, 1, [], xM119.2.2.2.2.2) := xmt_at (q := 5) (r := 19) rfl rfl
theorem km120 : xmt 120 = some (1, 1, 10, 1, [], xM120.2.2.2.2.2) := xmt_at (q := 6) (r := 0) rfl rfl
theorem km121 : xmt 121 = some (1, 3, 10, 1, [], xM121.2.2.2.2.2) := xmt_at (q := 6) (r := 1) rfl rfl
theorem km122 : xmt 122 = some (1, 3, 10, 1, [], xM122.2.2.2.2.2) := xmt_at (q := 6) (r := 2) rfl rfl
theorem km123 : xmt 123 = some (1, 2, 10, 1, [], xM123.2.2.2.2.2) := xmt_at (q := 6) (r := 3) rfl rfl
theorem km124 : xmt 124 = some (1, 1, 10, 7, [], xM124.2.2.2.2.2) := xmt_at (q := 6) (r := 4) rfl rfl
theorem km125 : xmt 125 = some (1, 1, 10, 5, [], xM125.2.2.2.2.2) := xmt_at (q := 6) (r := 5) rfl rfl
theorem km126 : xmt 126 = some (2, 3, 10, 1, [], xM126.2.2.2.2.2) := xmt_at (q := 6) (r := 6) rfl rfl
theorem km127 : xmt 127 = some (2, 4, 10, 1, [], xM127.2.2.2.2.2) := xmt_at (q := 6) (r := 7) rfl rfl
theorem km128 : xmt 128 = some (3, 3, 10, 1, [], xM128.2.2.2.2.2) := xmt_at (q := 6) (r := 8) rfl rfl
theorem km129 : xmt 129 = some (3, 3, 10, 1, [], xM129.2.2.2.2.2) := xmt_at (q := 6) (r := 9) rfl rfl
theorem km130 : xmt 130 = some (3, 3, 10, 1, [], xM130.2.2.2.2.2) := xmt_at (q := 6) (r := 10) rfl rfl
theorem km131 : xmt 131 = some (2, 2, 10, 1, [], xM131.2.2.2.2.2) := xmt_at (q := 6) (r := 11) rfl rfl
theorem km132 : xmt 132 = some (1, 1, 10, 1, [], xM132.2.2.2.2.2) := xmt_at (q := 6) (r := 12) rfl rfl
theorem km133 : xmt 133 = some (3, 3, 10, 6, [], xM133.2.2.2.2.2) := xmt_at (q := 6) (r := 13) rfl rfl
theorem km134 : xmt 134 = some (3, 6, 10, 6, [], xM134.2.2.2.2.2) := xmt_at (q := 6) (r := 14) rfl rfl
theorem km135 : xmt 135 = some (2, 6, 10, 1, [], xM135.2.2.2.2.2) := xmt_at (q := 6) (r := 15) rfl rfl
theorem km136 : xmt 136 = some (2, 4, 10, 1, [], xM136.2.2.2.2.2) := xmt_at (q := 6) (r := 16) rfl rfl
theorem km137 : xmt 137 = some (1, 2, 10, 1, [], xM137.2.2.2.2.2) := xmt_at (q := 6) (r := 17) rfl rfl
theorem km138 : xmt 138 = some (2, 4, 10, 1, [], xM138.2.2.2.2.2) := xmt_at (q := 6) (r := 18) rfl rfl
theorem km139 : xmt 139 = some (1, 3, 10, 1, [], xM139.2.2.2.2.2) := xmt_at (q := 6) (r := 19) rfl rfl
theorem km140 : xmt 140 = some (1, 2, 10, 1, [], xM140.2.2.2.2.2) := xmt_at (q := 7) (r := 0) rfl rfl
theorem km141 : xmt 141 = some (2, 2, 10, 1, [], xM141.2.2.2.2.2) := xmt_at (q := 7) (r := 1) rfl rfl
theorem km142 : xmt 142 = some (2, 4, 10, 1, [], xM142.2.2.2.2.2) := xmt_at (q := 7) (r := 2) rfl rfl
theorem km143 : xmt 143 = some (2, 2, 10, 1, [], xM143.2.2.2.2.2) := xmt_at (q := 7) (r := 3) rfl rfl
theorem km144 : xmt 144 = some (2, 2, 10, 1, [], xM144.2.2.2.2.2) := xmt_at (q := 7) (r := 4) rfl rfl
theorem km145 : xmt 145 = some (2, 3, 10, 1, [], xM145.2.2.2.2.2) := xmt_at (q := 7) (r := 5) rfl rfl
theorem km146 : xmt 146 = some (3, 3, 10, 1, [], xM146.2.2.2.2.2) := xmt_at (q := 7) (r := 6) rfl rfl
theorem km147 : xmt 147 = some (2, 3, 10, 1, [], xM147.2.2.2.2.2) := xmt_at (q := 7) (r := 7) rfl rfl
theorem km148 : xmt 148 = some (3, 4, 10, 1, [], xM148.2.2.2.2.2) := xmt_at (q := 7) (r := 8) rfl rfl
theorem km149 : xmt 149 = some (3, 3, 10, 1, [], xM149.2.2.2.2.2) := xmt_at (q := 7) (r := 9) rfl rfl
theorem km150 : xmt 150 = some (3, 4, 10, 1, [], xM150.2.2.2.2.2) := xmt_at (q := 7) (r := 10) rfl rfl
theorem km151 : xmt 151 = some (1, 1, 10, 1, [], xM151.2.2.2.2.2) := xmt_at (q := 7) (r := 11) rfl rfl
theorem km152 : xmt 152 = some (1, 1, 10, 1, [], xM152.2.2.2.2.2) := xmt_at (q := 7) (r := 12) rfl rfl
theorem km153 : xmt 153 = some (2, 2, 10, 1, [], xM153.2.2.2.2.2) := xmt_at (q := 7) (r := 13) rfl rfl
theorem km154 : xmt 154 = some (2, 2, 10, 1, [], xM154.2.2.2.2.2) := xmt_at (q := 7) (r := 14) rfl rfl
theorem km155 : xmt 155 = some (1, 1, 10, 0, [], xM155.2.2.2.2.2) := xmt_at (q := 7) (r := 15) rfl rfl
theorem km156 : xmt 156 = some (2, 2, 10, 0, [], xM156.2.2.2.2.2) := xmt_at (q := 7) (r := 16) rfl rfl
theorem km157 : xmt 157 = some (2, 2, 10, 0, [], xM157.2.2.2.2.2) := xmt_at (q := 7) (r := 17) rfl rfl
theorem km158 : xmt 158 = some (2, 2, 99, 0, [], xM158.2.2.2.2.2) := xmt_at (q := 7) (r := 18) rfl rfl
theorem km159 : xmt 159 = some (3, 3, 99, 0, [], xM159.2.2.2.2.2) := xmt_at (q := 7) (r := 19) rfl rfl
theorem km160 : xmt 160 = some (1, 1, 99, 0, [], xM160.2.2.2.2.2) := xmt_at (q := 8) (r := 0) rfl rfl
theorem km161 : xmt 161 = some (2, 2, 10, 8, [], xM161.2.2.2.2.2) := xmt_at (q := 8) (r := 1) rfl rfl
theorem km162 : xmt 162 = some (2, 2, 10, 8, [], xM162.2.2.2.2.2) := xmt_at (q := 8) (r := 2) rfl rfl
theorem km163 : xmt 163 = some (2, 3, 10, 0, [], xM163.2.2.2.2.2) := xmt_at (q := 8) (r := 3) rfl rfl
theorem km164 : xmt 164 = some (2, 3, 10, 1, [], xM164.2.2.2.2.2) := xmt_at (q := 8) (r := 4) rfl rfl
theorem km165 : xmt 165 = some (1, 2, 10, 0, [], xM165.2.2.2.2.2) := xmt_at (q := 8) (r := 5) rfl rfl
theorem km166 : xmt 166 = some (1, 3, 10, 1, [], xM166.2.2.2.2.2) := xmt_at (q := 8) (r := 6) rfl rfl
theorem km167 : xmt 167 = some (1, 3, 10, 1, [], xM167.2.2.2.2.2) := xmt_at (q := 8) (r := 7) rfl rfl
theorem km168 : xmt 168 = some (2, 4, 10, 1, [], xM168.2.2.2.2.2) := xmt_at (q := 8) (r := 8) rfl rfl
theorem km169 : xmt 169 = some (2, 4, 10, 1, [], xM169.2.2.2.2.2) := xmt_at (q := 8) (r := 9) rfl rfl
theorem km170 : xmt 170 = some (1, 4, 99, 1, [], xM170.2.2.2.2.2) := xmt_at (q := 8) (r := 10) rfl rfl
theorem km171 : xmt 171 = some (1, 7, 99, 5, [], xM171.2.2.2.2.2) := xmt_at (q := 8) (r := 11) rfl rfl
theorem km172 : xmt 172 = some (2, 3, 99, 0, [], xM172.2.2.2.2.2) := xmt_at (q := 8) (r := 12) rfl rfl
theorem km383 : xmt 383 = some (1, 1, 99, 1, [], xM383.2.2.2.2.2) := xmt_at (q := 19) (r := 3) rfl rfl
theorem km384 : xmt 384 = some (1, 1, 99, 1, [], xM384.2.2.2.2.2) := xmt_at (q := 19) (r := 4) rfl rfl
theorem km385 : xmt 385 = some (2, 2, 99, 1, [], xM385.2.2.2.2.2) := xmt_at (q := 19) (r := 5) rfl rfl
theorem km386 : xmt 386 = some (2, 2, 99, 1, [], xM386.2.2.2.2.2) := xmt_at (q := 19) (r := 6) rfl rfl
theorem km387 : xmt 387 = some (1, 1, 99, 2, [], xM387.2.2.2.2.2) := xmt_at (q := 19) (r := 7) rfl rfl
theorem km388 : xmt 388 = some (1, 1, 99, 1, [], xM388.2.2.2.2.2) := xmt_at (q := 19) (r := 8) rfl rfl
theorem km389 : xmt 389 = some (1, 2, 99, 2, [], xM389.2.2.2.2.2) := xmt_at (q := 19) (r := 9) rfl rfl
theorem km390 : xmt 390 = some (1, 2, 99, 5, [], xM390.2.2.2.2.2) := xmt_at (q := 19) (r := 10) rfl rfl
theorem km391 : xmt 391 = some (1, 1, 30, 1, [], xM391.2.2.2.2.2) := xmt_at (q := 19) (r := 11) rfl rfl
theorem km392 : xmt 392 = some (2, 2, 30, 4, [], xM392.2.2.2.2.2) := xmt_at (q := 19) (r := 12) rfl rfl
theorem km393 : xmt 393 = some (1, 1, 30, 3, [], xM393.2.2.2.2.2) := xmt_at (q := 19) (r := 13) rfl rfl
theorem km394 : xmt 394 = some (1, 1, 30, 2, [], xM394.2.2.2.2.2) := xmt_at (q := 19) (r := 14) rfl rfl
theorem km395 : xmt 395 = some (2, 2, 99, 0, [], xM395.2.2.2.2.2) := xmt_at (q := 19) (r := 15) rfl rfl
theorem km396 : xmt 396 = some (2, 2, 99, 4, [], xM396.2.2.2.2.2) := xmt_at (q := 19) (r := 16) rfl rfl
theorem km397 : xmt 397 = some (3, 3, 99, 1, [], xM397.2.2.2.2.2) := xmt_at (q := 19) (r := 17) rfl rfl
theorem k1_0 : xM1.2.2.2.2.2[0]? = some ([0, 1], [.aload 0, .getfield 0, .aload 0, .getfield 1, .arraylength, .if_icmp .ge 2, .goto_w 1]) := rfl
theorem k1_1 : xM1.2.2.2.2.2[1]? = some ([0, 1], [.aload 0, .getfield 1, .aload 0, .getfield 0, .iload 1, .iastore, .aload 0, .dup, .getfield 0, .iconst 1, .iadd, .putfield 0, .goto_w 2]) := rfl
theorem k1_2 : xM1.2.2.2.2.2[2]? = some ([], [.return_]) := rfl
theorem k2_0 : xM2.2.2.2.2.2[0]? = some ([0, 1], [.iload 1, .ifCond .ge 2, .goto_w 1]) := rfl
theorem k2_1 : xM2.2.2.2.2.2[1]? = some ([0, 1], [.aload 0, .iconst 45, .invokevirtual 1, .goto_w 2]) := rfl
theorem k2_2 : xM2.2.2.2.2.2[2]? = some ([0, 1], [.iload 1, .invokestatic 384, .istore 2, .iconst 1, .istore 3, .iload 2, .iconst 10, .idiv, .istore 4, .goto_w 3]) := rfl
theorem k2_3 : xM2.2.2.2.2.2[3]? = some ([0, 2, 3, 4], [.iload 4, .ifCond .le 6, .goto_w 4]) := rfl
theorem k2_4 : xM2.2.2.2.2.2[4]? = some ([0, 2, 3, 4], [.iload 3, .iconst 10, .if_icmp .ge 6, .goto_w 5]) := rfl
theorem k2_5 : xM2.2.2.2.2.2[5]? = some ([0, 2, 3, 4], [.iinc 3 1, .iload 4, .iconst 10, .idiv, .istore 4, .goto 3]) := rfl
theorem k2_6 : xM2.2.2.2.2.2[6]? = some ([0, 2, 3], [.aload 0, .getfield 0, .iload 3, .iadd, .istore 4, .iload 4, .aload 0, .getfield 1, .arraylength, .if_icmp .le 8, .goto_w 7]) := rfl
theorem k2_7 : xM2.2.2.2.2.2[7]? = some ([], [.return_]) := rfl
theorem k2_8 : xM2.2.2.2.2.2[8]? = some ([0, 2, 4], [.iload 4, .iconst 1, .isub, .istore 5, .goto_w 9]) := rfl
theorem k2_9 : xM2.2.2.2.2.2[9]? = some ([0, 2, 4, 5], [.iload 5, .aload 0, .getfield 0, .if_icmp .lt 11, .goto_w 10]) := rfl
theorem k2_10 : xM2.2.2.2.2.2[10]? = some ([0, 2, 4, 5], [.aload 0, .getfield 1, .iload 5, .iconst 48, .iload 2, .iconst 10, .irem, .iadd, .iastore, .iload 2, .iconst 10, .idiv, .istore 2, .iinc 5 (-1), .goto 9]) := rfl
theorem k2_11 : xM2.2.2.2.2.2[11]? = some ([0, 4], [.aload 0, .iload 4, .putfield 0, .return_]) := rfl
theorem k4_0 : xM4.2.2.2.2.2[0]? = some ([0, 1], [.aload 0, .aload 1, .getfield 32, .putfield 32, .aload 1, .getfield 33, .aload 0, .getfield 33, .invokestatic 172, .aload 1, .getfield 34, .aload 0, .getfield 34, .invokestatic 172, .aload 1, .getfield 35, .aload 0, .getfield 35, .invokestatic 172, .return_]) := rfl
theorem k5_0 : xM5.2.2.2.2.2[0]? = some ([0, 1, 2, 3], [.aload 0, .getfield 32, .iconst 12, .if_icmp .lt 2, .goto_w 1]) := rfl
theorem k5_1 : xM5.2.2.2.2.2[1]? = some ([], [.return_]) := rfl
theorem k5_2 : xM5.2.2.2.2.2[2]? = some ([0, 1, 2, 3], [.aload 0, .getfield 33, .aload 0, .getfield 32, .iload 1, .iastore, .aload 0, .getfield 34, .aload 0, .getfield 32, .iload 2, .iastore, .aload 0, .getfield 35, .aload 0, .getfield 32, .iload 3, .iastore, .aload 0, .dup, .getfield 32, .iconst 1, .iadd, .putfield 32, .return_]) := rfl
theorem k6_0 : xM6.2.2.2.2.2[0]? = some ([0, 1], [.iload 1, .ifCond .lt 2, .goto_w 1]) := rfl
theorem k6_1 : xM6.2.2.2.2.2[1]? = some ([0, 1], [.iload 1, .aload 0, .getfield 32, .if_icmp .lt 3, .goto_w 2]) := rfl
theorem k6_2 : xM6.2.2.2.2.2[2]? = some ([], [.return_]) := rfl
theorem k6_3 : xM6.2.2.2.2.2[3]? = some ([0, 1], [.iload 1, .istore 2, .goto_w 4]) := rfl
theorem k6_4 : xM6.2.2.2.2.2[4]? = some ([0, 2], [.iload 2, .iconst 1, .iadd, .aload 0, .getfield 32, .if_icmp .ge 6, .goto_w 5]) := rfl
theorem k6_5 : xM6.2.2.2.2.2[5]? = some ([0, 2], [.aload 0, .getfield 33, .iload 2, .aload 0, .getfield 33, .iload 2, .iconst 1, .iadd, .iaload, .iastore, .aload 0, .getfield 34, .iload 2, .aload 0, .getfield 34, .iload 2, .iconst 1, .iadd, .iaload, .iastore, .aload 0, .getfield 35, .iload 2, .aload 0, .getfield 35, .iload 2, .iconst 1, .iadd, .iaload, .iastore, .iinc 2 1, .goto 4]) := rfl
theorem k6_6 : xM6.2.2.2.2.2[6]? = some ([0], [.aload 0, .dup, .getfield 32, .iconst 1, .isub, .putfield 32, .return_]) := rfl
theorem k7_0 : xM7.2.2.2.2.2[0]? = some ([0, 1, 2], [.iconst 0, .istore 3, .iconst 0, .istore 4, .goto_w 1]) := rfl
theorem k7_1 : xM7.2.2.2.2.2[1]? = some ([0, 1, 2, 3, 4], [.iload 4, .aload 0, .getfield 32, .if_icmp .ge 6, .goto_w 2]) := rfl
theorem k7_2 : xM7.2.2.2.2.2[2]? = some ([0, 1, 2, 3, 4], [.aload 0, .getfield 34, .iload 4, .iaload, .iload 1, .if_icmp .lt 5, .goto_w 3]) := rfl
theorem k7_3 : xM7.2.2.2.2.2[3]? = some ([0, 1, 2, 3, 4], [.aload 0, .getfield 34, .iload 4, .iaload, .iload 2, .if_icmp .gt 5, .goto_w 4]) := rfl
theorem k7_4 : xM7.2.2.2.2.2[4]? = some ([0, 1, 2, 3, 4], [.iinc 3 1, .goto_w 5]) := rfl
theorem k7_5 : xM7.2.2.2.2.2[5]? = some ([0, 1, 2, 3, 4], [.iinc 4 1, .goto 1]) := rfl
theorem k7_6 : xM7.2.2.2.2.2[6]? = some ([3], [.iload 3, .ireturn]) := rfl
theorem k8_0 : xM8.2.2.2.2.2[0]? = some ([0, 1, 2], [.iconst (-1), .istore 3, .iconst 0, .istore 4, .goto_w 1]) := rfl
theorem k8_1 : xM8.2.2.2.2.2[1]? = some ([0, 1, 2, 3, 4], [.iload 4, .aload 0, .getfield 32, .if_icmp .ge 11, .goto_w 2]) := rfl
theorem k8_2 : xM8.2.2.2.2.2[2]? = some ([0, 1, 2, 3, 4], [.aload 0, .getfield 34, .iload 4, .iaload, .iload 1, .if_icmp .lt 5, .goto_w 3]) := rfl
theorem k8_3 : xM8.2.2.2.2.2[3]? = some ([0, 1, 2, 3, 4], [.aload 0, .getfield 34, .iload 4, .iaload, .iload 2, .if_icmp .gt 5, .goto_w 4]) := rfl
theorem k8_4 : xM8.2.2.2.2.2[4]? = some ([0, 1, 2, 3, 4], [.iconst 1, .goto 6]) := rfl
theorem k8_5 : xM8.2.2.2.2.2[5]? = some ([0, 1, 2, 3, 4], [.iconst 0, .goto_w 6]) := rfl
theorem k8_6 : xM8.2.2.2.2.2[6]? = some ([0, 1, 2, 3, 4], [.istore 5, .iload 5, .ifCond .eq 10, .goto_w 7]) := rfl
theorem k8_7 : xM8.2.2.2.2.2[7]? = some ([0, 1, 2, 3, 4], [.iload 3, .iconst (-1), .if_icmp .eq 9, .goto_w 8]) := rfl
theorem k8_8 : xM8.2.2.2.2.2[8]? = some ([0, 1, 2, 3, 4], [.aload 0, .getfield 34, .iload 4, .iaload, .aload 0, .getfield 34, .iload 3, .iaload, .if_icmp .le 10, .goto_w 9]) := rfl
theorem k8_9 : xM8.2.2.2.2.2[9]? = some ([0, 1, 2, 4], [.iload 4, .istore 3, .goto_w 10]) := rfl
theorem k8_10 : xM8.2.2.2.2.2[10]? = some ([0, 1, 2, 3, 4], [.iinc 4 1, .goto 1]) := rfl
theorem k8_11 : xM8.2.2.2.2.2[11]? = some ([3], [.iload 3, .ireturn]) := rfl
theorem k9_0 : xM9.2.2.2.2.2[0]? = some ([0, 1], [.iconst 0, .istore 2, .iconst 0, .istore 3, .goto_w 1]) := rfl
theorem k9_1 : xM9.2.2.2.2.2[1]? = some ([0, 1, 2, 3], [.iload 3, .aload 0, .getfield 32, .if_icmp .ge 5, .goto_w 2]) := rfl
theorem k9_2 : xM9.2.2.2.2.2[2]? = some ([0, 1, 2, 3], [.aload 0, .getfield 33, .iload 3, .iaload, .iload 1, .if_icmp .ne 4, .goto_w 3]) := rfl
theorem k9_3 : xM9.2.2.2.2.2[3]? = some ([0, 1, 2, 3], [.iinc 2 1, .goto_w 4]) := rfl
theorem k9_4 : xM9.2.2.2.2.2[4]? = some ([0, 1, 2, 3], [.iinc 3 1, .goto 1]) := rfl
theorem k9_5 : xM9.2.2.2.2.2[5]? = some ([2], [.iload 2, .ireturn]) := rfl
theorem k11_0 : xM11.2.2.2.2.2[0]? = some ([0], [.aload 0, .iconst 0, .putfield 64, .aload 0, .iconst 0, .putfield 65, .return_]) := rfl
theorem k12_0 : xM12.2.2.2.2.2[0]? = some ([0], [.iconst 0, .istore 1, .goto_w 1]) := rfl
theorem k12_1 : xM12.2.2.2.2.2[1]? = some ([0, 1], [.iload 1, .aload 0, .getfield 68, .arraylength, .if_icmp .ge 3, .goto_w 2]) := rfl
theorem k12_2 : xM12.2.2.2.2.2[2]? = some ([0, 1], [.aload 0, .getfield 68, .iload 1, .iconst 0, .bastore, .iinc 1 1, .goto 1]) := rfl
theorem k12_3 : xM12.2.2.2.2.2[3]? = some ([], [.return_]) := rfl
theorem k13_0 : xM13.2.2.2.2.2[0]? = some ([0, 1], [.aload 1, .aload 0, .getfield 66, .aload 0, .getfield 64, .aload 0, .getfield 65, .iadd, .iconst 8, .irem, .aaload, .invokestatic 17, .aload 0, .getfield 65, .iconst 8, .if_icmp .ge 2, .goto_w 1]) := rfl
theorem k13_1 : xM13.2.2.2.2.2[1]? = some ([0], [.aload 0, .dup, .getfield 65, .iconst 1, .iadd, .putfield 65, .goto 3]) := rfl
theorem k13_2 : xM13.2.2.2.2.2[2]? = some ([0], [.aload 0, .aload 0, .getfield 64, .iconst 1, .iadd, .iconst 8, .irem, .putfield 64, .goto_w 3]) := rfl
theorem k13_3 : xM13.2.2.2.2.2[3]? = some ([], [.return_]) := rfl
theorem k14_0 : xM14.2.2.2.2.2[0]? = some ([0, 1], [.aload 0, .getfield 65, .ifCond .le 2, .goto_w 1]) := rfl
theorem k14_1 : xM14.2.2.2.2.2[1]? = some ([0, 1], [.aload 0, .dup, .getfield 65, .iconst 1, .isub, .putfield 65, .aload 0, .getfield 66, .aload 0, .getfield 64, .aload 0, .getfield 65, .iadd, .iconst 8, .irem, .aaload, .aload 1, .invokestatic 17, .goto_w 2]) := rfl
theorem k14_2 : xM14.2.2.2.2.2[2]? = some ([], [.return_]) := rfl
theorem k15_0 : xM15.2.2.2.2.2[0]? = some ([0, 1, 2], [.aload 2, .aload 0, .getfield 67, .iload 1, .aaload, .invokestatic 17, .aload 0, .getfield 68, .iload 1, .iconst 1, .bastore, .return_]) := rfl
theorem k16_0 : xM16.2.2.2.2.2[0]? = some ([0, 1, 2], [.aload 0, .getfield 67, .iload 1, .aaload, .aload 2, .invokestatic 17, .return_]) := rfl
theorem k17_0 : xM17.2.2.2.2.2[0]? = some ([0, 1], [.aload 0, .ifnull 3, .goto_w 1]) := rfl
theorem k17_1 : xM17.2.2.2.2.2[1]? = some ([0, 1], [.aload 1, .ifnull 3, .goto_w 2]) := rfl
theorem k17_2 : xM17.2.2.2.2.2[2]? = some ([0, 1], [.aload 1, .aload 0, .invokevirtual 68, .goto_w 3]) := rfl
theorem k17_3 : xM17.2.2.2.2.2[3]? = some ([], [.return_]) := rfl
theorem k19_0 : xM19.2.2.2.2.2[0]? = some ([0, 1], [.aload 0, .iconst 0, .putfield 99, .aload 0, .iconst (-1), .putfield 100, .aload 0, .getfield 97, .invokevirtual 69, .aload 0, .getfield 98, .iconst 0, .putfield 192, .aload 0, .getfield 96, .iload 1, .invokevirtual 83, .aload 0, .invokevirtual 21, .ifCond .ne 2, .goto_w 1]) := rfl
theorem k19_1 : xM19.2.2.2.2.2[1]? = some ([], [.iconst 0, .ireturn]) := rfl
theorem k19_2 : xM19.2.2.2.2.2[2]? = some ([0], [.aload 0, .getfield 96, .invokevirtual 84, .iconst 0, .istore 2, .goto_w 3]) := rfl
theorem k19_3 : xM19.2.2.2.2.2[3]? = some ([0, 2], [.iload 2, .iconst 700, .if_icmp .ge 8, .goto_w 4]) := rfl
theorem k19_4 : xM19.2.2.2.2.2[4]? = some ([0, 2], [.aload 0, .getfield 96, .getfield 293, .iconst 3, .if_icmp .ne 8, .goto_w 5]) := rfl
theorem k19_5 : xM19.2.2.2.2.2[5]? = some ([0, 2], [.aload 0, .invokevirtual 22, .ifCond .ne 7, .goto_w 6]) := rfl
theorem k19_6 : xM19.2.2.2.2.2[6]? = some ([], [.iconst 0, .ireturn]) := rfl
theorem k19_7 : xM19.2.2.2.2.2[7]? = some ([0, 2], [.aload 0, .getfield 96, .invokevirtual 84, .iinc 2 1, .goto 3]) := rfl
theorem k19_8 : xM19.2.2.2.2.2[8]? = some ([0], [.aload 0, .getfield 96, .getfield 293, .ifCond .eq 10, .goto_w 9]) := rfl
theorem k19_9 : xM19.2.2.2.2.2[9]? = some ([0], [.aload 0, .iconst 1, .invokevirtual 20, .ifCond .eq 11, .goto_w 10]) := rfl
theorem k19_10 : xM19.2.2.2.2.2[10]? = some ([], [.iconst 1, .goto 12]) := rfl
theorem k19_11 : xM19.2.2.2.2.2[11]? = some ([], [.iconst 0, .goto_w 12]) := rfl
theorem k19_12 : xM19.2.2.2.2.2[12]? = some ([], [.ireturn]) := rfl
theorem k20_0 : xM20.2.2.2.2.2[0]? = some ([0, 1], [.aload 0, .iload 1, .putfield 99, .aload 0, .aload 0, .getfield 96, .getfield 291, .putfield 100, .iconst 0, .ireturn]) := rfl
theorem k21_0 : xM21.2.2.2.2.2[0]? = some ([0], [.aload 0, .getfield 96, .invokevirtual 84, .aload 0, .getfield 96, .ldc 1, .invokevirtual 89, .ifCond .ne 2, .goto_w 1]) := rfl
theorem k21_1 : xM21.2.2.2.2.2[1]? = some ([0], [.aload 0, .iconst 1, .invokevirtual 20, .ireturn]) := rfl
theorem k21_2 : xM21.2.2.2.2.2[2]? = some ([0], [.iconst 0, .istore 1, .goto_w 3]) := rfl
theorem k21_3 : xM21.2.2.2.2.2[3]? = some ([0, 1], [.iload 1, .iconst 6, .if_icmp .ge 7, .goto_w 4]) := rfl
theorem k21_4 : xM21.2.2.2.2.2[4]? = some ([0, 1], [.aload 0, .getstatic 0, .iload 1, .iaload, .getstatic 1, .iload 1, .iaload, .invokevirtual 26, .ifCond .ne 6, .goto_w 5]) := rfl
theorem k21_5 : xM21.2.2.2.2.2[5]? = some ([], [.iconst 0, .ireturn]) := rfl
theorem k21_6 : xM21.2.2.2.2.2[6]? = some ([0, 1], [.aload 0, .getfield 97, .getfield 260, .iload 1, .aload 0, .getfield 96, .getfield 294, .iastore, .iinc 1 1, .goto 3]) := rfl
theorem k21_7 : xM21.2.2.2.2.2[7]? = some ([], [.iconst 1, .ireturn]) := rfl
theorem k22_0 : xM22.2.2.2.2.2[0]? = some ([0], [.aload 0, .getfield 96, .invokevirtual 84, .aload 0, .getfield 96, .ldc 2, .invokevirtual 89, .ifCond .eq 5, .goto_w 1]) := rfl
theorem k22_1 : xM22.2.2.2.2.2[1]? = some ([0], [.aload 0, .getfield 97, .getfield 262, .getfield 224, .iconst 12, .if_icmp .ge 3, .goto_w 2]) := rfl
theorem k22_2 : xM22.2.2.2.2.2[2]? = some ([0], [.aload 0, .invokevirtual 23, .goto 4]) := rfl
theorem k22_3 : xM22.2.2.2.2.2[3]? = some ([0], [.aload 0, .iconst 4, .invokevirtual 20, .goto_w 4]) := rfl
theorem k22_4 : xM22.2.2.2.2.2[4]? = some ([], [.ireturn]) := rfl
theorem k22_5 : xM22.2.2.2.2.2[5]? = some ([0], [.aload 0, .getfield 96, .ldc 3, .invokevirtual 89, .ifCond .eq 10, .goto_w 6]) := rfl
theorem k22_6 : xM22.2.2.2.2.2[6]? = some ([0], [.aload 0, .getfield 98, .getfield 192, .iconst 6, .if_icmp .ge 8, .goto_w 7]) := rfl
theorem k22_7 : xM22.2.2.2.2.2[7]? = some ([0], [.aload 0, .invokevirtual 24, .goto 9]) := rfl
theorem k22_8 : xM22.2.2.2.2.2[8]? = some ([0], [.aload 0, .iconst 4, .invokevirtual 20, .goto_w 9]) := rfl
theorem k22_9 : xM22.2.2.2.2.2[9]? = some ([], [.ireturn]) := rfl
theorem k22_10 : xM22.2.2.2.2.2[10]? = some ([0], [.aload 0, .getfield 96, .ldc 6, .invokevirtual 89, .ifCond .eq 15, .goto_w 11]) := rfl
theorem k22_11 : xM22.2.2.2.2.2[11]? = some ([0], [.aload 0, .getfield 97, .getfield 264, .getfield 128, .iconst 12, .if_icmp .ge 13, .goto_w 12]) := rfl
theorem k22_12 : xM22.2.2.2.2.2[12]? = some ([0], [.aload 0, .invokevirtual 25, .goto 14]) := rfl
theorem k22_13 : xM22.2.2.2.2.2[13]? = some ([0], [.aload 0, .iconst 4, .invokevirtual 20, .goto_w 14]) := rfl
theorem k22_14 : xM22.2.2.2.2.2[14]? = some ([], [.ireturn]) := rfl
theorem k22_15 : xM22.2.2.2.2.2[15]? = some ([0], [.aload 0, .iconst 1, .invokevirtual 20, .ireturn]) := rfl
theorem k23_0 : xM23.2.2.2.2.2[0]? = some ([0], [.aload 0, .getfield 96, .invokevirtual 84, .aload 0, .getfield 96, .invokevirtual 87, .iconst 1, .if_icmp .eq 2, .goto_w 1]) := rfl
theorem k23_1 : xM23.2.2.2.2.2[1]? = some ([0], [.aload 0, .iconst 1, .invokevirtual 20, .ireturn]) := rfl
theorem k23_2 : xM23.2.2.2.2.2[2]? = some ([0], [.aload 0, .getfield 96, .iconst 0, .invokevirtual 88, .iconst 96, .isub, .istore 1, .aload 0, .iconst 1, .iconst 200, .invokevirtual 26, .ifCond .ne 4, .goto_w 3]) := rfl
theorem k23_3 : xM23.2.2.2.2.2[3]? = some ([], [.iconst 0, .ireturn]) := rfl
theorem k23_4 : xM23.2.2.2.2.2[4]? = some ([0, 1], [.aload 0, .getfield 96, .getfield 294, .istore 2, .aload 0, .iconst 0, .iconst 20, .invokevirtual 26, .ifCond .ne 6, .goto_w 5]) := rfl
theorem k23_5 : xM23.2.2.2.2.2[5]? = some ([], [.iconst 0, .ireturn]) := rfl
theorem k23_6 : xM23.2.2.2.2.2[6]? = some ([0, 1, 2], [.aload 0, .getfield 97, .getfield 262, .iload 1, .iload 2, .aload 0, .getfield 96, .getfield 294, .aload 0, .getfield 97, .getfield 260, .iconst 0, .iaload, .invokevirtual 49, .iconst 1, .ireturn]) := rfl
theorem k24_0 : xM24.2.2.2.2.2[0]? = some ([0], [.aload 0, .getfield 96, .invokevirtual 84, .aload 0, .getfield 96, .ldc 4, .invokevirtual 89, .istore 1, .iload 1, .ifCond .ne 3, .goto_w 1]) := rfl
theorem k24_1 : xM24.2.2.2.2.2[1]? = some ([0, 1], [.aload 0, .getfield 96, .ldc 5, .invokevirtual 89, .ifCond .ne 3, .goto_w 2]) := rfl
theorem k24_2 : xM24.2.2.2.2.2[2]? = some ([0], [.aload 0, .iconst 1, .invokevirtual 20, .ireturn]) := rfl
theorem k24_3 : xM24.2.2.2.2.2[3]? = some ([0, 1], [.aload 0, .iconst 0, .iconst 9999, .invokevirtual 26, .ifCond .ne 5, .goto_w 4]) := rfl
theorem k24_4 : xM24.2.2.2.2.2[4]? = some ([], [.iconst 0, .ireturn]) := rfl
theorem k24_5 : xM24.2.2.2.2.2[5]? = some ([0, 1], [.aload 0, .getfield 96, .getfield 294, .istore 2, .aload 0, .getfield 96, .invokevirtual 84, .aload 0, .getfield 96, .getfield 293, .iconst 1, .if_icmp .eq 7, .goto_w 6]) := rfl
theorem k24_6 : xM24.2.2.2.2.2[6]? = some ([0], [.aload 0, .iconst 1, .invokevirtual 20, .ireturn]) := rfl
theorem k24_7 : xM24.2.2.2.2.2[7]? = some ([0, 1, 2], [.aload 0, .getfield 98, .iload 1, .ifCond .eq 9, .goto_w 8]) := rfl
theorem k24_8 : xM24.2.2.2.2.2[8]? = some ([0, 2], [.iconst 1, .goto 10]) := rfl
theorem k24_9 : xM24.2.2.2.2.2[9]? = some ([0, 2], [.iconst 0, .goto_w 10]) := rfl
theorem k24_10 : xM24.2.2.2.2.2[10]? = some ([0, 2], [.iload 2, .invokevirtual 43, .iconst 0, .istore 3, .goto_w 11]) := rfl
theorem k24_11 : xM24.2.2.2.2.2[11]? = some ([0, 3], [.iload 3, .aload 0, .getfield 96, .invokevirtual 87, .if_icmp .ge 13, .goto_w 12]) := rfl
theorem k24_12 : xM24.2.2.2.2.2[12]? = some ([0, 3], [.aload 0, .getfield 98, .aload 0, .getfield 96, .iload 3, .invokevirtual 88, .invokevirtual 44, .iinc 3 1, .goto 11]) := rfl
theorem k24_13 : xM24.2.2.2.2.2[13]? = some ([], [.iconst 1, .ireturn]) := rfl
theorem k25_0 : xM25.2.2.2.2.2[0]? = some ([0], [.aload 0, .iconst 1, .iconst 5000, .invokevirtual 26, .ifCond .ne 2, .goto_w 1]) := rfl
theorem k25_1 : xM25.2.2.2.2.2[1]? = some ([], [.iconst 0, .ireturn]) := rfl
theorem k25_2 : xM25.2.2.2.2.2[2]? = some ([0], [.aload 0, .getfield 96, .getfield 294, .istore 1, .aload 0, .iconst 0, .aload 0, .getfield 97, .getfield 262, .getfield 224, .iconst 2, .isub, .invokevirtual 26, .ifCond .ne 4, .goto_w 3]) := rfl
theorem k25_3 : xM25.2.2.2.2.2[3]? = some ([], [.iconst 0, .ireturn]) := rfl
theorem k25_4 : xM25.2.2.2.2.2[4]? = some ([0, 1], [.aload 0, .getfield 97, .getfield 264, .iload 1, .aload 0, .getfield 96, .getfield 294, .invokevirtual 29, .iconst 1, .ireturn]) := rfl
theorem k26_0 : xM26.2.2.2.2.2[0]? = some ([0, 1, 2], [.aload 0, .getfield 96, .invokevirtual 84, .aload 0, .getfield 96, .getfield 293, .iconst 2, .if_icmp .eq 2, .goto_w 1]) := rfl
theorem k26_1 : xM26.2.2.2.2.2[1]? = some ([0], [.aload 0, .iconst 1, .invokevirtual 20, .ireturn]) := rfl
theorem k26_2 : xM26.2.2.2.2.2[2]? = some ([0, 1, 2], [.aload 0, .getfield 96, .getfield 294, .iload 1, .if_icmp .lt 4, .goto_w 3]) := rfl
theorem k26_3 : xM26.2.2.2.2.2[3]? = some ([0, 2], [.aload 0, .getfield 96, .getfield 294, .iload 2, .if_icmp .le 5, .goto_w 4]) := rfl
theorem k26_4 : xM26.2.2.2.2.2[4]? = some ([0], [.aload 0, .iconst 2, .invokevirtual 20, .ireturn]) := rfl
theorem k26_5 : xM26.2.2.2.2.2[5]? = some ([], [.iconst 1, .ireturn]) := rfl
theorem k28_0 : xM28.2.2.2.2.2[0]? = some ([0, 1], [.aload 0, .aload 1, .getfield 128, .putfield 128, .aload 1, .getfield 129, .aload 0, .getfield 129, .invokestatic 172, .aload 1, .getfield 130, .aload 0, .getfield 130, .invokestatic 172, .aload 1, .getfield 131, .aload 0, .getfield 131, .invokestatic 172, .return_]) := rfl
theorem k29_0 : xM29.2.2.2.2.2[0]? = some ([0, 1, 2], [.aload 0, .getfield 128, .iconst 12, .if_icmp .lt 2, .goto_w 1]) := rfl
theorem k29_1 : xM29.2.2.2.2.2[1]? = some ([], [.return_]) := rfl
theorem k29_2 : xM29.2.2.2.2.2[2]? = some ([0, 1, 2], [.aload 0, .getfield 129, .aload 0, .getfield 128, .iload 1, .iastore, .aload 0, .getfield 130, .aload 0, .getfield 128, .iload 2, .iastore, .aload 0, .getfield 131, .aload 0, .getfield 128, .iconst 0, .iastore, .aload 0, .dup, .getfield 128, .iconst 1, .iadd, .putfield 128, .return_]) := rfl
theorem k30_0 : xM30.2.2.2.2.2[0]? = some ([0, 1], [.iconst 0, .istore 2, .iconst 0, .istore 3, .goto_w 1]) := rfl
theorem k30_1 : xM30.2.2.2.2.2[1]? = some ([0, 1, 2, 3], [.iload 3, .aload 0, .getfield 128, .if_icmp .ge 5, .goto_w 2]) := rfl
theorem k30_2 : xM30.2.2.2.2.2[2]? = some ([0, 1, 2, 3], [.aload 0, .getfield 131, .iload 3, .iaload, .iload 1, .if_icmp .ne 4, .goto_w 3]) := rfl
theorem k30_3 : xM30.2.2.2.2.2[3]? = some ([0, 1, 2, 3], [.iinc 2 1, .goto_w 4]) := rfl
theorem k30_4 : xM30.2.2.2.2.2[4]? = some ([0, 1, 2, 3], [.iinc 3 1, .goto 1]) := rfl
theorem k30_5 : xM30.2.2.2.2.2[5]? = some ([2], [.iload 2, .ireturn]) := rfl
theorem k31_0 : xM31.2.2.2.2.2[0]? = some ([0], [.iconst (-1), .istore 1, .iconst 0, .istore 2, .goto_w 1]) := rfl
theorem k31_1 : xM31.2.2.2.2.2[1]? = some ([0, 1, 2], [.iload 2, .aload 0, .getfield 128, .if_icmp .ge 7, .goto_w 2]) := rfl
theorem k31_2 : xM31.2.2.2.2.2[2]? = some ([0, 1, 2], [.aload 0, .getfield 131, .iload 2, .iaload, .ifCond .ne 6, .goto_w 3]) := rfl
theorem k31_3 : xM31.2.2.2.2.2[3]? = some ([0, 1, 2], [.iload 1, .iconst (-1), .if_icmp .eq 5, .goto_w 4]) := rfl
theorem k31_4 : xM31.2.2.2.2.2[4]? = some ([0, 1, 2], [.aload 0, .getfield 129, .iload 2, .iaload, .aload 0, .getfield 129, .iload 1, .iaload, .if_icmp .ge 6, .goto_w 5]) := rfl
theorem k31_5 : xM31.2.2.2.2.2[5]? = some ([0, 2], [.iload 2, .istore 1, .goto_w 6]) := rfl
theorem k31_6 : xM31.2.2.2.2.2[6]? = some ([0, 1, 2], [.iinc 2 1, .goto 1]) := rfl
theorem k31_7 : xM31.2.2.2.2.2[7]? = some ([1], [.iload 1, .ireturn]) := rfl
theorem k33_0 : xM33.2.2.2.2.2[0]? = some ([0, 1, 2, 3], [.aload 0, .iconst 0, .putfield 160, .aload 0, .iconst 0, .putfield 161, .aload 1, .getfield 262, .astore 4, .iconst 0, .istore 5, .goto_w 1]) := rfl
theorem k33_1 : xM33.2.2.2.2.2[1]? = some ([0, 1, 2, 3, 4, 5], [.iload 5, .aload 4, .getfield 224, .if_icmp .ge 8, .goto_w 2]) := rfl
theorem k33_2 : xM33.2.2.2.2.2[2]? = some ([0, 1, 2, 3, 4, 5], [.aload 2, .getfield 193, .iload 3, .iaload, .iconst 1, .if_icmp .ne 4, .goto_w 3]) := rfl
theorem k33_3 : xM33.2.2.2.2.2[3]? = some ([0, 1, 2, 3, 4, 5], [.aload 4, .getfield 224, .iconst 1, .isub, .iload 5, .isub, .goto 5]) := rfl
theorem k33_4 : xM33.2.2.2.2.2[4]? = some ([0, 1, 2, 3, 4, 5], [.iload 5, .goto_w 5]) := rfl
theorem k33_5 : xM33.2.2.2.2.2[5]? = some ([0, 1, 2, 3, 4, 5], [.istore 6, .aload 1, .iload 6, .aload 2, .getfield 194, .iload 3, .iaload, .invokevirtual 79, .ifCond .eq 7, .goto_w 6]) := rfl
theorem k33_6 : xM33.2.2.2.2.2[6]? = some ([0, 1, 2, 3, 4, 5, 6], [.aload 0, .aload 4, .iload 6, .aload 1, .getfield 260, .iconst 2, .iaload, .invokevirtual 34, .goto_w 7]) := rfl
theorem k33_7 : xM33.2.2.2.2.2[7]? = some ([0, 1, 2, 3, 4, 5], [.iinc 5 1, .goto 1]) := rfl
theorem k33_8 : xM33.2.2.2.2.2[8]? = some ([], [.return_]) := rfl
theorem k34_0 : xM34.2.2.2.2.2[0]? = some ([0, 1, 2, 3], [.aload 0, .getfield 161, .aload 0, .getfield 163, .arraylength, .if_icmp .ge 2, .goto_w 1]) := rfl
theorem k34_1 : xM34.2.2.2.2.2[1]? = some ([0, 1, 2, 3], [.aload 0, .getfield 160, .iconst 1, .iadd, .aload 0, .getfield 162, .arraylength, .if_icmp .lt 3, .goto_w 2]) := rfl
theorem k34_2 : xM34.2.2.2.2.2[2]? = some ([], [.return_]) := rfl
theorem k34_3 : xM34.2.2.2.2.2[3]? = some ([0, 1, 2, 3], [.aload 0, .getfield 161, .ifCond .le 6, .goto_w 4]) := rfl
theorem k34_4 : xM34.2.2.2.2.2[4]? = some ([0, 1, 2, 3], [.aload 1, .getfield 230, .iload 2, .iaload, .aload 1, .getfield 230, .aload 0, .getfield 163, .aload 0, .getfield 161, .iconst 1, .isub, .iaload, .iaload, .isub, .invokestatic 384, .iload 3, .if_icmp .le 6, .goto_w 5]) := rfl
theorem k34_5 : xM34.2.2.2.2.2[5]? = some ([0, 1, 2], [.aload 0, .getfield 162, .aload 0, .getfield 160, .iconst 32, .iastore, .aload 0, .dup, .getfield 160, .iconst 1, .iadd, .putfield 160, .goto_w 6]) := rfl
theorem k34_6 : xM34.2.2.2.2.2[6]? = some ([0, 1, 2], [.aload 0, .getfield 162, .aload 0, .getfield 160, .iconst 96, .aload 1, .getfield 229, .iload 2, .iaload, .iadd, .iastore, .aload 0, .dup, .getfield 160, .iconst 1, .iadd, .putfield 160, .aload 0, .getfield 163, .aload 0, .getfield 161, .iload 2, .iastore, .aload 0, .dup, .getfield 161, .iconst 1, .iadd, .putfield 161, .return_]) := rfl
theorem k35_0 : xM35.2.2.2.2.2[0]? = some ([0, 1], [.iload 1, .ifCond .lt 3, .goto_w 1]) := rfl
theorem k35_1 : xM35.2.2.2.2.2[1]? = some ([0, 1], [.iload 1, .aload 0, .getfield 160, .if_icmp .ge 3, .goto_w 2]) := rfl
theorem k35_2 : xM35.2.2.2.2.2[2]? = some ([0, 1], [.aload 0, .getfield 162, .iload 1, .iaload, .goto 4]) := rfl
theorem k35_3 : xM35.2.2.2.2.2[3]? = some ([], [.iconst (-1), .goto_w 4]) := rfl
theorem k35_4 : xM35.2.2.2.2.2[4]? = some ([], [.ireturn]) := rfl
theorem k36_0 : xM36.2.2.2.2.2[0]? = some ([0, 1], [.iload 1, .ifCond .lt 3, .goto_w 1]) := rfl
theorem k36_1 : xM36.2.2.2.2.2[1]? = some ([0, 1], [.iload 1, .aload 0, .getfield 161, .if_icmp .ge 3, .goto_w 2]) := rfl
theorem k36_2 : xM36.2.2.2.2.2[2]? = some ([0, 1], [.aload 0, .getfield 163, .iload 1, .iaload, .goto 4]) := rfl
theorem k36_3 : xM36.2.2.2.2.2[3]? = some ([], [.iconst (-1), .goto_w 4]) := rfl
theorem k36_4 : xM36.2.2.2.2.2[4]? = some ([], [.ireturn]) := rfl
theorem k37_0 : xM37.2.2.2.2.2[0]? = some ([0, 1, 2], [.iconst 0, .istore 3, .iconst 0, .istore 4, .goto_w 1]) := rfl
theorem k37_1 : xM37.2.2.2.2.2[1]? = some ([0, 1, 2, 3, 4], [.iload 4, .aload 0, .getfield 160, .if_icmp .ge 6, .goto_w 2]) := rfl
theorem k37_2 : xM37.2.2.2.2.2[2]? = some ([0, 1, 2, 3, 4], [.iload 4, .aload 1, .getfield 195, .iload 2, .iaload, .if_icmp .ge 6, .goto_w 3]) := rfl
theorem k37_3 : xM37.2.2.2.2.2[3]? = some ([0, 1, 2, 3, 4], [.aload 0, .getfield 162, .iload 4, .iaload, .aload 1, .iload 2, .iload 4, .invokevirtual 45, .if_icmp .ne 5, .goto_w 4]) := rfl
theorem k37_4 : xM37.2.2.2.2.2[4]? = some ([0, 1, 2, 3, 4], [.iinc 3 1, .goto_w 5]) := rfl
theorem k37_5 : xM37.2.2.2.2.2[5]? = some ([0, 1, 2, 3, 4], [.iinc 4 1, .goto 1]) := rfl
theorem k37_6 : xM37.2.2.2.2.2[6]? = some ([3], [.iload 3, .ireturn]) := rfl
theorem k38_0 : xM38.2.2.2.2.2[0]? = some ([0, 1, 2], [.aload 0, .getfield 160, .aload 1, .getfield 195, .iload 2, .iaload, .invokestatic 386, .istore 3, .iconst 0, .istore 4, .goto_w 1]) := rfl
theorem k38_1 : xM38.2.2.2.2.2[1]? = some ([0, 1, 2, 3, 4], [.iload 4, .iload 3, .if_icmp .ge 5, .goto_w 2]) := rfl
theorem k38_2 : xM38.2.2.2.2.2[2]? = some ([0, 1, 2, 3, 4], [.aload 0, .getfield 162, .iload 4, .iaload, .aload 1, .iload 2, .iload 4, .invokevirtual 45, .if_icmp .eq 4, .goto_w 3]) := rfl
theorem k38_3 : xM38.2.2.2.2.2[3]? = some ([4], [.iload 4, .ireturn]) := rfl
theorem k38_4 : xM38.2.2.2.2.2[4]? = some ([0, 1, 2, 3, 4], [.iinc 4 1, .goto 1]) := rfl
theorem k38_5 : xM38.2.2.2.2.2[5]? = some ([3], [.iload 3, .ireturn]) := rfl
theorem k39_0 : xM39.2.2.2.2.2[0]? = some ([0, 1, 2], [.aload 0, .getfield 160, .aload 1, .getfield 195, .iload 2, .iaload, .if_icmp .ne 3, .goto_w 1]) := rfl
theorem k39_1 : xM39.2.2.2.2.2[1]? = some ([0, 1, 2], [.aload 0, .aload 1, .iload 2, .invokevirtual 37, .aload 0, .getfield 160, .if_icmp .ne 3, .goto_w 2]) := rfl
theorem k39_2 : xM39.2.2.2.2.2[2]? = some ([], [.iconst 1, .goto 4]) := rfl
theorem k39_3 : xM39.2.2.2.2.2[3]? = some ([], [.iconst 0, .goto_w 4]) := rfl
theorem k39_4 : xM39.2.2.2.2.2[4]? = some ([], [.ireturn]) := rfl
theorem k40_0 : xM40.2.2.2.2.2[0]? = some ([0, 1, 2], [.aload 0, .getfield 160, .aload 1, .getfield 195, .iload 2, .iaload, .invokestatic 385, .istore 3, .iload 3, .ifCond .le 2, .goto_w 1]) := rfl
theorem k40_1 : xM40.2.2.2.2.2[1]? = some ([0, 1, 2, 3], [.aload 0, .aload 1, .iload 2, .invokevirtual 37, .i2f, .iload 3, .i2f, .fdiv, .goto 3]) := rfl
theorem k40_2 : xM40.2.2.2.2.2[2]? = some ([], [.fconst 0, .goto_w 3]) := rfl
theorem k40_3 : xM40.2.2.2.2.2[3]? = some ([], [.freturn]) := rfl
theorem k42_0 : xM42.2.2.2.2.2[0]? = some ([0, 1], [.aload 0, .aload 1, .getfield 192, .putfield 192, .aload 1, .getfield 193, .aload 0, .getfield 193, .invokestatic 172, .aload 1, .getfield 194, .aload 0, .getfield 194, .invokestatic 172, .aload 1, .getfield 195, .aload 0, .getfield 195, .invokestatic 172, .aload 1, .getfield 196, .aload 0, .getfield 196, .invokestatic 172, .return_]) := rfl
theorem k43_0 : xM43.2.2.2.2.2[0]? = some ([0, 1, 2], [.aload 0, .getfield 192, .iconst 6, .if_icmp .lt 2, .goto_w 1]) := rfl
theorem k43_1 : xM43.2.2.2.2.2[1]? = some ([], [.return_]) := rfl
theorem k43_2 : xM43.2.2.2.2.2[2]? = some ([0, 1, 2], [.aload 0, .getfield 193, .aload 0, .getfield 192, .iload 1, .iastore, .aload 0, .getfield 194, .aload 0, .getfield 192, .iload 2, .iastore, .aload 0, .getfield 195, .aload 0, .getfield 192, .iconst 0, .iastore, .aload 0, .dup, .getfield 192, .iconst 1, .iadd, .putfield 192, .return_]) := rfl
theorem k44_0 : xM44.2.2.2.2.2[0]? = some ([0, 1], [.aload 0, .getfield 192, .iconst 1, .isub, .istore 2, .iload 2, .ifCond .lt 2, .goto_w 1]) := rfl
theorem k44_1 : xM44.2.2.2.2.2[1]? = some ([0, 1, 2], [.aload 0, .getfield 195, .iload 2, .iaload, .iconst 8, .if_icmp .lt 3, .goto_w 2]) := rfl
theorem k44_2 : xM44.2.2.2.2.2[2]? = some ([], [.return_]) := rfl
theorem k44_3 : xM44.2.2.2.2.2[3]? = some ([0, 1, 2], [.aload 0, .getfield 196, .iload 2, .iconst 8, .imul, .aload 0, .getfield 195, .iload 2, .iaload, .iadd, .iload 1, .iastore, .aload 0, .getfield 195, .iload 2, .dup2, .iaload, .iconst 1, .iadd, .iastore, .return_]) := rfl
theorem k45_0 : xM45.2.2.2.2.2[0]? = some ([0, 1, 2], [.iload 2, .ifCond .lt 3, .goto_w 1]) := rfl
theorem k45_1 : xM45.2.2.2.2.2[1]? = some ([0, 1, 2], [.iload 2, .aload 0, .getfield 195, .iload 1, .iaload, .if_icmp .ge 3, .goto_w 2]) := rfl
theorem k45_2 : xM45.2.2.2.2.2[2]? = some ([0, 1, 2], [.aload 0, .getfield 196, .iload 1, .iconst 8, .imul, .iload 2, .iadd, .iaload, .goto 4]) := rfl
theorem k45_3 : xM45.2.2.2.2.2[3]? = some ([], [.iconst (-1), .goto_w 4]) := rfl
theorem k45_4 : xM45.2.2.2.2.2[4]? = some ([], [.ireturn]) := rfl
theorem k46_0 : xM46.2.2.2.2.2[0]? = some ([0, 1, 2], [.iconst 0, .istore 3, .iconst 0, .istore 4, .goto_w 1]) := rfl
theorem k46_1 : xM46.2.2.2.2.2[1]? = some ([0, 1, 2, 3, 4], [.iload 4, .aload 0, .getfield 195, .iload 1, .iaload, .if_icmp .ge 5, .goto_w 2]) := rfl
theorem k46_2 : xM46.2.2.2.2.2[2]? = some ([0, 1, 2, 3, 4], [.aload 0, .iload 1, .iload 4, .invokevirtual 45, .iconst 96, .iload 2, .iadd, .if_icmp .ne 4, .goto_w 3]) := rfl
theorem k46_3 : xM46.2.2.2.2.2[3]? = some ([0, 1, 2, 3, 4], [.iinc 3 1, .goto_w 4]) := rfl
theorem k46_4 : xM46.2.2.2.2.2[4]? = some ([0, 1, 2, 3, 4], [.iinc 4 1, .goto 1]) := rfl
theorem k46_5 : xM46.2.2.2.2.2[5]? = some ([3], [.iload 3, .ireturn]) := rfl
theorem k48_0 : xM48.2.2.2.2.2[0]? = some ([0, 1], [.aload 0, .aload 1, .getfield 224, .putfield 224, .aload 1, .getfield 225, .aload 0, .getfield 225, .invokestatic 172, .aload 1, .getfield 226, .aload 0, .getfield 226, .invokestatic 172, .aload 1, .getfield 227, .aload 0, .getfield 227, .invokestatic 172, .aload 1, .getfield 228, .aload 0, .getfield 228, .invokestatic 172, .aload 1, .getfield 229, .aload 0, .getfield 229, .invokestatic 172, .aload 1, .getfield 230, .aload 0, .getfield 230, .invokestatic 172, .aload 1, .getfield 232, .aload 0, .getfield 232, .invokestatic 172, .return_]) := rfl
theorem k49_0 : xM49.2.2.2.2.2[0]? = some ([0, 1, 2, 3, 4], [.aload 0, .getfield 224, .iconst 12, .if_icmp .lt 2, .goto_w 1]) := rfl
theorem k49_1 : xM49.2.2.2.2.2[1]? = some ([], [.return_]) := rfl
theorem k49_2 : xM49.2.2.2.2.2[2]? = some ([0, 1, 2, 3, 4], [.aload 0, .getfield 225, .aload 0, .getfield 224, .iload 1, .iastore, .aload 0, .getfield 226, .aload 0, .getfield 224, .iload 2, .iastore, .aload 0, .getfield 227, .aload 0, .getfield 224, .iload 3, .iastore, .aload 0, .getfield 228, .aload 0, .getfield 224, .iconst 100, .iastore, .aload 0, .getfield 229, .aload 0, .getfield 224, .iload 1, .iastore, .aload 0, .getfield 230, .aload 0, .getfield 224, .iload 4, .ineg, .aload 0, .getfield 224, .imul, .iastore, .aload 0, .getfield 231, .aload 0, .getfield 224, .aload 0, .getfield 230, .aload 0, .getfield 224, .iaload, .iastore, .aload 0, .getfield 232, .aload 0, .getfield 224, .iconst 0, .iastore, .aload 0, .dup, .getfield 224, .iconst 1, .iadd, .putfield 224, .return_]) := rfl
theorem k50_0 : xM50.2.2.2.2.2[0]? = some ([0, 1], [.aload 0, .getfield 226, .iload 1, .iaload, .i2f, .aload 0, .getfield 228, .iload 1, .iaload, .i2f, .fmul, .ldc_w 1120403456, .fdiv, .f2i, .ireturn]) := rfl
theorem k51_0 : xM51.2.2.2.2.2[0]? = some ([0, 1], [.iload 1, .ifCond .le 2, .goto_w 1]) := rfl
theorem k51_1 : xM51.2.2.2.2.2[1]? = some ([0, 1], [.aload 0, .getfield 230, .iload 1, .iconst 1, .isub, .iaload, .aload 0, .getfield 230, .iload 1, .iaload, .isub, .goto 3]) := rfl
theorem k51_2 : xM51.2.2.2.2.2[2]? = some ([], [.iconst (-1), .goto_w 3]) := rfl
theorem k51_3 : xM51.2.2.2.2.2[3]? = some ([], [.ireturn]) := rfl
theorem k52_0 : xM52.2.2.2.2.2[0]? = some ([0, 1, 2], [.aload 0, .getfield 228, .iload 1, .iconst 0, .iconst 100, .aload 0, .getfield 228, .iload 1, .iaload, .iload 2, .iadd, .invokestatic 386, .invokestatic 385, .iastore, .return_]) := rfl
theorem k53_0 : xM53.2.2.2.2.2[0]? = some ([0, 1], [.iload 1, .ifCond .lt 2, .goto_w 1]) := rfl
theorem k53_1 : xM53.2.2.2.2.2[1]? = some ([0, 1], [.iload 1, .iconst 1, .iadd, .aload 0, .getfield 224, .if_icmp .lt 3, .goto_w 2]) := rfl
theorem k53_2 : xM53.2.2.2.2.2[2]? = some ([], [.return_]) := rfl
theorem k53_3 : xM53.2.2.2.2.2[3]? = some ([0, 1], [.aload 0, .getfield 229, .iload 1, .iaload, .istore 2, .aload 0, .getfield 229, .iload 1, .aload 0, .getfield 229, .iload 1, .iconst 1, .iadd, .iaload, .iastore, .aload 0, .getfield 229, .iload 1, .iconst 1, .iadd, .iload 2, .iastore, .return_]) := rfl
theorem k54_0 : xM54.2.2.2.2.2[0]? = some ([0, 1, 2], [.iconst 0, .istore 3, .goto_w 1]) := rfl
theorem k54_1 : xM54.2.2.2.2.2[1]? = some ([0, 1, 2, 3], [.iload 3, .aload 0, .getfield 224, .if_icmp .ge 8, .goto_w 2]) := rfl
theorem k54_2 : xM54.2.2.2.2.2[2]? = some ([0, 1, 2, 3], [.aload 0, .getfield 230, .iload 3, .iaload, .aload 0, .iload 3, .invokevirtual 50, .iadd, .istore 4, .iload 3, .ifCond .le 4, .goto_w 3]) := rfl
theorem k54_3 : xM54.2.2.2.2.2[3]? = some ([0, 1, 2, 3, 4], [.iload 4, .aload 0, .getfield 230, .iload 3, .iconst 1, .isub, .iaload, .iload 1, .isub, .invokestatic 386, .istore 4, .goto_w 4]) := rfl
theorem k54_4 : xM54.2.2.2.2.2[4]? = some ([0, 1, 2, 3, 4], [.aload 0, .getfield 231, .iload 3, .aload 0, .getfield 230, .iload 3, .iaload, .iastore, .iload 4, .aload 0, .getfield 230, .iload 3, .iaload, .if_icmp .le 6, .goto_w 5]) := rfl
theorem k54_5 : xM54.2.2.2.2.2[5]? = some ([0, 1, 2, 3, 4], [.aload 0, .getfield 230, .iload 3, .iload 4, .iastore, .aload 0, .getfield 232, .iload 3, .dup2, .iaload, .iconst 1, .iadd, .iastore, .aload 0, .iload 3, .aload 0, .getfield 227, .iload 3, .iaload, .ineg, .invokevirtual 52, .goto 7]) := rfl
theorem k54_6 : xM54.2.2.2.2.2[6]? = some ([0, 1, 2, 3], [.aload 0, .iload 3, .iload 2, .invokevirtual 52, .goto_w 7]) := rfl
theorem k54_7 : xM54.2.2.2.2.2[7]? = some ([0, 1, 2, 3], [.iinc 3 1, .goto 1]) := rfl
theorem k54_8 : xM54.2.2.2.2.2[8]? = some ([], [.return_]) := rfl
theorem k55_0 : xM55.2.2.2.2.2[0]? = some ([0], [.iconst 0, .istore 1, .iconst 0, .istore 2, .goto_w 1]) := rfl
theorem k55_1 : xM55.2.2.2.2.2[1]? = some ([0, 1, 2], [.iload 2, .aload 0, .getfield 224, .if_icmp .ge 5, .goto_w 2]) := rfl
theorem k55_2 : xM55.2.2.2.2.2[2]? = some ([0, 1, 2], [.aload 0, .getfield 229, .iload 2, .iaload, .ifCond .eq 4, .goto_w 3]) := rfl
theorem k55_3 : xM55.2.2.2.2.2[3]? = some ([0, 1, 2], [.iinc 1 1, .goto_w 4]) := rfl
theorem k55_4 : xM55.2.2.2.2.2[4]? = some ([0, 1, 2], [.iinc 2 1, .goto 1]) := rfl
theorem k55_5 : xM55.2.2.2.2.2[5]? = some ([1], [.iload 1, .ireturn]) := rfl
theorem k56_0 : xM56.2.2.2.2.2[0]? = some ([0, 1], [.iconst 0, .istore 2, .iconst 0, .istore 3, .goto_w 1]) := rfl
theorem k56_1 : xM56.2.2.2.2.2[1]? = some ([0, 1, 2, 3], [.iload 3, .aload 0, .getfield 224, .if_icmp .ge 5, .goto_w 2]) := rfl
theorem k56_2 : xM56.2.2.2.2.2[2]? = some ([0, 1, 2, 3], [.aload 0, .getfield 229, .iload 3, .iaload, .iload 1, .if_icmp .ne 4, .goto_w 3]) := rfl
theorem k56_3 : xM56.2.2.2.2.2[3]? = some ([0, 1, 2, 3], [.iinc 2 1, .goto_w 4]) := rfl
theorem k56_4 : xM56.2.2.2.2.2[4]? = some ([0, 1, 2, 3], [.iinc 3 1, .goto 1]) := rfl
theorem k56_5 : xM56.2.2.2.2.2[5]? = some ([2], [.iload 2, .ireturn]) := rfl
theorem k57_0 : xM57.2.2.2.2.2[0]? = some ([0], [.iconst 0, .istore 1, .iconst 0, .istore 2, .goto_w 1]) := rfl
theorem k57_1 : xM57.2.2.2.2.2[1]? = some ([0, 1, 2], [.iload 2, .aload 0, .getfield 224, .if_icmp .ge 5, .goto_w 2]) := rfl
theorem k57_2 : xM57.2.2.2.2.2[2]? = some ([0, 1, 2], [.aload 0, .getfield 229, .iload 2, .iaload, .aload 0, .getfield 225, .iload 2, .iaload, .if_icmp .ne 4, .goto_w 3]) := rfl
theorem k57_3 : xM57.2.2.2.2.2[3]? = some ([0, 1, 2], [.iinc 1 1, .goto_w 4]) := rfl
theorem k57_4 : xM57.2.2.2.2.2[4]? = some ([0, 1, 2], [.iinc 2 1, .goto 1]) := rfl
theorem k57_5 : xM57.2.2.2.2.2[5]? = some ([1], [.iload 1, .ireturn]) := rfl
theorem k58_0 : xM58.2.2.2.2.2[0]? = some ([0, 1], [.iconst 0, .istore 2, .iconst 1, .istore 3, .goto_w 1]) := rfl
theorem k58_1 : xM58.2.2.2.2.2[1]? = some ([0, 1, 2, 3], [.iload 3, .aload 0, .getfield 224, .if_icmp .ge 5, .goto_w 2]) := rfl
theorem k58_2 : xM58.2.2.2.2.2[2]? = some ([0, 1, 2, 3], [.aload 0, .iload 3, .invokevirtual 51, .iload 1, .if_icmp .gt 4, .goto_w 3]) := rfl
theorem k58_3 : xM58.2.2.2.2.2[3]? = some ([0, 1, 2, 3], [.iinc 2 1, .goto_w 4]) := rfl
theorem k58_4 : xM58.2.2.2.2.2[4]? = some ([0, 1, 2, 3], [.iinc 3 1, .goto 1]) := rfl
theorem k58_5 : xM58.2.2.2.2.2[5]? = some ([2], [.iload 2, .ireturn]) := rfl
theorem k59_0 : xM59.2.2.2.2.2[0]? = some ([0], [.iconst 0, .istore 1, .iconst 0, .istore 2, .goto_w 1]) := rfl
theorem k59_1 : xM59.2.2.2.2.2[1]? = some ([0, 1, 2], [.iload 2, .aload 0, .getfield 224, .if_icmp .ge 3, .goto_w 2]) := rfl
theorem k59_2 : xM59.2.2.2.2.2[2]? = some ([0, 1, 2], [.iload 1, .aload 0, .iload 2, .invokevirtual 50, .iadd, .istore 1, .iinc 2 1, .goto 1]) := rfl
theorem k59_3 : xM59.2.2.2.2.2[3]? = some ([1], [.iload 1, .ireturn]) := rfl
theorem k60_0 : xM60.2.2.2.2.2[0]? = some ([0], [.iconst 0, .istore 1, .iconst 0, .istore 2, .goto_w 1]) := rfl
theorem k60_1 : xM60.2.2.2.2.2[1]? = some ([0, 1, 2], [.iload 2, .aload 0, .getfield 224, .if_icmp .ge 3, .goto_w 2]) := rfl
theorem k60_2 : xM60.2.2.2.2.2[2]? = some ([0, 1, 2], [.iload 1, .aload 0, .getfield 228, .iload 2, .iaload, .iadd, .istore 1, .iinc 2 1, .goto 1]) := rfl
theorem k60_3 : xM60.2.2.2.2.2[3]? = some ([1], [.iload 1, .ireturn]) := rfl
theorem k61_0 : xM61.2.2.2.2.2[0]? = some ([0], [.aload 0, .getfield 224, .ifCond .le 2, .goto_w 1]) := rfl
theorem k61_1 : xM61.2.2.2.2.2[1]? = some ([0], [.aload 0, .invokevirtual 60, .i2d, .aload 0, .getfield 224, .i2d, .ddiv, .goto 3]) := rfl
theorem k61_2 : xM61.2.2.2.2.2[2]? = some ([], [.dconst 0, .goto_w 3]) := rfl
theorem k61_3 : xM61.2.2.2.2.2[3]? = some ([], [.dreturn]) := rfl
theorem k62_0 : xM62.2.2.2.2.2[0]? = some ([0, 1], [.iconst 0, .istore 2, .iconst 0, .istore 3, .goto_w 1]) := rfl
theorem k62_1 : xM62.2.2.2.2.2[1]? = some ([0, 1, 2, 3], [.iload 3, .aload 0, .getfield 224, .if_icmp .ge 5, .goto_w 2]) := rfl
theorem k62_2 : xM62.2.2.2.2.2[2]? = some ([0, 1, 2, 3], [.aload 0, .getfield 228, .iload 3, .iaload, .iload 1, .if_icmp .gt 4, .goto_w 3]) := rfl
theorem k62_3 : xM62.2.2.2.2.2[3]? = some ([0, 1, 2, 3], [.iload 2, .iconst 1, .iload 3, .ishl, .ior, .istore 2, .goto_w 4]) := rfl
theorem k62_4 : xM62.2.2.2.2.2[4]? = some ([0, 1, 2, 3], [.iinc 3 1, .goto 1]) := rfl
theorem k62_5 : xM62.2.2.2.2.2[5]? = some ([2], [.iload 2, .ireturn]) := rfl
theorem k63_0 : xM63.2.2.2.2.2[0]? = some ([0, 1], [.iconst 0, .istore 2, .iconst 0, .istore 3, .goto_w 1]) := rfl
theorem k63_1 : xM63.2.2.2.2.2[1]? = some ([0, 1, 2, 3], [.iload 3, .aload 0, .getfield 224, .if_icmp .ge 5, .goto_w 2]) := rfl
theorem k63_2 : xM63.2.2.2.2.2[2]? = some ([0, 1, 2, 3], [.aload 0, .getfield 228, .iload 3, .iaload, .iload 1, .if_icmp .ge 4, .goto_w 3]) := rfl
theorem k63_3 : xM63.2.2.2.2.2[3]? = some ([0, 1, 2, 3], [.iinc 2 1, .goto_w 4]) := rfl
theorem k63_4 : xM63.2.2.2.2.2[4]? = some ([0, 1, 2, 3], [.iinc 3 1, .goto 1]) := rfl
theorem k63_5 : xM63.2.2.2.2.2[5]? = some ([2], [.iload 2, .ireturn]) := rfl
theorem k64_0 : xM64.2.2.2.2.2[0]? = some ([0, 1], [.iconst 0, .istore 2, .iconst 0, .istore 3, .goto_w 1]) := rfl
theorem k64_1 : xM64.2.2.2.2.2[1]? = some ([0, 1, 2, 3], [.iload 3, .aload 0, .getfield 224, .if_icmp .ge 5, .goto_w 2]) := rfl
theorem k64_2 : xM64.2.2.2.2.2[2]? = some ([0, 1, 2, 3], [.aload 0, .getfield 230, .iload 3, .iaload, .iload 1, .if_icmp .le 4, .goto_w 3]) := rfl
theorem k64_3 : xM64.2.2.2.2.2[3]? = some ([0, 1, 2, 3], [.iinc 2 1, .goto_w 4]) := rfl
theorem k64_4 : xM64.2.2.2.2.2[4]? = some ([0, 1, 2, 3], [.iinc 3 1, .goto 1]) := rfl
theorem k64_5 : xM64.2.2.2.2.2[5]? = some ([2], [.iload 2, .ireturn]) := rfl
theorem k65_0 : xM65.2.2.2.2.2[0]? = some ([0, 1], [.iconst 0, .istore 2, .iconst 0, .istore 3, .goto_w 1]) := rfl
theorem k65_1 : xM65.2.2.2.2.2[1]? = some ([0, 1, 2, 3], [.iload 3, .aload 0, .getfield 224, .if_icmp .ge 5, .goto_w 2]) := rfl
theorem k65_2 : xM65.2.2.2.2.2[2]? = some ([0, 1, 2, 3], [.aload 0, .getfield 230, .iload 3, .iaload, .iload 1, .if_icmp .ge 4, .goto_w 3]) := rfl
theorem k65_3 : xM65.2.2.2.2.2[3]? = some ([0, 1, 2, 3], [.iinc 2 1, .goto_w 4]) := rfl
theorem k65_4 : xM65.2.2.2.2.2[4]? = some ([0, 1, 2, 3], [.iinc 3 1, .goto 1]) := rfl
theorem k65_5 : xM65.2.2.2.2.2[5]? = some ([2], [.iload 2, .ireturn]) := rfl
theorem k66_0 : xM66.2.2.2.2.2[0]? = some ([0, 1], [.iconst (-1), .istore 2, .iconst 0, .istore 3, .goto_w 1]) := rfl
theorem k66_1 : xM66.2.2.2.2.2[1]? = some ([0, 1, 2, 3], [.iload 3, .aload 0, .getfield 224, .if_icmp .ge 6, .goto_w 2]) := rfl
theorem k66_2 : xM66.2.2.2.2.2[2]? = some ([0, 1, 2, 3], [.aload 0, .getfield 230, .iload 3, .iaload, .iload 1, .isub, .invokestatic 384, .istore 4, .iload 2, .iconst (-1), .if_icmp .eq 4, .goto_w 3]) := rfl
theorem k66_3 : xM66.2.2.2.2.2[3]? = some ([0, 1, 2, 3, 4], [.iload 4, .iload 2, .if_icmp .ge 5, .goto_w 4]) := rfl
theorem k66_4 : xM66.2.2.2.2.2[4]? = some ([0, 1, 3, 4], [.iload 4, .istore 2, .goto_w 5]) := rfl
theorem k66_5 : xM66.2.2.2.2.2[5]? = some ([0, 1, 2, 3], [.iinc 3 1, .goto 1]) := rfl
theorem k66_6 : xM66.2.2.2.2.2[6]? = some ([2], [.iload 2, .ireturn]) := rfl
theorem k68_0 : xM68.2.2.2.2.2[0]? = some ([0, 1], [.aload 0, .aload 1, .getfield 256, .putfield 256, .aload 0, .aload 1, .getfield 257, .putfield 257, .aload 0, .aload 1, .getfield 258, .putfield 258, .aload 0, .aload 1, .getfield 259, .putfield 259, .aload 1, .getfield 260, .aload 0, .getfield 260, .invokestatic 172, .aload 1, .getfield 261, .aload 0, .getfield 261, .invokestatic 172, .aload 0, .getfield 262, .aload 1, .getfield 262, .invokevirtual 48, .aload 0, .getfield 263, .aload 1, .getfield 263, .invokevirtual 4, .aload 0, .getfield 264, .aload 1, .getfield 264, .invokevirtual 28, .return_]) := rfl
theorem k69_0 : xM69.2.2.2.2.2[0]? = some ([0], [.aload 0, .iconst 0, .putfield 256, .aload 0, .iconst 0, .putfield 257, .aload 0, .iconst 0, .putfield 258, .aload 0, .iconst 0, .putfield 259, .aload 0, .getfield 262, .iconst 0, .putfield 224, .aload 0, .getfield 263, .iconst 0, .putfield 32, .aload 0, .getfield 264, .iconst 0, .putfield 128, .iconst 0, .istore 1, .goto_w 1]) := rfl
theorem k69_1 : xM69.2.2.2.2.2[1]? = some ([0, 1], [.iload 1, .aload 0, .getfield 261, .arraylength, .if_icmp .ge 3, .goto_w 2]) := rfl
theorem k69_2 : xM69.2.2.2.2.2[2]? = some ([0, 1], [.aload 0, .getfield 261, .iload 1, .iconst (-1), .iastore, .iinc 1 1, .goto 1]) := rfl
theorem k69_3 : xM69.2.2.2.2.2[3]? = some ([], [.return_]) := rfl
theorem k70_0 : xM70.2.2.2.2.2[0]? = some ([0], [.aload 0, .dup, .getfield 256, .iconst 1, .iadd, .putfield 256, .aload 0, .invokevirtual 71, .aload 0, .getfield 262, .aload 0, .getfield 260, .iconst 0, .iaload, .aload 0, .getfield 260, .iconst 3, .iaload, .invokevirtual 54, .aload 0, .invokevirtual 72, .aload 0, .invokevirtual 73, .return_]) := rfl
theorem k71_0 : xM71.2.2.2.2.2[0]? = some ([0], [.iconst 0, .istore 1, .goto_w 1]) := rfl
theorem k71_1 : xM71.2.2.2.2.2[1]? = some ([0, 1], [.iload 1, .aload 0, .getfield 264, .getfield 128, .if_icmp .ge 9, .goto_w 2]) := rfl
theorem k71_2 : xM71.2.2.2.2.2[2]? = some ([0, 1], [.aload 0, .getfield 264, .getfield 129, .iload 1, .iaload, .aload 0, .getfield 256, .if_icmp .ne 8, .goto_w 3]) := rfl
theorem k71_3 : xM71.2.2.2.2.2[3]? = some ([0, 1], [.aload 0, .aload 0, .getfield 264, .getfield 130, .iload 1, .iaload, .invokevirtual 74, .istore 2, .aload 0, .getfield 264, .getfield 131, .iload 1, .iload 2, .ifCond .eq 5, .goto_w 4]) := rfl
theorem k71_4 : xM71.2.2.2.2.2[4]? = some ([0, 1, 2], [.iconst 1, .goto 6]) := rfl
theorem k71_5 : xM71.2.2.2.2.2[5]? = some ([0, 1, 2], [.iconst 2, .goto_w 6]) := rfl
theorem k71_6 : xM71.2.2.2.2.2[6]? = some ([0, 1, 2], [.iastore, .iload 2, .ifCond .eq 8, .goto_w 7]) := rfl
theorem k71_7 : xM71.2.2.2.2.2[7]? = some ([0, 1], [.aload 0, .aload 0, .getfield 264, .getfield 130, .iload 1, .iaload, .invokevirtual 75, .goto_w 8]) := rfl
theorem k71_8 : xM71.2.2.2.2.2[8]? = some ([0, 1], [.iinc 1 1, .goto 1]) := rfl
theorem k71_9 : xM71.2.2.2.2.2[9]? = some ([], [.return_]) := rfl
theorem k72_0 : xM72.2.2.2.2.2[0]? = some ([0], [.iconst 0, .istore 1, .goto_w 1]) := rfl
theorem k72_1 : xM72.2.2.2.2.2[1]? = some ([0, 1], [.iload 1, .aload 0, .getfield 262, .getfield 224, .if_icmp .ge 6, .goto_w 2]) := rfl
theorem k72_2 : xM72.2.2.2.2.2[2]? = some ([0, 1], [.aload 0, .getfield 262, .getfield 229, .iload 1, .iaload, .ifCond .eq 5, .goto_w 3]) := rfl
theorem k72_3 : xM72.2.2.2.2.2[3]? = some ([0, 1], [.aload 0, .getfield 262, .getfield 228, .iload 1, .iaload, .ifCond .ne 5, .goto_w 4]) := rfl
theorem k72_4 : xM72.2.2.2.2.2[4]? = some ([0, 1], [.aload 0, .iload 1, .invokevirtual 76, .goto_w 5]) := rfl
theorem k72_5 : xM72.2.2.2.2.2[5]? = some ([0, 1], [.iinc 1 1, .goto 1]) := rfl
theorem k72_6 : xM72.2.2.2.2.2[6]? = some ([], [.return_]) := rfl
theorem k73_0 : xM73.2.2.2.2.2[0]? = some ([0], [.iconst 0, .istore 1, .goto_w 1]) := rfl
theorem k73_1 : xM73.2.2.2.2.2[1]? = some ([0, 1], [.iload 1, .aload 0, .getfield 262, .getfield 224, .if_icmp .ge 6, .goto_w 2]) := rfl
theorem k73_2 : xM73.2.2.2.2.2[2]? = some ([0, 1], [.aload 0, .getfield 263, .getfield 32, .ifCond .le 5, .goto_w 3]) := rfl
theorem k73_3 : xM73.2.2.2.2.2[3]? = some ([0, 1], [.aload 0, .iload 1, .invokevirtual 77, .ifCond .eq 5, .goto_w 4]) := rfl
theorem k73_4 : xM73.2.2.2.2.2[4]? = some ([0, 1], [.aload 0, .iload 1, .aload 0, .getfield 263, .aload 0, .getfield 262, .getfield 231, .iload 1, .iaload, .aload 0, .getfield 262, .getfield 230, .iload 1, .iaload, .invokevirtual 8, .invokevirtual 78, .goto_w 5]) := rfl
theorem k73_5 : xM73.2.2.2.2.2[5]? = some ([0, 1], [.iinc 1 1, .goto 1]) := rfl
theorem k73_6 : xM73.2.2.2.2.2[6]? = some ([], [.return_]) := rfl
theorem k74_0 : xM74.2.2.2.2.2[0]? = some ([0, 1], [.iload 1, .ifCond .lt 6, .goto_w 1]) := rfl
theorem k74_1 : xM74.2.2.2.2.2[1]? = some ([0, 1], [.iload 1, .iconst 1, .iadd, .aload 0, .getfield 262, .getfield 224, .if_icmp .ge 6, .goto_w 2]) := rfl
theorem k74_2 : xM74.2.2.2.2.2[2]? = some ([0, 1], [.aload 0, .getfield 262, .iload 1, .iconst 1, .iadd, .invokevirtual 51, .aload 0, .getfield 260, .iconst 5, .iaload, .if_icmp .gt 6, .goto_w 3]) := rfl
theorem k74_3 : xM74.2.2.2.2.2[3]? = some ([0, 1], [.aload 0, .getfield 262, .getfield 228, .iload 1, .iaload, .iconst 1, .if_icmp .lt 6, .goto_w 4]) := rfl
theorem k74_4 : xM74.2.2.2.2.2[4]? = some ([0, 1], [.aload 0, .getfield 262, .getfield 228, .iload 1, .iconst 1, .iadd, .iaload, .iconst 1, .if_icmp .lt 6, .goto_w 5]) := rfl
theorem k74_5 : xM74.2.2.2.2.2[5]? = some ([], [.iconst 1, .goto 7]) := rfl
theorem k74_6 : xM74.2.2.2.2.2[6]? = some ([], [.iconst 0, .goto_w 7]) := rfl
theorem k74_7 : xM74.2.2.2.2.2[7]? = some ([], [.ireturn]) := rfl
theorem k75_0 : xM75.2.2.2.2.2[0]? = some ([0, 1], [.aload 0, .getfield 262, .iload 1, .invokevirtual 53, .aload 0, .getfield 262, .iload 1, .iconst (-2), .invokevirtual 52, .aload 0, .getfield 262, .iload 1, .iconst 1, .iadd, .iconst (-2), .invokevirtual 52, .aload 0, .dup, .getfield 257, .iconst 1, .iadd, .putfield 257, .return_]) := rfl
theorem k76_0 : xM76.2.2.2.2.2[0]? = some ([0, 1], [.aload 0, .getfield 263, .aload 0, .getfield 262, .getfield 229, .iload 1, .iaload, .aload 0, .getfield 262, .getfield 230, .iload 1, .iaload, .aload 0, .getfield 256, .invokevirtual 5, .aload 0, .getfield 262, .getfield 229, .iload 1, .iconst 0, .iastore, .aload 0, .dup, .getfield 258, .iconst 1, .iadd, .putfield 258, .return_]) := rfl
theorem k77_0 : xM77.2.2.2.2.2[0]? = some ([0, 1], [.aload 0, .getfield 262, .getfield 229, .iload 1, .iaload, .ifCond .ne 3, .goto_w 1]) := rfl
theorem k77_1 : xM77.2.2.2.2.2[1]? = some ([0, 1], [.aload 0, .getfield 262, .getfield 228, .iload 1, .iaload, .aload 0, .getfield 260, .iconst 4, .iaload, .if_icmp .lt 3, .goto_w 2]) := rfl
theorem k77_2 : xM77.2.2.2.2.2[2]? = some ([], [.iconst 1, .goto 4]) := rfl
theorem k77_3 : xM77.2.2.2.2.2[3]? = some ([], [.iconst 0, .goto_w 4]) := rfl
theorem k77_4 : xM77.2.2.2.2.2[4]? = some ([], [.ireturn]) := rfl
theorem k78_0 : xM78.2.2.2.2.2[0]? = some ([0, 1, 2], [.iload 2, .ifCond .lt 2, .goto_w 1]) := rfl
theorem k78_1 : xM78.2.2.2.2.2[1]? = some ([0, 1, 2], [.iload 2, .aload 0, .getfield 263, .getfield 32, .if_icmp .lt 3, .goto_w 2]) := rfl
theorem k78_2 : xM78.2.2.2.2.2[2]? = some ([], [.return_]) := rfl
theorem k78_3 : xM78.2.2.2.2.2[3]? = some ([0, 1, 2], [.aload 0, .getfield 262, .getfield 229, .iload 1, .aload 0, .getfield 263, .getfield 33, .iload 2, .iaload, .iastore, .aload 0, .getfield 263, .iload 2, .invokevirtual 6, .aload 0, .dup, .getfield 259, .iconst 1, .iadd, .putfield 259, .return_]) := rfl
theorem k79_0 : xM79.2.2.2.2.2[0]? = some ([0, 1, 2], [.aload 0, .getfield 262, .getfield 229, .iload 1, .iaload, .ifCond .eq 3, .goto_w 1]) := rfl
theorem k79_1 : xM79.2.2.2.2.2[1]? = some ([0, 1, 2], [.aload 0, .getfield 262, .getfield 230, .iload 1, .iaload, .iload 2, .isub, .invokestatic 384, .aload 0, .getfield 260, .iconst 1, .iaload, .if_icmp .gt 3, .goto_w 2]) := rfl
theorem k79_2 : xM79.2.2.2.2.2[2]? = some ([], [.iconst 1, .goto 4]) := rfl
theorem k79_3 : xM79.2.2.2.2.2[3]? = some ([], [.iconst 0, .goto_w 4]) := rfl
theorem k79_4 : xM79.2.2.2.2.2[4]? = some ([], [.ireturn]) := rfl
theorem k81_0 : xM81.2.2.2.2.2[0]? = some ([0, 1, 2, 3, 4, 5], [.aload 0, .getfield 289, .iconst 20, .iadd, .iconst 700, .if_icmp .le 2, .goto_w 1]) := rfl
theorem k81_1 : xM81.2.2.2.2.2[1]? = some ([], [.iconst (-1), .ireturn]) := rfl
theorem k81_2 : xM81.2.2.2.2.2[2]? = some ([0, 1, 2, 3, 4, 5], [.aload 0, .iload 1, .invokevirtual 82, .aload 0, .iload 2, .invokevirtual 82, .aload 0, .iload 3, .invokevirtual 82, .aload 0, .iload 4, .invokevirtual 82, .aload 0, .iload 5, .invokevirtual 82, .aload 0, .getfield 289, .ireturn]) := rfl
theorem k82_0 : xM82.2.2.2.2.2[0]? = some ([0, 1], [.iconst 24, .istore 2, .goto_w 1]) := rfl
theorem k82_1 : xM82.2.2.2.2.2[1]? = some ([0, 1, 2], [.iload 2, .ifCond .lt 4, .goto_w 2]) := rfl
theorem k82_2 : xM82.2.2.2.2.2[2]? = some ([0, 1, 2], [.aload 0, .getfield 289, .aload 0, .getfield 288, .arraylength, .if_icmp .ge 4, .goto_w 3]) := rfl
theorem k82_3 : xM82.2.2.2.2.2[3]? = some ([0, 1, 2], [.aload 0, .getfield 288, .aload 0, .getfield 289, .iload 1, .iload 2, .iushr, .iconst 255, .iand, .iastore, .aload 0, .dup, .getfield 289, .iconst 1, .iadd, .putfield 289, .iinc 2 (-8), .goto 1]) := rfl
theorem k82_4 : xM82.2.2.2.2.2[4]? = some ([], [.return_]) := rfl
theorem k83_0 : xM83.2.2.2.2.2[0]? = some ([0, 1], [.aload 0, .iconst 0, .iload 1, .aload 0, .getfield 288, .arraylength, .invokestatic 386, .invokestatic 385, .putfield 290, .aload 0, .iconst 0, .putfield 292, .return_]) := rfl
theorem k84_0 : xM84.2.2.2.2.2[0]? = some ([0], [.aload 0, .getfield 292, .aload 0, .getfield 290, .if_icmp .ge 3, .goto_w 1]) := rfl
theorem k84_1 : xM84.2.2.2.2.2[1]? = some ([0], [.aload 0, .getfield 288, .aload 0, .getfield 292, .iaload, .iconst 32, .if_icmp .ne 3, .goto_w 2]) := rfl
theorem k84_2 : xM84.2.2.2.2.2[2]? = some ([0], [.aload 0, .dup, .getfield 292, .iconst 1, .iadd, .putfield 292, .goto 0]) := rfl
theorem k84_3 : xM84.2.2.2.2.2[3]? = some ([0], [.aload 0, .aload 0, .getfield 292, .putfield 291, .aload 0, .getfield 291, .aload 0, .getfield 290, .if_icmp .lt 5, .goto_w 4]) := rfl
theorem k84_4 : xM84.2.2.2.2.2[4]? = some ([0], [.aload 0, .iconst 0, .putfield 293, .goto 15]) := rfl
theorem k84_5 : xM84.2.2.2.2.2[5]? = some ([0], [.aload 0, .getfield 288, .aload 0, .getfield 291, .iaload, .iconst 97, .if_icmp .lt 8, .goto_w 6]) := rfl
theorem k84_6 : xM84.2.2.2.2.2[6]? = some ([0], [.aload 0, .getfield 288, .aload 0, .getfield 291, .iaload, .iconst 122, .if_icmp .gt 8, .goto_w 7]) := rfl
theorem k84_7 : xM84.2.2.2.2.2[7]? = some ([0], [.aload 0, .invokevirtual 85, .goto 15]) := rfl
theorem k84_8 : xM84.2.2.2.2.2[8]? = some ([0], [.aload 0, .getfield 288, .aload 0, .getfield 291, .iaload, .iconst 48, .if_icmp .lt 11, .goto_w 9]) := rfl
theorem k84_9 : xM84.2.2.2.2.2[9]? = some ([0], [.aload 0, .getfield 288, .aload 0, .getfield 291, .iaload, .iconst 57, .if_icmp .gt 11, .goto_w 10]) := rfl
theorem k84_10 : xM84.2.2.2.2.2[10]? = some ([0], [.aload 0, .invokevirtual 86, .goto 15]) := rfl
theorem k84_11 : xM84.2.2.2.2.2[11]? = some ([0], [.aload 0, .aload 0, .getfield 288, .aload 0, .getfield 291, .iaload, .iconst 59, .if_icmp .ne 13, .goto_w 12]) := rfl
theorem k84_12 : xM84.2.2.2.2.2[12]? = some ([0], [.iconst 3, .goto 14]) := rfl
theorem k84_13 : xM84.2.2.2.2.2[13]? = some ([0], [.iconst 4, .goto_w 14]) := rfl
theorem k84_14 : xM84.2.2.2.2.2[14]? = some ([0], [.putfield 293, .aload 0, .dup, .getfield 292, .iconst 1, .iadd, .putfield 292, .goto_w 15]) := rfl
theorem k84_15 : xM84.2.2.2.2.2[15]? = some ([], [.return_]) := rfl
theorem k85_0 : xM85.2.2.2.2.2[0]? = some ([0], [.aload 0, .getfield 292, .aload 0, .getfield 290, .if_icmp .ge 4, .goto_w 1]) := rfl
theorem k85_1 : xM85.2.2.2.2.2[1]? = some ([0], [.aload 0, .getfield 288, .aload 0, .getfield 292, .iaload, .iconst 97, .if_icmp .lt 4, .goto_w 2]) := rfl
theorem k85_2 : xM85.2.2.2.2.2[2]? = some ([0], [.aload 0, .getfield 288, .aload 0, .getfield 292, .iaload, .iconst 122, .if_icmp .gt 4, .goto_w 3]) := rfl
theorem k85_3 : xM85.2.2.2.2.2[3]? = some ([0], [.aload 0, .dup, .getfield 292, .iconst 1, .iadd, .putfield 292, .goto 0]) := rfl
theorem k85_4 : xM85.2.2.2.2.2[4]? = some ([0], [.aload 0, .aload 0, .getfield 292, .aload 0, .getfield 291, .isub, .iconst 8, .if_icmp .gt 6, .goto_w 5]) := rfl
theorem k85_5 : xM85.2.2.2.2.2[5]? = some ([], [.iconst 1, .goto 7]) := rfl
theorem k85_6 : xM85.2.2.2.2.2[6]? = some ([], [.iconst 4, .goto_w 7]) := rfl
theorem k85_7 : xM85.2.2.2.2.2[7]? = some ([], [.putfield 293, .return_]) := rfl
theorem k86_0 : xM86.2.2.2.2.2[0]? = some ([0], [.aload 0, .iconst 0, .putfield 294, .goto_w 1]) := rfl
theorem k86_1 : xM86.2.2.2.2.2[1]? = some ([0], [.aload 0, .getfield 292, .aload 0, .getfield 290, .if_icmp .ge 5, .goto_w 2]) := rfl
theorem k86_2 : xM86.2.2.2.2.2[2]? = some ([0], [.aload 0, .getfield 288, .aload 0, .getfield 292, .iaload, .iconst 48, .if_icmp .lt 5, .goto_w 3]) := rfl
theorem k86_3 : xM86.2.2.2.2.2[3]? = some ([0], [.aload 0, .getfield 288, .aload 0, .getfield 292, .iaload, .iconst 57, .if_icmp .gt 5, .goto_w 4]) := rfl
theorem k86_4 : xM86.2.2.2.2.2[4]? = some ([0], [.aload 0, .aload 0, .getfield 294, .iconst 10, .imul, .aload 0, .getfield 288, .aload 0, .getfield 292, .iaload, .iadd, .iconst 48, .isub, .putfield 294, .aload 0, .dup, .getfield 292, .iconst 1, .iadd, .putfield 292, .goto 1]) := rfl
theorem k86_5 : xM86.2.2.2.2.2[5]? = some ([0], [.aload 0, .aload 0, .getfield 292, .aload 0, .getfield 291, .isub, .iconst 4, .if_icmp .gt 7, .goto_w 6]) := rfl
theorem k86_6 : xM86.2.2.2.2.2[6]? = some ([], [.iconst 2, .goto 8]) := rfl
theorem k86_7 : xM86.2.2.2.2.2[7]? = some ([], [.iconst 4, .goto_w 8]) := rfl
theorem k86_8 : xM86.2.2.2.2.2[8]? = some ([], [.putfield 293, .return_]) := rfl
theorem k87_0 : xM87.2.2.2.2.2[0]? = some ([0], [.aload 0, .getfield 293, .iconst 1, .if_icmp .ne 2, .goto_w 1]) := rfl
theorem k87_1 : xM87.2.2.2.2.2[1]? = some ([0], [.aload 0, .getfield 292, .aload 0, .getfield 291, .isub, .goto 3]) := rfl
theorem k87_2 : xM87.2.2.2.2.2[2]? = some ([], [.iconst 0, .goto_w 3]) := rfl
theorem k87_3 : xM87.2.2.2.2.2[3]? = some ([], [.ireturn]) := rfl
theorem k88_0 : xM88.2.2.2.2.2[0]? = some ([0, 1], [.aload 0, .getfield 291, .iload 1, .iadd, .istore 2, .iload 1, .ifCond .lt 5, .goto_w 1]) := rfl
theorem k88_1 : xM88.2.2.2.2.2[1]? = some ([0, 2], [.iload 2, .ifCond .lt 5, .goto_w 2]) := rfl
theorem k88_2 : xM88.2.2.2.2.2[2]? = some ([0, 2], [.iload 2, .aload 0, .getfield 292, .if_icmp .ge 5, .goto_w 3]) := rfl
theorem k88_3 : xM88.2.2.2.2.2[3]? = some ([0, 2], [.iload 2, .aload 0, .getfield 288, .arraylength, .if_icmp .ge 5, .goto_w 4]) := rfl
theorem k88_4 : xM88.2.2.2.2.2[4]? = some ([0, 2], [.aload 0, .getfield 288, .iload 2, .iaload, .goto 6]) := rfl
theorem k88_5 : xM88.2.2.2.2.2[5]? = some ([], [.iconst (-1), .goto_w 6]) := rfl
theorem k88_6 : xM88.2.2.2.2.2[6]? = some ([], [.ireturn]) := rfl
theorem k89_0 : xM89.2.2.2.2.2[0]? = some ([0, 1], [.aload 0, .invokevirtual 87, .aload 1, .invokevirtual 391, .if_icmp .eq 2, .goto_w 1]) := rfl
theorem k89_1 : xM89.2.2.2.2.2[1]? = some ([], [.iconst 0, .ireturn]) := rfl
theorem k89_2 : xM89.2.2.2.2.2[2]? = some ([0, 1], [.iconst 0, .istore 2, .goto_w 3]) := rfl
theorem k89_3 : xM89.2.2.2.2.2[3]? = some ([0, 1, 2], [.iload 2, .aload 1, .invokevirtual 391, .if_icmp .ge 7, .goto_w 4]) := rfl
theorem k89_4 : xM89.2.2.2.2.2[4]? = some ([0, 1, 2], [.aload 0, .iload 2, .invokevirtual 88, .aload 1, .iload 2, .invokevirtual 392, .if_icmp .eq 6, .goto_w 5]) := rfl
theorem k89_5 : xM89.2.2.2.2.2[5]? = some ([], [.iconst 0, .ireturn]) := rfl
theorem k89_6 : xM89.2.2.2.2.2[6]? = some ([0, 1, 2], [.iinc 2 1, .goto 3]) := rfl
theorem k89_7 : xM89.2.2.2.2.2[7]? = some ([], [.iconst 1, .ireturn]) := rfl
theorem k91_0 : xM91.2.2.2.2.2[0]? = some ([0, 1, 2, 3, 4, 5], [.aload 0, .getfield 320, .getfield 96, .iload 1, .iload 2, .iload 3, .iload 4, .iload 5, .invokevirtual 81, .ireturn]) := rfl
theorem k92_0 : xM92.2.2.2.2.2[0]? = some ([0, 1], [.iload 1, .ifCond .lt 2, .goto_w 1]) := rfl
theorem k92_1 : xM92.2.2.2.2.2[1]? = some ([0, 1], [.iload 1, .aload 0, .getfield 320, .getfield 96, .getfield 289, .if_icmp .le 3, .goto_w 2]) := rfl
theorem k92_2 : xM92.2.2.2.2.2[2]? = some ([], [.checkcast 2]) := rfl
theorem k92_3 : xM92.2.2.2.2.2[3]? = some ([0, 1], [.aload 0, .getfield 320, .iload 1, .invokevirtual 19, .istore 2, .aload 0, .getfield 320, .getfield 96, .iconst 0, .putfield 289, .iload 2, .invokestatic 160, .aload 0, .getfield 321, .aload 0, .getfield 320, .getfield 97, .invokevirtual 68, .aload 0, .getfield 323, .aload 0, .getfield 320, .getfield 98, .invokevirtual 42, .aload 0, .getfield 324, .invokevirtual 11, .aload 0, .getfield 324, .invokevirtual 12, .aload 0, .iconst 1, .putfield 327, .aload 0, .getfield 321, .getfield 262, .getfield 224, .ireturn]) := rfl
theorem k93_0 : xM93.2.2.2.2.2[0]? = some ([0], [.aload 0, .getfield 320, .getfield 99, .ireturn]) := rfl
theorem k94_0 : xM94.2.2.2.2.2[0]? = some ([0], [.aload 0, .getfield 320, .getfield 100, .ireturn]) := rfl
theorem k95_0 : xM95.2.2.2.2.2[0]? = some ([0], [.aload 0, .getfield 320, .getfield 96, .getfield 289, .ireturn]) := rfl
theorem k96_0 : xM96.2.2.2.2.2[0]? = some ([0, 1], [.aload 0, .invokevirtual 155, .iload 1, .iconst 0, .iconst 16, .invokestatic 159, .iload 1, .tableswitch 17 0 15 #[1, 2, 3, 4, 5, 6, 7, 8, 9, 10, 11, 12, 13, 14, 15, 16]]) := rfl
theorem k96_1 : xM96.2.2.2.2.2[1]? = some ([0], [.aload 0, .getfield 321, .getfield 262, .getfield 224, .ireturn]) := rfl
theorem k96_2 : xM96.2.2.2.2.2[2]? = some ([0], [.aload 0, .getfield 323, .getfield 192, .ireturn]) := rfl
theorem k96_3 : xM96.2.2.2.2.2[3]? = some ([0], [.aload 0, .getfield 321, .getfield 264, .getfield 128, .ireturn]) := rfl
theorem k96_4 : xM96.2.2.2.2.2[4]? = some ([0], [.aload 0, .getfield 321, .getfield 256, .ireturn]) := rfl
theorem k96_5 : xM96.2.2.2.2.2[5]? = some ([0], [.aload 0, .getfield 321, .getfield 262, .invokevirtual 55, .ireturn]) := rfl
theorem k96_6 : xM96.2.2.2.2.2[6]? = some ([0], [.aload 0, .getfield 321, .getfield 263, .getfield 32, .ireturn]) := rfl
theorem k96_7 : xM96.2.2.2.2.2[7]? = some ([0], [.aload 0, .getfield 321, .getfield 257, .ireturn]) := rfl
theorem k96_8 : xM96.2.2.2.2.2[8]? = some ([0], [.aload 0, .getfield 321, .getfield 264, .iconst 2, .invokevirtual 30, .ireturn]) := rfl
theorem k96_9 : xM96.2.2.2.2.2[9]? = some ([0], [.aload 0, .getfield 321, .getfield 258, .ireturn]) := rfl
theorem k96_10 : xM96.2.2.2.2.2[10]? = some ([0], [.aload 0, .getfield 321, .getfield 259, .ireturn]) := rfl
theorem k96_11 : xM96.2.2.2.2.2[11]? = some ([0], [.aload 0, .invokevirtual 166, .invokestatic 383, .ireturn]) := rfl
theorem k96_12 : xM96.2.2.2.2.2[12]? = some ([0], [.aload 0, .getfield 321, .getfield 264, .iconst 0, .invokevirtual 30, .ireturn]) := rfl
theorem k96_13 : xM96.2.2.2.2.2[13]? = some ([0], [.aload 0, .getfield 321, .getfield 262, .iconst 0, .invokevirtual 62, .invokestatic 383, .ireturn]) := rfl
theorem k96_14 : xM96.2.2.2.2.2[14]? = some ([0], [.aload 0, .getfield 321, .getfield 262, .invokevirtual 57, .ireturn]) := rfl
theorem k96_15 : xM96.2.2.2.2.2[15]? = some ([0], [.aload 0, .getfield 321, .getfield 262, .aload 0, .getfield 321, .getfield 260, .iconst 0, .iaload, .invokevirtual 58, .ireturn]) := rfl
theorem k96_16 : xM96.2.2.2.2.2[16]? = some ([0], [.aload 0, .getfield 321, .getfield 262, .invokevirtual 59, .ireturn]) := rfl
theorem k96_17 : xM96.2.2.2.2.2[17]? = some ([0], [.aload 0, .invokevirtual 167, .ireturn]) := rfl
theorem k97_0 : xM97.2.2.2.2.2[0]? = some ([0, 1], [.aload 0, .invokevirtual 155, .iload 1, .iconst 0, .iconst 5, .invokestatic 159, .aload 0, .getfield 321, .getfield 260, .iload 1, .iaload, .ireturn]) := rfl
theorem k98_0 : xM98.2.2.2.2.2[0]? = some ([0, 1, 2], [.aload 0, .invokevirtual 155, .aload 0, .iload 1, .invokevirtual 156, .iload 2, .iconst 0, .iconst 12, .invokestatic 159, .aload 0, .getfield 321, .getfield 262, .astore 3, .iload 2, .tableswitch 13 0 11 #[1, 2, 3, 4, 5, 6, 7, 8, 9, 10, 11, 12]]) := rfl
theorem k98_1 : xM98.2.2.2.2.2[1]? = some ([1, 3], [.aload 3, .getfield 229, .iload 1, .iaload, .ireturn]) := rfl
theorem k98_2 : xM98.2.2.2.2.2[2]? = some ([1, 3], [.aload 3, .getfield 230, .iload 1, .iaload, .ireturn]) := rfl
theorem k98_3 : xM98.2.2.2.2.2[3]? = some ([1, 3], [.aload 3, .getfield 226, .iload 1, .iaload, .ireturn]) := rfl
theorem k98_4 : xM98.2.2.2.2.2[4]? = some ([1, 3], [.aload 3, .getfield 227, .iload 1, .iaload, .ireturn]) := rfl
theorem k98_5 : xM98.2.2.2.2.2[5]? = some ([1, 3], [.aload 3, .getfield 228, .iload 1, .iaload, .ireturn]) := rfl
theorem k98_6 : xM98.2.2.2.2.2[6]? = some ([1, 3], [.aload 3, .iload 1, .invokevirtual 50, .ireturn]) := rfl
theorem k98_7 : xM98.2.2.2.2.2[7]? = some ([1, 3], [.aload 3, .iload 1, .invokevirtual 51, .ireturn]) := rfl
theorem k98_8 : xM98.2.2.2.2.2[8]? = some ([1, 3], [.aload 3, .getfield 232, .iload 1, .iaload, .ireturn]) := rfl
theorem k98_9 : xM98.2.2.2.2.2[9]? = some ([1, 3], [.aload 3, .getfield 225, .iload 1, .iaload, .ireturn]) := rfl
theorem k98_10 : xM98.2.2.2.2.2[10]? = some ([0, 1], [.aload 0, .iload 1, .invokevirtual 168, .ireturn]) := rfl
theorem k98_11 : xM98.2.2.2.2.2[11]? = some ([1, 3], [.aload 3, .getfield 230, .iconst 0, .iaload, .aload 3, .getfield 230, .iload 1, .iaload, .isub, .ireturn]) := rfl
theorem k98_12 : xM98.2.2.2.2.2[12]? = some ([1, 3], [.aload 3, .aload 3, .getfield 228, .iload 1, .iaload, .invokevirtual 63, .ireturn]) := rfl
theorem k98_13 : xM98.2.2.2.2.2[13]? = some ([0, 1, 3], [.aload 0, .getfield 321, .getfield 263, .aload 3, .getfield 230, .iload 1, .iaload, .aload 3, .getfield 230, .iload 1, .iaload, .invokevirtual 7, .ifCond .le 15, .goto_w 14]) := rfl
theorem k98_14 : xM98.2.2.2.2.2[14]? = some ([], [.iconst 1, .goto 16]) := rfl
theorem k98_15 : xM98.2.2.2.2.2[15]? = some ([], [.iconst 0, .goto_w 16]) := rfl
theorem k98_16 : xM98.2.2.2.2.2[16]? = some ([], [.ireturn]) := rfl
theorem k99_0 : xM99.2.2.2.2.2[0]? = some ([0, 1, 2], [.aload 0, .invokevirtual 155, .aload 0, .iload 1, .invokevirtual 157, .iload 2, .iconst 0, .iconst 8, .invokestatic 159, .aload 0, .getfield 321, .getfield 260, .iconst 1, .iaload, .istore 3, .iload 2, .tableswitch 9 0 7 #[1, 2, 3, 4, 5, 6, 7, 8]]) := rfl
theorem k99_1 : xM99.2.2.2.2.2[1]? = some ([0, 1], [.aload 0, .getfield 323, .getfield 193, .iload 1, .iaload, .ireturn]) := rfl
theorem k99_2 : xM99.2.2.2.2.2[2]? = some ([0, 1], [.aload 0, .getfield 323, .getfield 194, .iload 1, .iaload, .ireturn]) := rfl
theorem k99_3 : xM99.2.2.2.2.2[3]? = some ([0, 1], [.aload 0, .getfield 323, .getfield 195, .iload 1, .iaload, .ireturn]) := rfl
theorem k99_4 : xM99.2.2.2.2.2[4]? = some ([0, 1], [.aload 0, .getfield 321, .getfield 261, .iload 1, .iaload, .ireturn]) := rfl
theorem k99_5 : xM99.2.2.2.2.2[5]? = some ([0, 1], [.aload 0, .iload 1, .invokevirtual 169, .invokestatic 383, .ireturn]) := rfl
theorem k99_6 : xM99.2.2.2.2.2[6]? = some ([0, 1], [.aload 0, .iload 1, .invokevirtual 161, .getfield 160, .ireturn]) := rfl
theorem k99_7 : xM99.2.2.2.2.2[7]? = some ([0, 1], [.aload 0, .getfield 321, .getfield 262, .aload 0, .getfield 323, .getfield 194, .iload 1, .iaload, .invokevirtual 66, .ireturn]) := rfl
theorem k99_8 : xM99.2.2.2.2.2[8]? = some ([0, 1, 3], [.aload 0, .getfield 321, .getfield 262, .aload 0, .getfield 323, .getfield 194, .iload 1, .iaload, .iload 3, .iadd, .invokevirtual 64, .ireturn]) := rfl
theorem k99_9 : xM99.2.2.2.2.2[9]? = some ([0, 1, 3], [.aload 0, .getfield 321, .getfield 262, .aload 0, .getfield 323, .getfield 194, .iload 1, .iaload, .iload 3, .isub, .invokevirtual 65, .ireturn]) := rfl
theorem k100_0 : xM100.2.2.2.2.2[0]? = some ([0, 1, 2], [.aload 0, .invokevirtual 155, .aload 0, .getfield 321, .getfield 264, .astore 3, .iload 1, .aload 3, .getfield 128, .invokestatic 158, .iload 2, .iconst 0, .iconst 3, .invokestatic 159, .iload 2, .tableswitch 4 0 2 #[1, 2, 3]]) := rfl
theorem k100_1 : xM100.2.2.2.2.2[1]? = some ([1, 3], [.aload 3, .getfield 129, .iload 1, .iaload, .ireturn]) := rfl
theorem k100_2 : xM100.2.2.2.2.2[2]? = some ([1, 3], [.aload 3, .getfield 130, .iload 1, .iaload, .ireturn]) := rfl
theorem k100_3 : xM100.2.2.2.2.2[3]? = some ([1, 3], [.aload 3, .getfield 131, .iload 1, .iaload, .ireturn]) := rfl
theorem k100_4 : xM100.2.2.2.2.2[4]? = some ([0, 1, 3], [.aload 3, .getfield 131, .iload 1, .iaload, .ifCond .ne 6, .goto_w 5]) := rfl
theorem k100_5 : xM100.2.2.2.2.2[5]? = some ([0, 1, 3], [.aload 3, .getfield 129, .iload 1, .iaload, .aload 0, .getfield 321, .getfield 256, .isub, .goto 7]) := rfl
theorem k100_6 : xM100.2.2.2.2.2[6]? = some ([], [.iconst (-1), .goto_w 7]) := rfl
theorem k100_7 : xM100.2.2.2.2.2[7]? = some ([], [.ireturn]) := rfl
theorem k101_0 : xM101.2.2.2.2.2[0]? = some ([0, 1, 2], [.aload 0, .invokevirtual 155, .aload 0, .getfield 321, .getfield 263, .astore 3, .iload 1, .aload 3, .getfield 32, .invokestatic 158, .iload 2, .iconst 0, .iconst 2, .invokestatic 159, .iload 2, .lookupswitch 3 #[(0, 1), (1, 2)]]) := rfl
theorem k101_1 : xM101.2.2.2.2.2[1]? = some ([1, 3], [.aload 3, .getfield 33, .iload 1, .iaload, .ireturn]) := rfl
theorem k101_2 : xM101.2.2.2.2.2[2]? = some ([1, 3], [.aload 3, .getfield 34, .iload 1, .iaload, .ireturn]) := rfl
theorem k101_3 : xM101.2.2.2.2.2[3]? = some ([1, 3], [.aload 3, .getfield 35, .iload 1, .iaload, .ireturn]) := rfl
theorem k102_0 : xM102.2.2.2.2.2[0]? = some ([0, 1, 2], [.aload 0, .invokevirtual 155, .aload 0, .iload 1, .invokevirtual 157, .aload 0, .getfield 323, .iload 1, .iload 2, .invokevirtual 45, .ireturn]) := rfl
theorem k103_0 : xM103.2.2.2.2.2[0]? = some ([0, 1, 2], [.aload 0, .invokevirtual 155, .aload 0, .iload 1, .invokevirtual 157, .aload 0, .iload 1, .invokevirtual 161, .iload 2, .invokevirtual 35, .ireturn]) := rfl
theorem k104_0 : xM104.2.2.2.2.2[0]? = some ([0, 1], [.aload 0, .invokevirtual 155, .aload 0, .iload 1, .invokevirtual 157, .aload 0, .iload 1, .invokevirtual 169, .ireturn]) := rfl
theorem k105_0 : xM105.2.2.2.2.2[0]? = some ([0, 1], [.aload 0, .invokevirtual 155, .aload 0, .iload 1, .invokevirtual 157, .aload 0, .iload 1, .invokevirtual 161, .aload 0, .getfield 323, .iload 1, .invokevirtual 37, .ireturn]) := rfl
theorem k106_0 : xM106.2.2.2.2.2[0]? = some ([0, 1], [.aload 0, .invokevirtual 155, .aload 0, .iload 1, .invokevirtual 157, .aload 0, .iload 1, .invokevirtual 161, .aload 0, .getfield 323, .iload 1, .invokevirtual 39, .ireturn]) := rfl
theorem k107_0 : xM107.2.2.2.2.2[0]? = some ([0, 1], [.aload 0, .invokevirtual 155, .aload 0, .iload 1, .invokevirtual 157, .aload 0, .iload 1, .invokevirtual 161, .aload 0, .getfield 323, .iload 1, .invokevirtual 40, .freturn]) := rfl
theorem k108_0 : xM108.2.2.2.2.2[0]? = some ([0, 1], [.aload 0, .invokevirtual 155, .aload 0, .iload 1, .invokevirtual 157, .aload 0, .iload 1, .invokevirtual 161, .aload 0, .getfield 323, .iload 1, .invokevirtual 40, .invokestatic 170, .ireturn]) := rfl
theorem k109_0 : xM109.2.2.2.2.2[0]? = some ([0, 1], [.aload 0, .invokevirtual 155, .aload 0, .iload 1, .invokevirtual 157, .iconst 0, .istore 2, .iconst 1, .istore 3, .goto_w 1]) := rfl
theorem k109_1 : xM109.2.2.2.2.2[1]? = some ([0, 1, 2, 3], [.iload 3, .iconst 26, .if_icmp .gt 3, .goto_w 2]) := rfl
theorem k109_2 : xM109.2.2.2.2.2[2]? = some ([0, 1, 2, 3], [.iload 2, .iconst 0, .aload 0, .getfield 323, .iload 1, .iload 3, .invokevirtual 46, .aload 0, .getfield 321, .getfield 262, .iload 3, .invokevirtual 56, .isub, .invokestatic 385, .iadd, .istore 2, .iinc 3 1, .goto 1]) := rfl
theorem k109_3 : xM109.2.2.2.2.2[3]? = some ([2], [.iload 2, .ireturn]) := rfl
theorem k110_0 : xM110.2.2.2.2.2[0]? = some ([0, 1, 2], [.aload 0, .invokevirtual 155, .aload 0, .iload 1, .invokevirtual 157, .aload 0, .iload 1, .invokevirtual 161, .iload 2, .invokevirtual 36, .ireturn]) := rfl
theorem k111_0 : xM111.2.2.2.2.2[0]? = some ([0, 1], [.aload 0, .invokevirtual 155, .aload 0, .iload 1, .invokevirtual 157, .aload 0, .iload 1, .invokevirtual 161, .astore 2, .aload 2, .getfield 160, .aload 2, .getfield 161, .isub, .ireturn]) := rfl
theorem k112_0 : xM112.2.2.2.2.2[0]? = some ([0, 1], [.aload 0, .invokevirtual 155, .aload 0, .iload 1, .invokevirtual 157, .aload 0, .iload 1, .invokevirtual 161, .aload 0, .getfield 323, .iload 1, .invokevirtual 38, .ireturn]) := rfl
theorem k113_0 : xM113.2.2.2.2.2[0]? = some ([0, 1], [.aload 0, .invokevirtual 155, .iload 1, .iconst 1, .iconst 26, .invokestatic 159, .iconst 0, .istore 2, .goto_w 1]) := rfl
theorem k113_1 : xM113.2.2.2.2.2[1]? = some ([0, 1, 2], [.iload 2, .aload 0, .getfield 321, .getfield 262, .getfield 224, .if_icmp .ge 5, .goto_w 2]) := rfl
theorem k113_2 : xM113.2.2.2.2.2[2]? = some ([0, 1, 2], [.aload 0, .getfield 321, .getfield 262, .getfield 229, .iload 2, .iaload, .iload 1, .if_icmp .ne 4, .goto_w 3]) := rfl
theorem k113_3 : xM113.2.2.2.2.2[3]? = some ([2], [.iload 2, .ireturn]) := rfl
theorem k113_4 : xM113.2.2.2.2.2[4]? = some ([0, 1, 2], [.iinc 2 1, .goto 1]) := rfl
theorem k113_5 : xM113.2.2.2.2.2[5]? = some ([], [.iconst (-1), .ireturn]) := rfl
theorem k114_0 : xM114.2.2.2.2.2[0]? = some ([0, 1], [.aload 0, .invokevirtual 155, .iload 1, .iconst 1, .iconst 26, .invokestatic 159, .aload 0, .getfield 321, .getfield 262, .iload 1, .invokevirtual 56, .aload 0, .getfield 321, .getfield 263, .iload 1, .invokevirtual 9, .iadd, .ireturn]) := rfl
theorem k115_0 : xM115.2.2.2.2.2[0]? = some ([0, 1], [.aload 0, .invokevirtual 155, .iload 1, .iconst 0, .iconst 100, .invokestatic 159, .aload 0, .getfield 321, .getfield 262, .iload 1, .invokevirtual 62, .ireturn]) := rfl
theorem k116_0 : xM116.2.2.2.2.2[0]? = some ([0], [.aload 0, .invokevirtual 155, .iconst 0, .istore 1, .iconst 0, .istore 2, .goto_w 1]) := rfl
theorem k116_1 : xM116.2.2.2.2.2[1]? = some ([0, 1, 2], [.iload 2, .aload 0, .getfield 321, .getfield 262, .getfield 224, .if_icmp .ge 5, .goto_w 2]) := rfl
theorem k116_2 : xM116.2.2.2.2.2[2]? = some ([0, 1, 2], [.aload 0, .getfield 321, .iload 2, .invokevirtual 74, .ifCond .eq 4, .goto_w 3]) := rfl
theorem k116_3 : xM116.2.2.2.2.2[3]? = some ([0, 1, 2], [.iload 1, .iconst 1, .iload 2, .ishl, .ior, .istore 1, .goto_w 4]) := rfl
theorem k116_4 : xM116.2.2.2.2.2[4]? = some ([0, 1, 2], [.iinc 2 1, .goto 1]) := rfl
theorem k116_5 : xM116.2.2.2.2.2[5]? = some ([1], [.iload 1, .ireturn]) := rfl
theorem k117_0 : xM117.2.2.2.2.2[0]? = some ([0], [.aload 0, .invokevirtual 155, .aload 0, .getfield 321, .getfield 264, .invokevirtual 31, .ireturn]) := rfl
theorem k118_0 : xM118.2.2.2.2.2[0]? = some ([0, 1, 2], [.aload 0, .invokevirtual 155, .aload 0, .getfield 321, .getfield 263, .iload 1, .iload 2, .invokevirtual 7, .ireturn]) := rfl
theorem k119_0 : xM119.2.2.2.2.2[0]? = some ([0], [.aload 0, .invokevirtual 155, .iconst (-1), .istore 1, .ldc_w 3212836864, .fstore 2, .iconst 0, .istore 3, .goto_w 1]) := rfl
theorem k119_1 : xM119.2.2.2.2.2[1]? = some ([0, 1, 2, 3], [.iload 3, .aload 0, .getfield 323, .getfield 192, .if_icmp .ge 5, .goto_w 2]) := rfl
theorem k119_2 : xM119.2.2.2.2.2[2]? = some ([0, 1, 2, 3], [.aload 0, .iload 3, .invokevirtual 161, .aload 0, .getfield 323, .iload 3, .invokevirtual 40, .fstore 4, .fload 4, .fload 2, .fcmp .l, .ifCond .le 4, .goto_w 3]) := rfl
theorem k119_3 : xM119.2.2.2.2.2[3]? = some ([0, 3, 4], [.iload 3, .istore 1, .fload 4, .fstore 2, .goto_w 4]) := rfl
theorem k119_4 : xM119.2.2.2.2.2[4]? = some ([0, 1, 2, 3], [.iinc 3 1, .goto 1]) := rfl
theorem k119_5 : xM119.2.2.2.2.2[5]? = some ([1], [.iload 1, .ireturn]) := rfl
theorem k120_0 : xM120.2.2.2.2.2[0]? = some ([0], [.aload 0, .invokevirtual 155, .aload 0, .invokevirtual 166, .ireturn]) := rfl
theorem k121_0 : xM121.2.2.2.2.2[0]? = some ([0], [.aload 0, .invokevirtual 155, .iconst (-1), .istore 1, .iconst 0, .istore 2, .goto_w 1]) := rfl
theorem k121_1 : xM121.2.2.2.2.2[1]? = some ([0, 1, 2], [.iload 2, .aload 0, .getfield 321, .getfield 262, .getfield 224, .if_icmp .ge 6, .goto_w 2]) := rfl
theorem k121_2 : xM121.2.2.2.2.2[2]? = some ([0, 1, 2], [.iload 1, .iconst (-1), .if_icmp .eq 4, .goto_w 3]) := rfl
theorem k121_3 : xM121.2.2.2.2.2[3]? = some ([0, 1, 2], [.aload 0, .getfield 321, .getfield 262, .getfield 228, .iload 2, .iaload, .aload 0, .getfield 321, .getfield 262, .getfield 228, .iload 1, .iaload, .if_icmp .ge 5, .goto_w 4]) := rfl
theorem k121_4 : xM121.2.2.2.2.2[4]? = some ([0, 2], [.iload 2, .istore 1, .goto_w 5]) := rfl
theorem k121_5 : xM121.2.2.2.2.2[5]? = some ([0, 1, 2], [.iinc 2 1, .goto 1]) := rfl
theorem k121_6 : xM121.2.2.2.2.2[6]? = some ([1], [.iload 1, .ireturn]) := rfl
theorem k122_0 : xM122.2.2.2.2.2[0]? = some ([0], [.aload 0, .invokevirtual 155, .iconst (-1), .istore 1, .iconst 1, .istore 2, .goto_w 1]) := rfl
theorem k122_1 : xM122.2.2.2.2.2[1]? = some ([0, 1, 2], [.iload 2, .aload 0, .getfield 321, .getfield 262, .getfield 224, .if_icmp .ge 6, .goto_w 2]) := rfl
theorem k122_2 : xM122.2.2.2.2.2[2]? = some ([0, 1, 2], [.iload 1, .iconst (-1), .if_icmp .eq 4, .goto_w 3]) := rfl
theorem k122_3 : xM122.2.2.2.2.2[3]? = some ([0, 1, 2], [.aload 0, .getfield 321, .getfield 262, .iload 2, .invokevirtual 51, .aload 0, .getfield 321, .getfield 262, .iload 1, .invokevirtual 51, .if_icmp .le 5, .goto_w 4]) := rfl
theorem k122_4 : xM122.2.2.2.2.2[4]? = some ([0, 2], [.iload 2, .istore 1, .goto_w 5]) := rfl
theorem k122_5 : xM122.2.2.2.2.2[5]? = some ([0, 1, 2], [.iinc 2 1, .goto 1]) := rfl
theorem k122_6 : xM122.2.2.2.2.2[6]? = some ([1], [.iload 1, .ireturn]) := rfl
theorem k123_0 : xM123.2.2.2.2.2[0]? = some ([0], [.aload 0, .invokevirtual 155, .aload 0, .getfield 321, .getfield 262, .astore 1, .aload 1, .getfield 224, .iconst 2, .if_icmp .ge 2, .goto_w 1]) := rfl
theorem k123_1 : xM123.2.2.2.2.2[1]? = some ([], [.iconst 0, .goto 3]) := rfl
theorem k123_2 : xM123.2.2.2.2.2[2]? = some ([1], [.aload 1, .getfield 230, .iconst 0, .iaload, .aload 1, .getfield 230, .aload 1, .getfield 224, .iconst 1, .isub, .iaload, .isub, .goto_w 3]) := rfl
theorem k123_3 : xM123.2.2.2.2.2[3]? = some ([], [.ireturn]) := rfl
theorem k124_0 : xM124.2.2.2.2.2[0]? = some ([0], [.aload 0, .invokevirtual 155, .aload 0, .getfield 321, .getfield 262, .invokevirtual 61, .dreturn]) := rfl
theorem k125_0 : xM125.2.2.2.2.2[0]? = some ([0], [.aload 0, .invokevirtual 155, .aload 0, .getfield 321, .getfield 262, .invokevirtual 61, .invokestatic 171, .lreturn]) := rfl
theorem k126_0 : xM126.2.2.2.2.2[0]? = some ([0, 1], [.aload 0, .invokevirtual 155, .aload 0, .iload 1, .invokevirtual 157, .aload 0, .getfield 322, .aload 0, .getfield 321, .invokevirtual 68, .iconst 0, .istore 2, .goto_w 1]) := rfl
theorem k126_1 : xM126.2.2.2.2.2[1]? = some ([0, 1, 2], [.iload 2, .iconst 300, .if_icmp .ge 5, .goto_w 2]) := rfl
theorem k126_2 : xM126.2.2.2.2.2[2]? = some ([0, 1, 2], [.aload 0, .iload 1, .invokevirtual 162, .aload 0, .getfield 323, .iload 1, .invokevirtual 39, .ifCond .eq 4, .goto_w 3]) := rfl
theorem k126_3 : xM126.2.2.2.2.2[3]? = some ([2], [.iload 2, .ireturn]) := rfl
theorem k126_4 : xM126.2.2.2.2.2[4]? = some ([0, 1, 2], [.aload 0, .getfield 322, .invokevirtual 70, .iinc 2 1, .goto 1]) := rfl
theorem k126_5 : xM126.2.2.2.2.2[5]? = some ([0, 1], [.aload 0, .iload 1, .invokevirtual 162, .aload 0, .getfield 323, .iload 1, .invokevirtual 39, .ifCond .eq 7, .goto_w 6]) := rfl
theorem k126_6 : xM126.2.2.2.2.2[6]? = some ([], [.iconst 300, .goto 8]) := rfl
theorem k126_7 : xM126.2.2.2.2.2[7]? = some ([], [.iconst (-1), .goto_w 8]) := rfl
theorem k126_8 : xM126.2.2.2.2.2[8]? = some ([], [.ireturn]) := rfl
theorem k127_0 : xM127.2.2.2.2.2[0]? = some ([0, 1], [.aload 0, .invokevirtual 155, .aload 0, .iload 1, .invokevirtual 157, .aload 0, .getfield 323, .getfield 194, .iload 1, .iaload, .aload 0, .getfield 321, .getfield 260, .iconst 1, .iaload, .iadd, .istore 2, .aload 0, .getfield 322, .aload 0, .getfield 321, .invokevirtual 68, .iconst 0, .istore 3, .goto_w 1]) := rfl
theorem k127_1 : xM127.2.2.2.2.2[1]? = some ([0, 2, 3], [.iload 3, .iconst 300, .if_icmp .ge 5, .goto_w 2]) := rfl
theorem k127_2 : xM127.2.2.2.2.2[2]? = some ([0, 2, 3], [.aload 0, .getfield 322, .getfield 262, .iload 2, .invokevirtual 64, .aload 0, .getfield 322, .getfield 262, .getfield 224, .if_icmp .ne 4, .goto_w 3]) := rfl
theorem k127_3 : xM127.2.2.2.2.2[3]? = some ([3], [.iload 3, .ireturn]) := rfl
theorem k127_4 : xM127.2.2.2.2.2[4]? = some ([0, 2, 3], [.aload 0, .getfield 322, .invokevirtual 70, .iinc 3 1, .goto 1]) := rfl
theorem k127_5 : xM127.2.2.2.2.2[5]? = some ([0, 2], [.aload 0, .getfield 322, .getfield 262, .iload 2, .invokevirtual 64, .aload 0, .getfield 322, .getfield 262, .getfield 224, .if_icmp .ne 7, .goto_w 6]) := rfl
theorem k127_6 : xM127.2.2.2.2.2[6]? = some ([], [.iconst 300, .goto 8]) := rfl
theorem k127_7 : xM127.2.2.2.2.2[7]? = some ([], [.iconst (-1), .goto_w 8]) := rfl
theorem k127_8 : xM127.2.2.2.2.2[8]? = some ([], [.ireturn]) := rfl
theorem k128_0 : xM128.2.2.2.2.2[0]? = some ([0, 1, 2], [.aload 0, .invokevirtual 155, .aload 0, .iload 1, .invokevirtual 156, .iload 2, .iconst 0, .iconst 300, .invokestatic 159, .aload 0, .iload 2, .invokevirtual 163, .aload 0, .getfield 322, .getfield 262, .getfield 230, .iload 1, .iaload, .ireturn]) := rfl
theorem k129_0 : xM129.2.2.2.2.2[0]? = some ([0, 1, 2], [.aload 0, .invokevirtual 155, .aload 0, .iload 1, .invokevirtual 156, .iload 2, .iconst 0, .iconst 300, .invokestatic 159, .aload 0, .iload 2, .invokevirtual 163, .aload 0, .getfield 322, .getfield 262, .getfield 228, .iload 1, .iaload, .ireturn]) := rfl
theorem k130_0 : xM130.2.2.2.2.2[0]? = some ([0, 1, 2], [.aload 0, .invokevirtual 155, .aload 0, .iload 1, .invokevirtual 156, .iload 2, .iconst 0, .iconst 300, .invokestatic 159, .aload 0, .iload 2, .invokevirtual 163, .aload 0, .getfield 322, .getfield 262, .getfield 229, .iload 1, .iaload, .ireturn]) := rfl
theorem k131_0 : xM131.2.2.2.2.2[0]? = some ([0, 1], [.aload 0, .invokevirtual 155, .iload 1, .iconst 0, .iconst 300, .invokestatic 159, .aload 0, .iload 1, .invokevirtual 163, .aload 0, .getfield 322, .getfield 258, .aload 0, .getfield 321, .getfield 258, .isub, .ireturn]) := rfl
theorem k132_0 : xM132.2.2.2.2.2[0]? = some ([0], [.aload 0, .invokevirtual 155, .aload 0, .getfield 322, .aload 0, .getfield 321, .invokevirtual 68, .aload 0, .iconst 300, .invokevirtual 164, .ireturn]) := rfl
theorem k133_0 : xM133.2.2.2.2.2[0]? = some ([0, 1, 2], [.aload 0, .invokevirtual 155, .aload 0, .iload 1, .invokevirtual 157, .iload 2, .iconst 0, .iconst 300, .invokestatic 159, .aload 0, .iload 2, .invokevirtual 163, .aload 0, .iload 1, .invokevirtual 162, .aload 0, .getfield 323, .iload 1, .invokevirtual 40, .freturn]) := rfl
theorem k134_0 : xM134.2.2.2.2.2[0]? = some ([0, 1, 2], [.aload 0, .invokevirtual 155, .aload 0, .iload 1, .invokevirtual 157, .iload 2, .iconst 0, .iconst 300, .invokestatic 159, .aload 0, .getfield 322, .aload 0, .getfield 321, .invokevirtual 68, .aload 0, .iload 1, .invokevirtual 162, .aload 0, .getfield 323, .iload 1, .invokevirtual 40, .fstore 3, .iconst 0, .istore 4, .goto_w 1]) := rfl
theorem k134_1 : xM134.2.2.2.2.2[1]? = some ([0, 1, 2, 3, 4], [.iload 4, .iload 2, .if_icmp .ge 6, .goto_w 2]) := rfl
theorem k134_2 : xM134.2.2.2.2.2[2]? = some ([0, 1, 2, 3, 4], [.aload 0, .getfield 322, .invokevirtual 70, .aload 0, .iload 1, .invokevirtual 162, .aload 0, .getfield 323, .iload 1, .invokevirtual 40, .fstore 5, .fload 5, .fload 3, .fcmp .l, .ifCond .le 4, .goto_w 3]) := rfl
theorem k134_3 : xM134.2.2.2.2.2[3]? = some ([0, 1, 2, 4, 5], [.fload 5, .goto 5]) := rfl
theorem k134_4 : xM134.2.2.2.2.2[4]? = some ([0, 1, 2, 3, 4], [.fload 3, .goto_w 5]) := rfl
theorem k134_5 : xM134.2.2.2.2.2[5]? = some ([0, 1, 2, 4], [.fstore 3, .iinc 4 1, .goto 1]) := rfl
theorem k134_6 : xM134.2.2.2.2.2[6]? = some ([3], [.fload 3, .freturn]) := rfl
theorem k135_0 : xM135.2.2.2.2.2[0]? = some ([0, 1], [.aload 0, .invokevirtual 155, .aload 0, .iload 1, .invokevirtual 157, .iconst (-1), .istore 2, .aload 0, .iload 1, .invokevirtual 161, .aload 0, .getfield 323, .iload 1, .invokevirtual 40, .fstore 3, .aload 0, .getfield 322, .aload 0, .getfield 321, .invokevirtual 68, .iconst 0, .istore 4, .goto_w 1]) := rfl
theorem k135_1 : xM135.2.2.2.2.2[1]? = some ([0, 1, 2, 3, 4], [.iload 4, .iconst 1, .iadd, .aload 0, .getfield 322, .getfield 262, .getfield 224, .if_icmp .ge 5, .goto_w 2]) := rfl
theorem k135_2 : xM135.2.2.2.2.2[2]? = some ([0, 1, 2, 3, 4], [.aload 0, .getfield 322, .getfield 262, .iload 4, .invokevirtual 53, .aload 0, .iload 1, .invokevirtual 162, .aload 0, .getfield 323, .iload 1, .invokevirtual 40, .fstore 5, .aload 0, .getfield 322, .getfield 262, .iload 4, .invokevirtual 53, .fload 5, .fload 3, .fcmp .l, .ifCond .le 4, .goto_w 3]) := rfl
theorem k135_3 : xM135.2.2.2.2.2[3]? = some ([0, 1, 4, 5], [.iload 4, .istore 2, .fload 5, .fstore 3, .goto_w 4]) := rfl
theorem k135_4 : xM135.2.2.2.2.2[4]? = some ([0, 1, 2, 3, 4], [.iinc 4 1, .goto 1]) := rfl
theorem k135_5 : xM135.2.2.2.2.2[5]? = some ([2], [.iload 2, .ireturn]) := rfl
theorem k136_0 : xM136.2.2.2.2.2[0]? = some ([0, 1], [.aload 0, .invokevirtual 155, .aload 0, .iload 1, .invokevirtual 156, .iload 1, .ifCond .ne 2, .goto_w 1]) := rfl
theorem k136_1 : xM136.2.2.2.2.2[1]? = some ([], [.iconst (-1), .ireturn]) := rfl
theorem k136_2 : xM136.2.2.2.2.2[2]? = some ([0, 1], [.aload 0, .getfield 321, .getfield 260, .iconst 0, .iaload, .istore 2, .aload 0, .getfield 322, .aload 0, .getfield 321, .invokevirtual 68, .iconst 0, .istore 3, .goto_w 3]) := rfl
theorem k136_3 : xM136.2.2.2.2.2[3]? = some ([0, 1, 2, 3], [.iload 3, .iconst 300, .if_icmp .ge 7, .goto_w 4]) := rfl
theorem k136_4 : xM136.2.2.2.2.2[4]? = some ([0, 1, 2, 3], [.aload 0, .getfield 322, .getfield 262, .iload 1, .invokevirtual 51, .iload 2, .if_icmp .ne 6, .goto_w 5]) := rfl
theorem k136_5 : xM136.2.2.2.2.2[5]? = some ([3], [.iload 3, .ireturn]) := rfl
theorem k136_6 : xM136.2.2.2.2.2[6]? = some ([0, 1, 2, 3], [.aload 0, .getfield 322, .invokevirtual 70, .iinc 3 1, .goto 3]) := rfl
theorem k136_7 : xM136.2.2.2.2.2[7]? = some ([0, 1, 2], [.aload 0, .getfield 322, .getfield 262, .iload 1, .invokevirtual 51, .iload 2, .if_icmp .ne 9, .goto_w 8]) := rfl
theorem k136_8 : xM136.2.2.2.2.2[8]? = some ([], [.iconst 300, .goto 10]) := rfl
theorem k136_9 : xM136.2.2.2.2.2[9]? = some ([], [.iconst (-1), .goto_w 10]) := rfl
theorem k136_10 : xM136.2.2.2.2.2[10]? = some ([], [.ireturn]) := rfl
theorem k137_0 : xM137.2.2.2.2.2[0]? = some ([0], [.aload 0, .invokevirtual 155, .iconst 0, .istore 1, .goto_w 1]) := rfl
theorem k137_1 : xM137.2.2.2.2.2[1]? = some ([0, 1], [.iload 1, .iconst 50, .if_icmp .gt 5, .goto_w 2]) := rfl
theorem k137_2 : xM137.2.2.2.2.2[2]? = some ([0, 1], [.aload 0, .getfield 322, .aload 0, .getfield 321, .invokevirtual 68, .aload 0, .getfield 322, .getfield 260, .iconst 3, .iload 1, .iastore, .aload 0, .iconst 100, .invokevirtual 164, .iconst (-1), .if_icmp .ne 4, .goto_w 3]) := rfl
theorem k137_3 : xM137.2.2.2.2.2[3]? = some ([1], [.iload 1, .ireturn]) := rfl
theorem k137_4 : xM137.2.2.2.2.2[4]? = some ([0, 1], [.iinc 1 1, .goto 1]) := rfl
theorem k137_5 : xM137.2.2.2.2.2[5]? = some ([], [.iconst (-1), .ireturn]) := rfl
theorem k138_0 : xM138.2.2.2.2.2[0]? = some ([0, 1], [.aload 0, .invokevirtual 155, .aload 0, .iload 1, .invokevirtual 157, .aload 0, .iload 1, .invokevirtual 161, .astore 2, .aload 0, .getfield 326, .iconst 0, .putfield 0, .iconst 0, .istore 3, .goto_w 1]) := rfl
theorem k138_1 : xM138.2.2.2.2.2[1]? = some ([0, 2, 3], [.iload 3, .aload 2, .getfield 160, .if_icmp .ge 3, .goto_w 2]) := rfl
theorem k138_2 : xM138.2.2.2.2.2[2]? = some ([0, 2, 3], [.aload 0, .getfield 326, .aload 2, .iload 3, .invokevirtual 35, .invokevirtual 1, .iinc 3 1, .goto 1]) := rfl
theorem k138_3 : xM138.2.2.2.2.2[3]? = some ([0], [.aload 0, .getfield 326, .getfield 0, .ireturn]) := rfl
theorem k139_0 : xM139.2.2.2.2.2[0]? = some ([0], [.aload 0, .invokevirtual 155, .aload 0, .getfield 326, .iconst 0, .putfield 0, .iconst 0, .istore 1, .goto_w 1]) := rfl
theorem k139_1 : xM139.2.2.2.2.2[1]? = some ([0, 1], [.iload 1, .aload 0, .getfield 321, .getfield 262, .getfield 224, .if_icmp .ge 6, .goto_w 2]) := rfl
theorem k139_2 : xM139.2.2.2.2.2[2]? = some ([0, 1], [.aload 0, .getfield 321, .getfield 262, .getfield 229, .iload 1, .iaload, .istore 2, .aload 0, .getfield 326, .iload 2, .ifCond .ne 4, .goto_w 3]) := rfl
theorem k139_3 : xM139.2.2.2.2.2[3]? = some ([0, 1], [.iconst 45, .goto 5]) := rfl
theorem k139_4 : xM139.2.2.2.2.2[4]? = some ([0, 1, 2], [.iconst 96, .iload 2, .iadd, .goto_w 5]) := rfl
theorem k139_5 : xM139.2.2.2.2.2[5]? = some ([0, 1], [.invokevirtual 1, .iinc 1 1, .goto 1]) := rfl
theorem k139_6 : xM139.2.2.2.2.2[6]? = some ([0], [.aload 0, .getfield 326, .getfield 0, .ireturn]) := rfl
theorem k140_0 : xM140.2.2.2.2.2[0]? = some ([0], [.aload 0, .invokevirtual 155, .aload 0, .getfield 326, .iconst 0, .putfield 0, .iconst 0, .istore 1, .goto_w 1]) := rfl
theorem k140_1 : xM140.2.2.2.2.2[1]? = some ([0, 1], [.iload 1, .aload 0, .getfield 321, .getfield 262, .getfield 224, .if_icmp .ge 5, .goto_w 2]) := rfl
theorem k140_2 : xM140.2.2.2.2.2[2]? = some ([0, 1], [.iload 1, .ifCond .le 4, .goto_w 3]) := rfl
theorem k140_3 : xM140.2.2.2.2.2[3]? = some ([0, 1], [.aload 0, .getfield 326, .iconst 44, .invokevirtual 1, .goto_w 4]) := rfl
theorem k140_4 : xM140.2.2.2.2.2[4]? = some ([0, 1], [.aload 0, .getfield 326, .aload 0, .getfield 321, .getfield 262, .getfield 230, .iload 1, .iaload, .invokevirtual 2, .iinc 1 1, .goto 1]) := rfl
theorem k140_5 : xM140.2.2.2.2.2[5]? = some ([0], [.aload 0, .getfield 326, .getfield 0, .ireturn]) := rfl
theorem k141_0 : xM141.2.2.2.2.2[0]? = some ([0, 1], [.iload 1, .aload 0, .getfield 326, .getfield 0, .invokestatic 158, .aload 0, .getfield 326, .getfield 1, .iload 1, .iaload, .ireturn]) := rfl
theorem k142_0 : xM142.2.2.2.2.2[0]? = some ([0, 1], [.aload 0, .invokevirtual 155, .iload 1, .iconst 1, .iconst 100, .invokestatic 159, .aload 0, .getfield 321, .getfield 256, .iload 1, .iadd, .iconst 5000, .if_icmp .gt 2, .goto_w 1]) := rfl
theorem k142_1 : xM142.2.2.2.2.2[1]? = some ([0, 1], [.iconst 1, .goto 3]) := rfl
theorem k142_2 : xM142.2.2.2.2.2[2]? = some ([0, 1], [.iconst 0, .goto_w 3]) := rfl
theorem k142_3 : xM142.2.2.2.2.2[3]? = some ([0, 1], [.invokestatic 160, .aload 0, .getfield 324, .aload 0, .getfield 321, .invokevirtual 13, .aload 0, .invokevirtual 166, .invokestatic 383, .istore 2, .iconst 0, .istore 3, .goto_w 4]) := rfl
theorem k142_4 : xM142.2.2.2.2.2[4]? = some ([0, 1, 2, 3], [.iload 3, .iload 1, .if_icmp .ge 6, .goto_w 5]) := rfl
theorem k142_5 : xM142.2.2.2.2.2[5]? = some ([0, 1, 2, 3], [.aload 0, .getfield 321, .invokevirtual 70, .aload 0, .invokevirtual 165, .iinc 3 1, .goto 4]) := rfl
theorem k142_6 : xM142.2.2.2.2.2[6]? = some ([0, 2], [.aload 0, .invokevirtual 166, .invokestatic 383, .iload 2, .isub, .ireturn]) := rfl
theorem k143_0 : xM143.2.2.2.2.2[0]? = some ([0, 1], [.aload 0, .invokevirtual 155, .aload 0, .iload 1, .invokevirtual 156, .aload 0, .getfield 321, .iload 1, .invokevirtual 74, .invokestatic 160, .aload 0, .getfield 324, .aload 0, .getfield 321, .invokevirtual 13, .aload 0, .getfield 321, .iload 1, .invokevirtual 75, .aload 0, .getfield 321, .getfield 262, .getfield 229, .iload 1, .iaload, .ireturn]) := rfl
theorem k144_0 : xM144.2.2.2.2.2[0]? = some ([0, 1], [.aload 0, .invokevirtual 155, .aload 0, .iload 1, .invokevirtual 156, .aload 0, .getfield 321, .getfield 262, .getfield 229, .iload 1, .iaload, .ifCond .eq 2, .goto_w 1]) := rfl
theorem k144_1 : xM144.2.2.2.2.2[1]? = some ([0, 1], [.iconst 1, .goto 3]) := rfl
theorem k144_2 : xM144.2.2.2.2.2[2]? = some ([0, 1], [.iconst 0, .goto_w 3]) := rfl
theorem k144_3 : xM144.2.2.2.2.2[3]? = some ([0, 1], [.invokestatic 160, .aload 0, .getfield 324, .aload 0, .getfield 321, .invokevirtual 13, .aload 0, .getfield 321, .iload 1, .invokevirtual 76, .aload 0, .getfield 321, .getfield 263, .getfield 32, .ireturn]) := rfl
theorem k145_0 : xM145.2.2.2.2.2[0]? = some ([0, 1], [.aload 0, .invokevirtual 155, .aload 0, .iload 1, .invokevirtual 156, .aload 0, .getfield 321, .getfield 263, .aload 0, .getfield 321, .getfield 262, .getfield 230, .iload 1, .iaload, .aload 0, .getfield 321, .getfield 262, .getfield 230, .iload 1, .iaload, .invokevirtual 8, .istore 2, .aload 0, .getfield 321, .iload 1, .invokevirtual 77, .ifCond .eq 3, .goto_w 1]) := rfl
theorem k145_1 : xM145.2.2.2.2.2[1]? = some ([0, 1, 2], [.iload 2, .iconst (-1), .if_icmp .eq 3, .goto_w 2]) := rfl
theorem k145_2 : xM145.2.2.2.2.2[2]? = some ([0, 1, 2], [.iconst 1, .goto 4]) := rfl
theorem k145_3 : xM145.2.2.2.2.2[3]? = some ([0, 1, 2], [.iconst 0, .goto_w 4]) := rfl
theorem k145_4 : xM145.2.2.2.2.2[4]? = some ([0, 1, 2], [.invokestatic 160, .aload 0, .getfield 324, .aload 0, .getfield 321, .invokevirtual 13, .aload 0, .getfield 321, .iload 1, .iload 2, .invokevirtual 78, .aload 0, .getfield 321, .getfield 262, .getfield 229, .iload 1, .iaload, .ireturn]) := rfl
theorem k146_0 : xM146.2.2.2.2.2[0]? = some ([0, 1, 2], [.aload 0, .invokevirtual 155, .aload 0, .iload 1, .invokevirtual 156, .iload 2, .iconst (-100), .iconst 100, .invokestatic 159, .aload 0, .getfield 324, .aload 0, .getfield 321, .invokevirtual 13, .aload 0, .getfield 321, .getfield 262, .iload 1, .iload 2, .invokevirtual 52, .aload 0, .getfield 321, .getfield 262, .getfield 228, .iload 1, .iaload, .ireturn]) := rfl
theorem k147_0 : xM147.2.2.2.2.2[0]? = some ([0, 1], [.aload 0, .invokevirtual 155, .iload 1, .iconst 1, .iconst 100, .invokestatic 159, .aload 0, .getfield 324, .aload 0, .getfield 321, .invokevirtual 13, .iconst 0, .istore 2, .goto_w 1]) := rfl
theorem k147_1 : xM147.2.2.2.2.2[1]? = some ([0, 1, 2], [.iload 2, .aload 0, .getfield 321, .getfield 262, .getfield 224, .if_icmp .ge 3, .goto_w 2]) := rfl
theorem k147_2 : xM147.2.2.2.2.2[2]? = some ([0, 1, 2], [.aload 0, .getfield 321, .getfield 262, .iload 2, .iload 1, .invokevirtual 52, .iinc 2 1, .goto 1]) := rfl
theorem k147_3 : xM147.2.2.2.2.2[3]? = some ([0], [.aload 0, .getfield 321, .getfield 262, .invokevirtual 60, .ireturn]) := rfl
theorem k148_0 : xM148.2.2.2.2.2[0]? = some ([0, 1, 2], [.aload 0, .invokevirtual 155, .aload 0, .iload 1, .invokevirtual 156, .iload 2, .iconst 1, .iconst 200, .invokestatic 159, .aload 0, .getfield 324, .aload 0, .getfield 321, .invokevirtual 13, .aload 0, .getfield 321, .getfield 262, .getfield 226, .iload 1, .iaload, .istore 3, .aload 0, .getfield 321, .getfield 262, .getfield 226, .iload 1, .iload 2, .iastore, .iload 3, .ireturn]) := rfl
theorem k149_0 : xM149.2.2.2.2.2[0]? = some ([0, 1, 2], [.aload 0, .invokevirtual 155, .aload 0, .iload 2, .invokevirtual 156, .iload 1, .aload 0, .getfield 321, .getfield 256, .iconst 1, .iadd, .iconst 5000, .invokestatic 159, .iload 2, .iconst 1, .iadd, .aload 0, .getfield 321, .getfield 262, .getfield 224, .if_icmp .ge 3, .goto_w 1]) := rfl
theorem k149_1 : xM149.2.2.2.2.2[1]? = some ([0, 1, 2], [.aload 0, .getfield 321, .getfield 264, .getfield 128, .iconst 12, .if_icmp .ge 3, .goto_w 2]) := rfl
theorem k149_2 : xM149.2.2.2.2.2[2]? = some ([0, 1, 2], [.iconst 1, .goto 4]) := rfl
theorem k149_3 : xM149.2.2.2.2.2[3]? = some ([0, 1, 2], [.iconst 0, .goto_w 4]) := rfl
theorem k149_4 : xM149.2.2.2.2.2[4]? = some ([0, 1, 2], [.invokestatic 160, .aload 0, .getfield 324, .aload 0, .getfield 321, .invokevirtual 13, .aload 0, .getfield 321, .getfield 264, .iload 1, .iload 2, .invokevirtual 29, .aload 0, .getfield 321, .getfield 264, .getfield 128, .iconst 1, .isub, .ireturn]) := rfl
theorem k150_0 : xM150.2.2.2.2.2[0]? = some ([0, 1, 2], [.aload 0, .invokevirtual 155, .iload 1, .iconst 0, .iconst 5, .invokestatic 159, .iload 2, .getstatic 0, .iload 1, .iaload, .getstatic 1, .iload 1, .iaload, .invokestatic 159, .aload 0, .getfield 324, .aload 0, .getfield 321, .invokevirtual 13, .aload 0, .getfield 321, .getfield 260, .iload 1, .iaload, .istore 3, .aload 0, .getfield 321, .getfield 260, .iload 1, .iload 2, .iastore, .iload 3, .ireturn]) := rfl
theorem k151_0 : xM151.2.2.2.2.2[0]? = some ([0], [.aload 0, .getfield 324, .getfield 65, .ifCond .ne 2, .goto_w 1]) := rfl
theorem k151_1 : xM151.2.2.2.2.2[1]? = some ([], [.checkcast 0]) := rfl
theorem k151_2 : xM151.2.2.2.2.2[2]? = some ([0], [.aload 0, .getfield 324, .aload 0, .getfield 321, .invokevirtual 14, .aload 0, .getfield 324, .getfield 65, .ireturn]) := rfl
theorem k152_0 : xM152.2.2.2.2.2[0]? = some ([0], [.aload 0, .getfield 324, .getfield 65, .ireturn]) := rfl
theorem k153_0 : xM153.2.2.2.2.2[0]? = some ([0, 1], [.aload 0, .invokevirtual 155, .iload 1, .iconst 2, .invokestatic 158, .aload 0, .getfield 324, .iload 1, .aload 0, .getfield 321, .invokevirtual 15, .aload 0, .getfield 321, .getfield 256, .ireturn]) := rfl
theorem k154_0 : xM154.2.2.2.2.2[0]? = some ([0, 1], [.iload 1, .iconst 2, .invokestatic 158, .aload 0, .getfield 324, .getfield 68, .iload 1, .baload, .ifCond .ne 2, .goto_w 1]) := rfl
theorem k154_1 : xM154.2.2.2.2.2[1]? = some ([], [.checkcast 0]) := rfl
theorem k154_2 : xM154.2.2.2.2.2[2]? = some ([0, 1], [.aload 0, .getfield 324, .iload 1, .aload 0, .getfield 321, .invokevirtual 16, .aload 0, .getfield 324, .invokevirtual 11, .aload 0, .getfield 321, .getfield 256, .ireturn]) := rfl
theorem k155_0 : xM155.2.2.2.2.2[0]? = some ([0], [.aload 0, .getfield 327, .ifCond .ne 2, .goto_w 1]) := rfl
theorem k155_1 : xM155.2.2.2.2.2[1]? = some ([], [.checkcast 0]) := rfl
theorem k155_2 : xM155.2.2.2.2.2[2]? = some ([], [.return_]) := rfl
theorem k156_0 : xM156.2.2.2.2.2[0]? = some ([0, 1], [.iload 1, .aload 0, .getfield 321, .getfield 262, .getfield 224, .invokestatic 158, .return_]) := rfl
theorem k157_0 : xM157.2.2.2.2.2[0]? = some ([0, 1], [.iload 1, .aload 0, .getfield 323, .getfield 192, .invokestatic 158, .return_]) := rfl
theorem k158_0 : xM158.2.2.2.2.2[0]? = some ([0, 1], [.iload 0, .ifCond .lt 2, .goto_w 1]) := rfl
theorem k158_1 : xM158.2.2.2.2.2[1]? = some ([0, 1], [.iload 0, .iload 1, .if_icmp .lt 3, .goto_w 2]) := rfl
theorem k158_2 : xM158.2.2.2.2.2[2]? = some ([], [.checkcast 2]) := rfl
theorem k158_3 : xM158.2.2.2.2.2[3]? = some ([], [.return_]) := rfl
theorem k159_0 : xM159.2.2.2.2.2[0]? = some ([0, 1, 2], [.iload 0, .iload 1, .if_icmp .lt 3, .goto_w 1]) := rfl
theorem k159_1 : xM159.2.2.2.2.2[1]? = some ([0, 2], [.iload 0, .iload 2, .if_icmp .gt 3, .goto_w 2]) := rfl
theorem k159_2 : xM159.2.2.2.2.2[2]? = some ([], [.iconst 1, .goto 4]) := rfl
theorem k159_3 : xM159.2.2.2.2.2[3]? = some ([], [.iconst 0, .goto_w 4]) := rfl
theorem k159_4 : xM159.2.2.2.2.2[4]? = some ([], [.invokestatic 160, .return_]) := rfl
theorem k160_0 : xM160.2.2.2.2.2[0]? = some ([0], [.iload 0, .ifCond .ne 2, .goto_w 1]) := rfl
theorem k160_1 : xM160.2.2.2.2.2[1]? = some ([], [.checkcast 1]) := rfl
theorem k160_2 : xM160.2.2.2.2.2[2]? = some ([], [.return_]) := rfl
theorem k161_0 : xM161.2.2.2.2.2[0]? = some ([0, 1], [.aload 0, .getfield 325, .aload 0, .getfield 321, .aload 0, .getfield 323, .iload 1, .invokevirtual 33, .aload 0, .getfield 325, .areturn]) := rfl
theorem k162_0 : xM162.2.2.2.2.2[0]? = some ([0, 1], [.aload 0, .getfield 325, .aload 0, .getfield 322, .aload 0, .getfield 323, .iload 1, .invokevirtual 33, .aload 0, .getfield 325, .areturn]) := rfl
theorem k163_0 : xM163.2.2.2.2.2[0]? = some ([0, 1], [.aload 0, .getfield 322, .aload 0, .getfield 321, .invokevirtual 68, .iconst 0, .istore 2, .goto_w 1]) := rfl
theorem k163_1 : xM163.2.2.2.2.2[1]? = some ([0, 1, 2], [.iload 2, .iload 1, .if_icmp .ge 3, .goto_w 2]) := rfl
theorem k163_2 : xM163.2.2.2.2.2[2]? = some ([0, 1, 2], [.aload 0, .getfield 322, .invokevirtual 70, .iinc 2 1, .goto 1]) := rfl
theorem k163_3 : xM163.2.2.2.2.2[3]? = some ([], [.return_]) := rfl
theorem k164_0 : xM164.2.2.2.2.2[0]? = some ([0, 1], [.iconst 1, .istore 2, .goto_w 1]) := rfl
theorem k164_1 : xM164.2.2.2.2.2[1]? = some ([0, 1, 2], [.iload 2, .iload 1, .if_icmp .gt 5, .goto_w 2]) := rfl
theorem k164_2 : xM164.2.2.2.2.2[2]? = some ([0, 1, 2], [.aload 0, .getfield 322, .invokevirtual 70, .aload 0, .getfield 322, .getfield 258, .aload 0, .getfield 321, .getfield 258, .if_icmp .le 4, .goto_w 3]) := rfl
theorem k164_3 : xM164.2.2.2.2.2[3]? = some ([2], [.iload 2, .ireturn]) := rfl
theorem k164_4 : xM164.2.2.2.2.2[4]? = some ([0, 1, 2], [.iinc 2 1, .goto 1]) := rfl
theorem k164_5 : xM164.2.2.2.2.2[5]? = some ([], [.iconst (-1), .ireturn]) := rfl
theorem k165_0 : xM165.2.2.2.2.2[0]? = some ([0], [.iconst 0, .istore 1, .goto_w 1]) := rfl
theorem k165_1 : xM165.2.2.2.2.2[1]? = some ([0, 1], [.iload 1, .aload 0, .getfield 323, .getfield 192, .if_icmp .ge 6, .goto_w 2]) := rfl
theorem k165_2 : xM165.2.2.2.2.2[2]? = some ([0, 1], [.aload 0, .getfield 321, .getfield 261, .iload 1, .iaload, .iconst (-1), .if_icmp .ne 5, .goto_w 3]) := rfl
theorem k165_3 : xM165.2.2.2.2.2[3]? = some ([0, 1], [.aload 0, .iload 1, .invokevirtual 161, .aload 0, .getfield 323, .iload 1, .invokevirtual 39, .ifCond .eq 5, .goto_w 4]) := rfl
theorem k165_4 : xM165.2.2.2.2.2[4]? = some ([0, 1], [.aload 0, .getfield 321, .getfield 261, .iload 1, .aload 0, .getfield 321, .getfield 256, .iastore, .goto_w 5]) := rfl
theorem k165_5 : xM165.2.2.2.2.2[5]? = some ([0, 1], [.iinc 1 1, .goto 1]) := rfl
theorem k165_6 : xM165.2.2.2.2.2[6]? = some ([], [.return_]) := rfl
theorem k166_0 : xM166.2.2.2.2.2[0]? = some ([0], [.iconst 0, .istore 1, .iconst 0, .istore 2, .goto_w 1]) := rfl
theorem k166_1 : xM166.2.2.2.2.2[1]? = some ([0, 1, 2], [.iload 2, .aload 0, .getfield 323, .getfield 192, .if_icmp .ge 5, .goto_w 2]) := rfl
theorem k166_2 : xM166.2.2.2.2.2[2]? = some ([0, 1, 2], [.aload 0, .getfield 321, .getfield 261, .iload 2, .iaload, .iconst (-1), .if_icmp .eq 4, .goto_w 3]) := rfl
theorem k166_3 : xM166.2.2.2.2.2[3]? = some ([0, 1, 2], [.iload 1, .iconst 1, .iload 2, .ishl, .ior, .istore 1, .goto_w 4]) := rfl
theorem k166_4 : xM166.2.2.2.2.2[4]? = some ([0, 1, 2], [.iinc 2 1, .goto 1]) := rfl
theorem k166_5 : xM166.2.2.2.2.2[5]? = some ([1], [.iload 1, .ireturn]) := rfl
theorem k167_0 : xM167.2.2.2.2.2[0]? = some ([0], [.iconst 0, .istore 1, .iconst 0, .istore 2, .goto_w 1]) := rfl
theorem k167_1 : xM167.2.2.2.2.2[1]? = some ([0, 1, 2], [.iload 2, .aload 0, .getfield 323, .getfield 192, .if_icmp .ge 5, .goto_w 2]) := rfl
theorem k167_2 : xM167.2.2.2.2.2[2]? = some ([0, 1, 2], [.aload 0, .iload 2, .invokevirtual 169, .ifCond .eq 4, .goto_w 3]) := rfl
theorem k167_3 : xM167.2.2.2.2.2[3]? = some ([0, 1, 2], [.iinc 1 1, .goto_w 4]) := rfl
theorem k167_4 : xM167.2.2.2.2.2[4]? = some ([0, 1, 2], [.iinc 2 1, .goto 1]) := rfl
theorem k167_5 : xM167.2.2.2.2.2[5]? = some ([1], [.iload 1, .ireturn]) := rfl
theorem k168_0 : xM168.2.2.2.2.2[0]? = some ([0, 1], [.iconst 0, .istore 2, .iconst 0, .istore 3, .goto_w 1]) := rfl
theorem k168_1 : xM168.2.2.2.2.2[1]? = some ([0, 1, 2, 3], [.iload 3, .aload 0, .getfield 323, .getfield 192, .if_icmp .ge 5, .goto_w 2]) := rfl
theorem k168_2 : xM168.2.2.2.2.2[2]? = some ([0, 1, 2, 3], [.aload 0, .getfield 321, .iload 1, .aload 0, .getfield 323, .getfield 194, .iload 3, .iaload, .invokevirtual 79, .ifCond .eq 4, .goto_w 3]) := rfl
theorem k168_3 : xM168.2.2.2.2.2[3]? = some ([0, 1, 2, 3], [.iinc 2 1, .goto_w 4]) := rfl
theorem k168_4 : xM168.2.2.2.2.2[4]? = some ([0, 1, 2, 3], [.iinc 3 1, .goto 1]) := rfl
theorem k168_5 : xM168.2.2.2.2.2[5]? = some ([2], [.iload 2, .ireturn]) := rfl
theorem k169_0 : xM169.2.2.2.2.2[0]? = some ([0, 1], [.iconst 0, .istore 2, .iconst 0, .istore 3, .goto_w 1]) := rfl
theorem k169_1 : xM169.2.2.2.2.2[1]? = some ([0, 1, 2, 3], [.iload 3, .aload 0, .getfield 321, .getfield 262, .getfield 224, .if_icmp .ge 5, .goto_w 2]) := rfl
theorem k169_2 : xM169.2.2.2.2.2[2]? = some ([0, 1, 2, 3], [.aload 0, .getfield 321, .iload 3, .aload 0, .getfield 323, .getfield 194, .iload 1, .iaload, .invokevirtual 79, .ifCond .eq 4, .goto_w 3]) := rfl
theorem k169_3 : xM169.2.2.2.2.2[3]? = some ([0, 1, 2, 3], [.iload 2, .iconst 1, .iload 3, .ishl, .ior, .istore 2, .goto_w 4]) := rfl
theorem k169_4 : xM169.2.2.2.2.2[4]? = some ([0, 1, 2, 3], [.iinc 3 1, .goto 1]) := rfl
theorem k169_5 : xM169.2.2.2.2.2[5]? = some ([2], [.iload 2, .ireturn]) := rfl
theorem k170_0 : xM170.2.2.2.2.2[0]? = some ([0], [.fload 0, .fconst 0, .fcmp .g, .ifCond .gt 2, .goto_w 1]) := rfl
theorem k170_1 : xM170.2.2.2.2.2[1]? = some ([], [.iconst 0, .ireturn]) := rfl
theorem k170_2 : xM170.2.2.2.2.2[2]? = some ([0], [.iconst 127, .istore 1, .fload 0, .fstore 2, .iconst 0, .istore 3, .goto_w 3]) := rfl
theorem k170_3 : xM170.2.2.2.2.2[3]? = some ([1, 2, 3], [.iload 3, .iconst 60, .if_icmp .ge 6, .goto_w 4]) := rfl
theorem k170_4 : xM170.2.2.2.2.2[4]? = some ([1, 2, 3], [.fload 2, .fconst 1, .fcmp .g, .ifCond .ge 6, .goto_w 5]) := rfl
theorem k170_5 : xM170.2.2.2.2.2[5]? = some ([1, 2, 3], [.fload 2, .fconst 2, .fmul, .fstore 2, .iinc 1 (-1), .iinc 3 1, .goto 3]) := rfl
theorem k170_6 : xM170.2.2.2.2.2[6]? = some ([1, 2], [.iload 1, .iconst 23, .ishl, .fload 2, .fconst 1, .fsub, .ldc_w 1258291200, .fmul, .f2i, .iadd, .ireturn]) := rfl
theorem k171_0 : xM171.2.2.2.2.2[0]? = some ([0], [.dload 0, .dconst 0, .dcmp .g, .ifCond .gt 2, .goto_w 1]) := rfl
theorem k171_1 : xM171.2.2.2.2.2[1]? = some ([], [.lconst 0, .lreturn]) := rfl
theorem k171_2 : xM171.2.2.2.2.2[2]? = some ([0], [.jsr 1023, .lstore 2, .dload 0, .dstore 4, .iconst 0, .istore 6, .goto_w 3]) := rfl
theorem k171_3 : xM171.2.2.2.2.2[3]? = some ([2, 4, 6], [.iload 6, .iconst 60, .if_icmp .ge 6, .goto_w 4]) := rfl
theorem k171_4 : xM171.2.2.2.2.2[4]? = some ([2, 4, 6], [.dload 4, .dconst 1, .dcmp .g, .ifCond .ge 6, .goto_w 5]) := rfl
theorem k171_5 : xM171.2.2.2.2.2[5]? = some ([2, 4, 6], [.dload 4, .ldc2_w 4611686018427387904, .dmul, .dstore 4, .lload 2, .lconst 1, .lsub, .lstore 2, .iinc 6 1, .goto 3]) := rfl
theorem k171_6 : xM171.2.2.2.2.2[6]? = some ([2, 4], [.iconst 0, .istore 6, .goto_w 7]) := rfl
theorem k171_7 : xM171.2.2.2.2.2[7]? = some ([2, 4, 6], [.iload 6, .iconst 60, .if_icmp .ge 10, .goto_w 8]) := rfl
theorem k171_8 : xM171.2.2.2.2.2[8]? = some ([2, 4, 6], [.dload 4, .ldc2_w 4611686018427387904, .dcmp .l, .ifCond .lt 10, .goto_w 9]) := rfl
theorem k171_9 : xM171.2.2.2.2.2[9]? = some ([2, 4, 6], [.dload 4, .ldc2_w 4611686018427387904, .ddiv, .dstore 4, .lload 2, .lconst 1, .ladd, .lstore 2, .iinc 6 1, .goto 7]) := rfl
theorem k171_10 : xM171.2.2.2.2.2[10]? = some ([2, 4], [.lload 2, .iconst 52, .lshl, .dload 4, .dconst 1, .dsub, .ldc2_w 4841369599423283200, .dmul, .d2l, .ladd, .lreturn]) := rfl
theorem k172_0 : xM172.2.2.2.2.2[0]? = some ([0, 1], [.iconst 0, .istore 2, .goto_w 1]) := rfl
theorem k172_1 : xM172.2.2.2.2.2[1]? = some ([0, 1, 2], [.iload 2, .aload 1, .arraylength, .if_icmp .ge 4, .goto_w 2]) := rfl
theorem k172_2 : xM172.2.2.2.2.2[2]? = some ([0, 1, 2], [.iload 2, .aload 0, .arraylength, .if_icmp .ge 4, .goto_w 3]) := rfl
theorem k172_3 : xM172.2.2.2.2.2[3]? = some ([0, 1, 2], [.aload 1, .iload 2, .aload 0, .iload 2, .iaload, .iastore, .iinc 2 1, .goto 1]) := rfl
theorem k172_4 : xM172.2.2.2.2.2[4]? = some ([], [.return_]) := rfl
theorem k383_0 : xM383.2.2.2.2.2[0]? = some ([0], [.iload 0, .iload 0, .iconst 1, .iushr, .iconst 1431655765, .iand, .isub, .istore 0, .iload 0, .iconst 858993459, .iand, .iload 0, .iconst 2, .iushr, .iconst 858993459, .iand, .iadd, .istore 0, .iload 0, .iload 0, .iconst 4, .iushr, .iadd, .iconst 252645135, .iand, .istore 0, .iload 0, .iload 0, .iconst 8, .iushr, .iadd, .istore 0, .iload 0, .iload 0, .iconst 16, .iushr, .iadd, .istore 0, .iload 0, .iconst 63, .iand, .ireturn]) := rfl
theorem k384_0 : xM384.2.2.2.2.2[0]? = some ([0], [.iload 0, .ifCond .ge 2, .goto_w 1]) := rfl
theorem k384_1 : xM384.2.2.2.2.2[1]? = some ([0], [.iload 0, .ineg, .goto 3]) := rfl
theorem k384_2 : xM384.2.2.2.2.2[2]? = some ([0], [.iload 0, .goto_w 3]) := rfl
theorem k384_3 : xM384.2.2.2.2.2[3]? = some ([], [.ireturn]) := rfl
theorem k385_0 : xM385.2.2.2.2.2[0]? = some ([0, 1], [.iload 0, .iload 1, .if_icmp .lt 2, .goto_w 1]) := rfl
theorem k385_1 : xM385.2.2.2.2.2[1]? = some ([0], [.iload 0, .goto 3]) := rfl
theorem k385_2 : xM385.2.2.2.2.2[2]? = some ([1], [.iload 1, .goto_w 3]) := rfl
theorem k385_3 : xM385.2.2.2.2.2[3]? = some ([], [.ireturn]) := rfl
theorem k386_0 : xM386.2.2.2.2.2[0]? = some ([0, 1], [.iload 0, .iload 1, .if_icmp .gt 2, .goto_w 1]) := rfl
theorem k386_1 : xM386.2.2.2.2.2[1]? = some ([0], [.iload 0, .goto 3]) := rfl
theorem k386_2 : xM386.2.2.2.2.2[2]? = some ([1], [.iload 1, .goto_w 3]) := rfl
theorem k386_3 : xM386.2.2.2.2.2[3]? = some ([], [.ireturn]) := rfl
theorem k387_0 : xM387.2.2.2.2.2[0]? = some ([0], [.fload 0, .fload 0, .fcmp .l, .ifCond .eq 2, .goto_w 1]) := rfl
theorem k387_1 : xM387.2.2.2.2.2[1]? = some ([], [.iconst 1, .goto 3]) := rfl
theorem k387_2 : xM387.2.2.2.2.2[2]? = some ([], [.iconst 0, .goto_w 3]) := rfl
theorem k387_3 : xM387.2.2.2.2.2[3]? = some ([], [.ireturn]) := rfl
theorem k388_0 : xM388.2.2.2.2.2[0]? = some ([0], [.fload 0, .invokestatic 387, .ifCond .ne 2, .goto_w 1]) := rfl
theorem k388_1 : xM388.2.2.2.2.2[1]? = some ([0], [.fload 0, .invokedynamic 0, .ireturn]) := rfl
theorem k388_2 : xM388.2.2.2.2.2[2]? = some ([], [.iconst 2143289344, .ireturn]) := rfl
theorem k389_0 : xM389.2.2.2.2.2[0]? = some ([0], [.dload 0, .dload 0, .dcmp .l, .ifCond .eq 2, .goto_w 1]) := rfl
theorem k389_1 : xM389.2.2.2.2.2[1]? = some ([], [.iconst 1, .goto 3]) := rfl
theorem k389_2 : xM389.2.2.2.2.2[2]? = some ([], [.iconst 0, .goto_w 3]) := rfl
theorem k389_3 : xM389.2.2.2.2.2[3]? = some ([], [.ireturn]) := rfl
theorem k390_0 : xM390.2.2.2.2.2[0]? = some ([0], [.dload 0, .invokestatic 389, .ifCond .ne 2, .goto_w 1]) := rfl
theorem k390_1 : xM390.2.2.2.2.2[1]? = some ([0], [.dload 0, .invokedynamic 1, .lreturn]) := rfl
theorem k390_2 : xM390.2.2.2.2.2[2]? = some ([], [.jsr 9221120237041090560, .lreturn]) := rfl
theorem k391_0 : xM391.2.2.2.2.2[0]? = some ([0], [.aload 0, .getfield 960, .arraylength, .aload 0, .invokevirtual 393, .ishr, .ireturn]) := rfl
theorem k392_0 : xM392.2.2.2.2.2[0]? = some ([0, 1], [.aload 0, .invokevirtual 394, .ifCond .eq 2, .goto_w 1]) := rfl
theorem k392_1 : xM392.2.2.2.2.2[1]? = some ([0, 1], [.aload 0, .getfield 960, .iload 1, .invokestatic 396, .ireturn]) := rfl
theorem k393_0 : xM393.2.2.2.2.2[0]? = some ([0], [.getstatic 2, .ifCond .eq 2, .goto_w 1]) := rfl
theorem k393_1 : xM393.2.2.2.2.2[1]? = some ([0], [.aload 0, .getfield 961, .goto 3]) := rfl
theorem k393_3 : xM393.2.2.2.2.2[3]? = some ([], [.ireturn]) := rfl
theorem k394_0 : xM394.2.2.2.2.2[0]? = some ([0], [.getstatic 2, .ifCond .eq 3, .goto_w 1]) := rfl
theorem k394_1 : xM394.2.2.2.2.2[1]? = some ([0], [.aload 0, .getfield 961, .ifCond .ne 3, .goto_w 2]) := rfl
theorem k394_2 : xM394.2.2.2.2.2[2]? = some ([], [.iconst 1, .goto 4]) := rfl
theorem k394_4 : xM394.2.2.2.2.2[4]? = some ([], [.ireturn]) := rfl
theorem k395_0 : xM395.2.2.2.2.2[0]? = some ([0, 1], [.iload 0, .iload 1, .getstatic 4, .invokestatic 397, .pop, .return_]) := rfl
theorem k396_0 : xM396.2.2.2.2.2[0]? = some ([0, 1], [.iload 1, .aload 0, .arraylength, .invokestatic 395, .aload 0, .iload 1, .baload, .iconst 255, .iand, .i2c, .ireturn]) := rfl
theorem k397_0 : xM397.2.2.2.2.2[0]? = some ([0, 1, 2], [.iload 0, .ifCond .lt 2, .goto_w 1]) := rfl
theorem k397_1 : xM397.2.2.2.2.2[1]? = some ([0, 1, 2], [.iload 0, .iload 1, .if_icmp .lt 3, .goto_w 2]) := rfl
theorem k397_2 : xM397.2.2.2.2.2[2]? = some ([0, 1, 2], [.aload 2, .iload 0, .iload 1]) := rfl
theorem k397_3 : xM397.2.2.2.2.2[3]? = some ([0], [.iload 0, .ireturn]) := rfl
