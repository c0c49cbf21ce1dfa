/-! The blocks of X, one by one (written by program: wip/whole/mkw.py). -/
theorem km1 : xmt 1 = some (2, 2, 0, 0, [], xM1.2.2.2.2.2) := xmt_at (q := 0) (r := 1) rfl rfl
theorem km2 : xmt 2 = some (2, 6, 0, 0, [], xM2.2.2.2.2.2) := xmt_at (q := 0) (r := 2) rfl rfl
theorem km4 : xmt 4 = some (2, 2, 1, 0, [], xM4.2.2.2.2.2) := xmt_at (q := 0) (r := 4) rfl rfl
theorem km5 : xmt 5 = some (4, 4, 1, 0, [], xM5.2.2.2.2.2) := xmt_at (q := 0) (r := 5) rfl rfl
theorem km6 : xmt 6 = some (2, 3, 1, 0, [], xM6.2.2.2.2.2) := xmt_at (q := 0) (r := 6) rfl rfl
theorem km7 : xmt 7 = some (3, 5, 1, 1, [], xM7.2.2.2.2.2) := xmt_at (q := 0) (r := 7) rfl rfl
theorem km8 : xmt 8 = some (3, 6, 1, 1, [], xM8.2.2.2.2.2) := xmt_at (q := 0) (r := 8) rfl rfl
theorem km9 : xmt 9 = some (2, 4, 1, 1, [], xM9.2.2.2.2.2) := xmt_at (q := 0) (r := 9) rfl rfl
theorem km11 : xmt 11 = some (1, 1, 2, 0, [], xM11.2.2.2.2.2) := xmt_at (q := 0) (r := 11) rfl rfl
theorem km12 : xmt 12 = some (1, 2, 2, 0, [], xM12.2.2.2.2.2) := xmt_at (q := 0) (r := 12) rfl rfl
theorem km13 : xmt 13 = some (2, 2, 2, 0, [], xM13.2.2.2.2.2) := xmt_at (q := 0) (r := 13) rfl rfl
theorem km14 : xmt 14 = some (2, 2, 2, 0, [], xM14.2.2.2.2.2) := xmt_at (q := 0) (r := 14) rfl rfl
theorem km15 : xmt 15 = some (3, 3, 2, 0, [], xM15.2.2.2.2.2) := xmt_at (q := 0) (r := 15) rfl rfl
theorem km16 : xmt 16 = some (3, 3, 2, 0, [], xM16.2.2.2.2.2) := xmt_at (q := 0) (r := 16) rfl rfl
theorem km17 : xmt 17 = some (2, 2, 99, 0, [], xM17.2.2.2.2.2) := xmt_at (q := 0) (r := 17) rfl rfl
theorem km19 : xmt 19 = some (2, 3, 3, 2, [], xM19.2.2.2.2.2) := xmt_at (q := 0) (r := 19) rfl rfl
theorem km20 : xmt 20 = some (2, 2, 3, 2, [], xM20.2.2.2.2.2) := xmt_at (q := 1) (r := 0) rfl rfl
theorem km21 : xmt 21 = some (1, 2, 3, 2, [], xM21.2.2.2.2.2) := xmt_at (q := 1) (r := 1) rfl rfl
theorem km22 : xmt 22 = some (1, 1, 3, 2, [], xM22.2.2.2.2.2) := xmt_at (q := 1) (r := 2) rfl rfl
theorem km23 : xmt 23 = some (1, 3, 3, 2, [], xM23.2.2.2.2.2) := xmt_at (q := 1) (r := 3) rfl rfl
theorem km24 : xmt 24 = some (1, 4, 3, 2, [], xM24.2.2.2.2.2) := xmt_at (q := 1) (r := 4) rfl rfl
theorem km25 : xmt 25 = some (1, 2, 3, 2, [], xM25.2.2.2.2.2) := xmt_at (q := 1) (r := 5) rfl rfl
theorem km26 : xmt 26 = some (3, 3, 3, 2, [], xM26.2.2.2.2.2) := xmt_at (q := 1) (r := 6) rfl rfl
theorem km28 : xmt 28 = some (2, 2, 4, 0, [], xM28.2.2.2.2.2) := xmt_at (q := 1) (r := 8) rfl rfl
theorem km29 : xmt 29 = some (3, 3, 4, 0, [], xM29.2.2.2.2.2) := xmt_at (q := 1) (r := 9) rfl rfl
theorem km30 : xmt 30 = some (2, 4, 4, 1, [], xM30.2.2.2.2.2) := xmt_at (q := 1) (r := 10) rfl rfl
theorem km31 : xmt 31 = some (1, 3, 4, 1, [], xM31.2.2.2.2.2) := xmt_at (q := 1) (r := 11) rfl rfl
theorem km33 : xmt 33 = some (4, 7, 5, 0, [], xM33.2.2.2.2.2) := xmt_at (q := 1) (r := 13) rfl rfl
theorem km34 : xmt 34 = some (4, 4, 5, 0, [], xM34.2.2.2.2.2) := xmt_at (q := 1) (r := 14) rfl rfl
theorem km35 : xmt 35 = some (2, 2, 5, 1, [], xM35.2.2.2.2.2) := xmt_at (q := 1) (r := 15) rfl rfl
theorem km36 : xmt 36 = some (2, 2, 5, 1, [], xM36.2.2.2.2.2) := xmt_at (q := 1) (r := 16) rfl rfl
theorem km37 : xmt 37 = some (3, 5, 5, 1, [], xM37.2.2.2.2.2) := xmt_at (q := 1) (r := 17) rfl rfl
theorem km38 : xmt 38 = some (3, 5, 5, 1, [], xM38.2.2.2.2.2) := xmt_at (q := 1) (r := 18) rfl rfl
theorem km39 : xmt 39 = some (3, 3, 5, 2, [], xM39.2.2.2.2.2) := xmt_at (q := 1) (r := 19) rfl rfl
theorem km40 : xmt 40 = some (3, 4, 5, 6, [], xM40.2.2.2.2.2) := xmt_at (q := 2) (r := 0) rfl rfl
theorem km42 : xmt 42 = some (2, 2, 6, 0, [], xM42.2.2.2.2.2) := xmt_at (q := 2) (r := 2) rfl rfl
theorem km43 : xmt 43 = some (3, 3, 6, 0, [], xM43.2.2.2.2.2) := xmt_at (q := 2) (r := 3) rfl rfl
theorem km44 : xmt 44 = some (2, 3, 6, 0, [], xM44.2.2.2.2.2) := xmt_at (q := 2) (r := 4) rfl rfl
theorem km45 : xmt 45 = some (3, 3, 6, 1, [], xM45.2.2.2.2.2) := xmt_at (q := 2) (r := 5) rfl rfl
theorem km46 : xmt 46 = some (3, 5, 6, 1, [], xM46.2.2.2.2.2) := xmt_at (q := 2) (r := 6) rfl rfl
theorem km48 : xmt 48 = some (2, 2, 7, 0, [], xM48.2.2.2.2.2) := xmt_at (q := 2) (r := 8) rfl rfl
theorem km49 : xmt 49 = some (5, 5, 7, 0, [], xM49.2.2.2.2.2) := xmt_at (q := 2) (r := 9) rfl rfl
theorem km50 : xmt 50 = some (2, 2, 7, 1, [], xM50.2.2.2.2.2) := xmt_at (q := 2) (r := 10) rfl rfl
theorem km51 : xmt 51 = some (2, 2, 7, 1, [], xM51.2.2.2.2.2) := xmt_at (q := 2) (r := 11) rfl rfl
theorem km52 : xmt 52 = some (3, 3, 7, 0, [], xM52.2.2.2.2.2) := xmt_at (q := 2) (r := 12) rfl rfl
theorem km53 : xmt 53 = some (2, 3, 7, 0, [], xM53.2.2.2.2.2) := xmt_at (q := 2) (r := 13) rfl rfl
theorem km54 : xmt 54 = some (3, 5, 7, 0, [], xM54.2.2.2.2.2) := xmt_at (q := 2) (r := 14) rfl rfl
theorem km55 : xmt 55 = some (1, 3, 7, 1, [], xM55.2.2.2.2.2) := xmt_at (q := 2) (r := 15) rfl rfl
theorem km56 : xmt 56 = some (2, 4, 7, 1, [], xM56.2.2.2.2.2) := xmt_at (q := 2) (r := 16) rfl rfl
theorem km57 : xmt 57 = some (1, 3, 7, 1, [], xM57.2.2.2.2.2) := xmt_at (q := 2) (r := 17) rfl rfl
theorem km58 : xmt 58 = some (2, 4, 7, 1, [], xM58.2.2.2.2.2) := xmt_at (q := 2) (r := 18) rfl rfl
theorem km59 : xmt 59 = some (1, 3, 7, 1, [], xM59.2.2.2.2.2) := xmt_at (q := 2) (r := 19) rfl rfl
theorem km60 : xmt 60 = some (1, 3, 7, 1, [], xM60.2.2.2.2.2) := xmt_at (q := 3) (r := 0) rfl rfl
theorem km61 : xmt 61 = some (1, 1, 7, 7, [], xM61.2.2.2.2.2) := xmt_at (q := 3) (r := 1) rfl rfl
theorem km62 : xmt 62 = some (2, 4, 7, 1, [], xM62.2.2.2.2.2) := xmt_at (q := 3) (r := 2) rfl rfl
theorem km63 : xmt 63 = some (2, 4, 7, 1, [], xM63.2.2.2.2.2) := xmt_at (q := 3) (r := 3) rfl rfl
theorem km64 : xmt 64 = some (2, 4, 7, 1, [], xM64.2.2.2.2.2) := xmt_at (q := 3) (r := 4) rfl rfl
theorem km65 : xmt 65 = some (2, 4, 7, 1, [], xM65.2.2.2.2.2) := xmt_at (q := 3) (r := 5) rfl rfl
theorem km66 : xmt 66 = some (2, 5, 7, 1, [], xM66.2.2.2.2.2) := xmt_at (q := 3) (r := 6) rfl rfl
theorem km68 : xmt 68 = some (2, 2, 8, 0, [], xM68.2.2.2.2.2) := xmt_at (q := 3) (r := 8) rfl rfl
theorem km69 : xmt 69 = some (1, 2, 8, 0, [], xM69.2.2.2.2.2) := xmt_at (q := 3) (r := 9) rfl rfl
theorem km70 : xmt 70 = some (1, 1, 8, 0, [], xM70.2.2.2.2.2) := xmt_at (q := 3) (r := 10) rfl rfl
theorem km71 : xmt 71 = some (1, 3, 8, 0, [], xM71.2.2.2.2.2) := xmt_at (q := 3) (r := 11) rfl rfl
theorem km72 : xmt 72 = some (1, 2, 8, 0, [], xM72.2.2.2.2.2) := xmt_at (q := 3) (r := 12) rfl rfl
theorem km73 : xmt 73 = some (1, 2, 8, 0, [], xM73.2.2.2.2.2) := xmt_at (q := 3) (r := 13) rfl rfl
theorem km74 : xmt 74 = some (2, 2, 8, 2, [], xM74.2.2.2.2.2) := xmt_at (q := 3) (r := 14) rfl rfl
theorem km75 : xmt 75 = some (2, 2, 8, 0, [], xM75.2.2.2.2.2) := xmt_at (q := 3) (r := 15) rfl rfl
theorem km76 : xmt 76 = some (2, 2, 8, 0, [], xM76.2.2.2.2.2) := xmt_at (q := 3) (r := 16) rfl rfl
theorem km77 : xmt 77 = some (2, 2, 8, 2, [], xM77.2.2.2.2.2) := xmt_at (q := 3) (r := 17) rfl rfl
theorem km78 : xmt 78 = some (3, 3, 8, 0, [], xM78.2.2.2.2.2) := xmt_at (q := 3) (r := 18) rfl rfl
theorem km79 : xmt 79 = some (3, 3, 8, 2, [], xM79.2.2.2.2.2) := xmt_at (q := 3) (r := 19) rfl rfl
theorem km81 : xmt 81 = some (6, 6, 9, 1, [], xM81.2.2.2.2.2) := xmt_at (q := 4) (r := 1) rfl rfl
theorem km82 : xmt 82 = some (2, 3, 9, 0, [], xM82.2.2.2.2.2) := xmt_at (q := 4) (r := 2) rfl rfl
theorem km83 : xmt 83 = some (2, 2, 9, 0, [], xM83.2.2.2.2.2) := xmt_at (q := 4) (r := 3) rfl rfl
theorem km84 : xmt 84 = some (1, 1, 9, 0, [], xM84.2.2.2.2.2) := xmt_at (q := 4) (r := 4) rfl rfl
theorem km85 : xmt 85 = some (1, 1, 9, 0, [], xM85.2.2.2.2.2) := xmt_at (q := 4) (r := 5) rfl rfl
theorem km86 : xmt 86 = some (1, 1, 9, 0, [], xM86.2.2.2.2.2) := xmt_at (q := 4) (r := 6) rfl rfl
theorem km87 : xmt 87 = some (1, 1, 9, 1, [], xM87.2.2.2.2.2) := xmt_at (q := 4) (r := 7) rfl rfl
theorem km88 : xmt 88 = some (2, 3, 9, 1, [], xM88.2.2.2.2.2) := xmt_at (q := 4) (r := 8) rfl rfl
theorem km89 : xmt 89 = some (2, 3, 9, 2, [], xM89.2.2.2.2.2) := xmt_at (q := 4) (r := 9) rfl rfl
theorem km91 : xmt 91 = some (6, 6, 10, 1, [], xM91.2.2.2.2.2) := xmt_at (q := 4) (r := 11) rfl rfl
theorem km92 : xmt 92 = some (2, 3, 10, 1, [], xM92.2.2.2.2.2) := xmt_at (q := 4) (r := 12) rfl rfl
theorem km93 : xmt 93 = some (1, 1, 10, 1, [], xM93.2.2.2.2.2) := xmt_at (q := 4) (r := 13) rfl rfl
theorem km94 : xmt 94 = some (1, 1, 10, 1, [], xM94.2.2.2.2.2) := xmt_at (q := 4) (r := 14) rfl rfl
theorem km95 : xmt 95 = some (1, 1, 10, 1, [], xM95.2.2.2.2.2) := xmt_at (q := 4) (r := 15) rfl rfl
theorem km96 : xmt 96 = some (2, 2, 10, 1, [], xM96.2.2.2.2.2) := xmt_at (q := 4) (r := 16) rfl rfl
theorem km97 : xmt 97 = some (2, 2, 10, 1, [], xM97.2.2.2.2.2) := xmt_at (q := 4) (r := 17) rfl rfl
theorem km98 : xmt 98 = some (3, 4, 10, 1, [], xM98.2.2.2.2.2) := xmt_at (q := 4) (r := 18) rfl rfl
theorem km99 : xmt 99 = some (3, 4, 10, 1, [], xM99.2.2.2.2.2) := xmt_at (q := 4) (r := 19) rfl rfl
theorem km100 : xmt 100 = some (3, 4, 10, 1, [], xM100.2.2.2.2.2) := xmt_at (q := 5) (r := 0) rfl rfl
theorem km101 : xmt 101 = some (3, 4, 10, 1, [], xM101.2.2.2.2.2) := xmt_at (q := 5) (r := 1) rfl rfl
theorem km102 : xmt 102 = some (3, 3, 10, 1, [], xM102.2.2.2.2.2) := xmt_at (q := 5) (r := 2) rfl rfl
theorem km103 : xmt 103 = some (3, 3, 10, 1, [], xM103.2.2.2.2.2) := xmt_at (q := 5) (r := 3) rfl rfl
theorem km104 : xmt 104 = some (2, 2, 10, 1, [], xM104.2.2.2.2.2) := xmt_at (q := 5) (r := 4) rfl rfl
theorem km105 : xmt 105 = some (2, 2, 10, 1, [], xM105.2.2.2.2.2) := xmt_at (q := 5) (r := 5) rfl rfl
theorem km106 : xmt 106 = some (2, 2, 10, 2, [], xM106.2.2.2.2.2) := xmt_at (q := 5) (r := 6) rfl rfl
theorem km107 : xmt 107 = some (2, 2, 10, 6, [], xM107.2.2.2.2.2) := xmt_at (q := 5) (r := 7) rfl rfl
theorem km108 : xmt 108 = some (2, 2, 10, 1, [], xM108.2.2.2.2.2) := xmt_at (q := 5) (r := 8) rfl rfl
theorem km109 : xmt 109 = some (2, 4, 10, 1, [], xM109.2.2.2.2.2) := xmt_at (q := 5) (r := 9) rfl rfl
theorem km110 : xmt 110 = some (3, 3, 10, 1, [], xM110.2.2.2.2.2) := xmt_at (q := 5) (r := 10) rfl rfl
theorem km111 : xmt 111 = some (2, 3, 10, 1, [], xM111.2.2.2.2.2) := xmt_at (q := 5) (r := 11) rfl rfl
theorem km112 : xmt 112 = some (2, 2, 10, 1, [], xM112.2.2.2.2.2) := xmt_at (q := 5) (r := 12) rfl rfl
theorem km113 : xmt 113 = some (2, 3, 10, 1, [], xM113.2.2.2.2.2) := xmt_at (q := 5) (r := 13) rfl rfl
theorem km114 : xmt 114 = some (2, 2, 10, 1, [], xM114.2.2.2.2.2) := xmt_at (q := 5) (r := 14) rfl rfl
theorem km115 : xmt 115 = some (2, 2, 10, 1, [], xM115.2.2.2.2.2) := xmt_at (q := 5) (r := 15) rfl rfl
theorem km116 : xmt 116 = some (1, 3, 10, 1, [], xM116.2.2.2.2.2) := xmt_at (q := 5) (r := 16) rfl rfl
theorem km117 : xmt 117 = some (1, 1, 10, 1, [], xM117.2.2.2.2.2) := xmt_at (q := 5) (r := 17) rfl rfl
theorem km118 : xmt 118 = some (3, 3, 10, 1, [], xM118.2.2.2.2.2) := xmt_at (q := 5) (r := 18) rfl rfl
theorem km119 : xmt 119 = some (1, 5, 10, 1, [], xM119.2.2.2.2.2) := xmt_at (q := 5) (r := 19) rfl rfl
theorem km120 : xmt 120 = some (1, 1, 10, 1, [], xM120.2.2.2.2.2) := xmt_at (q := 6) (r := 0) rfl rfl
theorem km121 : xmt 121 = some (1, 3, 10, 1, [], xM121.2.2.2.2.2) := xmt_at (q := 6) (r := 1) rfl rfl
theorem km122 : xmt 122 = some (1, 3, 10, 1, [], xM122.2.2.2.2.2) := xmt_at (q := 6) (r := 2) rfl rfl
theorem km123 : xmt 123 = some (1, 2, 10, 1, [], xM123.2.2.2.2.2) := xmt_at (q := 6) (r := 3) rfl rfl
theorem km124 : xmt 124 = some (1, 1, 10, 7, [], xM124.2.2.2.2.2) := xmt_at (q := 6) (r := 4) rfl rfl
theorem km125 : xmt 125 = some (1, 1, 10, 5, [], xM125.2.2.2.2.2) := xmt_at (q := 6) (r := 5) rfl rfl
theorem km126 : xmt 126 = some (2, 3, 10, 1, [], xM126.2.2.2.2.2) := xmt_at (q := 6) (r := 6) rfl rfl
theorem km127 : xmt 127 = some (2, 4, 10, 1, [], xM127.2.2.2.2.2) := xmt_at (q := 6) (r := 7) rfl rfl
theorem km128 : xmt 128 = some (3, 3, 10, 1, [], xM128.2.2.2.2.2) := xmt_at (q := 6) (r := 8) rfl rfl
theorem km129 : xmt 129 = some (3, 3, 10, 1, [], xM129.2.2.2.2.2) := xmt_at (q := 6) (r := 9) rfl rfl
theorem km130 : xmt 130 = some (3, 3, 10, 1, [], xM130.2.2.2.2.2) := xmt_at (q := 6) (r := 10) rfl rfl
theorem km131 : xmt 131 = some (2, 2, 10, 1, [], xM131.2.2.2.2.2) := xmt_at (q := 6) (r := 11) rfl rfl
theorem km132 : xmt 132 = some (1, 1, 10, 1, [], xM132.2.2.2.2.2) := xmt_at (q := 6) (r := 12) rfl rfl
theorem km133 : xmt 133 = some (3, 3, 10, 6, [], xM133.2.2.2.2.2) := xmt_at (q := 6) (r := 13) rfl rfl
theorem km134 : xmt 134 = some (3, 6, 10, 6, [], xM134.2.2.2.2.2) := xmt_at (q := 6) (r := 14) rfl rfl
theorem km135 : xmt 135 = some (2, 6, 10, 1, [], xM135.2.2.2.2.2) := xmt_at (q := 6) (r := 15) rfl rfl
theorem km136 : xmt 136 = some (2, 4, 10, 1, [], xM136.2.2.2.2.2) := xmt_at (q := 6) (r := 16) rfl rfl
theorem km137 : xmt 137 = some (1, 2, 10, 1, [], xM137.2.2.2.2.2) := xmt_at (q := 6) (r := 17) rfl rfl
theorem km138 : xmt 138 = some (2, 4, 10, 1, [], xM138.2.2.2.2.2) := xmt_at (q := 6) (r := 18) rfl rfl
theorem km139 : xmt 139 = some (1, 3, 10, 1, [], xM139.2.2.2.2.2) := xmt_at (q := 6) (r := 19) rfl rfl
theorem km140 : xmt 140 = some (1, 2, 10, 1, [], xM140.2.2.2.2.2) := xmt_at (q := 7) (r := 0) rfl rfl
theorem km141 : xmt 141 = some (2, 2, 10, 1, [], xM141.2.2.2.2.2) := xmt_at (q := 7) (r := 1) rfl rfl
theorem km142 : xmt 142 = some (2, 4, 10, 1, [], xM142.2.2.2.2.2) := xmt_at (q := 7) (r := 2) rfl rfl
theorem km143 : xmt 143 = some (2, 2, 10, 1, [], xM143.2.2.2.2.2) := xmt_at (q := 7) (r := 3) rfl rfl
theorem km144 : xmt 144 = some (2, 2, 10, 1, [], xM144.2.2.2.2.2) := xmt_at (q := 7) (r := 4) rfl rfl
theorem km145 : xmt 145 = some (2, 3, 10, 1, [], xM145.2.2.2.2.2) := xmt_at (q := 7) (r := 5) rfl rfl
theorem km146 : xmt 146 = some (3, 3, 10, 1, [], xM146.2.2.2.2.2) := xmt_at (q := 7) (r := 6) rfl rfl
theorem km147 : xmt 147 = some (2, 3, 10, 1, [], xM147.2.2.2.2.2) := xmt_at (q := 7) (r := 7) rfl rfl
theorem km148 : xmt 148 = some (3, 4, 10, 1, [], xM148.2.2.2.2.2) := xmt_at (q := 7) (r := 8) rfl rfl
theorem km149 : xmt 149 = some (3, 3, 10, 1, [], xM149.2.2.2.2.2) := xmt_at (q := 7) (r := 9) rfl rfl
theorem km150 : xmt 150 = some (3, 4, 10, 1, [], xM150.2.2.2.2.2) := xmt_at (q := 7) (r := 10) rfl rfl
theorem km151 : xmt 151 = some (1, 1, 10, 1, [], xM151.2.2.2.2.2) := xmt_at (q := 7) (r := 11) rfl rfl
theorem km152 : xmt 152 = some (1, 1, 10, 1, [], xM152.2.2.2.2.2) := xmt_at (q := 7) (r := 12) rfl rfl
theorem km153 : xmt 153 = some (2, 2, 10, 1, [], xM153.2.2.2.2.2) := xmt_at (q := 7) (r := 13) rfl rfl
theorem km154 : xmt 154 = some (2, 2, 10, 1, [], xM154.2.2.2.2.2) := xmt_at (q := 7) (r := 14) rfl rfl
theorem km155 : xmt 155 = some (1, 1, 10, 0, [], xM155.2.2.2.2.2) := xmt_at (q := 7) (r := 15) rfl rfl
theorem km156 : xmt 156 = some (2, 2, 10, 0, [], xM156.2.2.2.2.2) := xmt_at (q := 7) (r := 16) rfl rfl
theorem km157 : xmt 157 = some (2, 2, 10, 0, [], xM157.2.2.2.2.2) := xmt_at (q := 7) (r := 17) rfl rfl
theorem km158 : xmt 158 = some (2, 2, 99, 0, [], xM158.2.2.2.2.2) := xmt_at (q := 7) (r := 18) rfl rfl
theorem km159 : xmt 159 = some (3, 3, 99, 0, [], xM159.2.2.2.2.2) := xmt_at (q := 7) (r := 19) rfl rfl
theorem km160 : xmt 160 = some (1, 1, 99, 0, [], xM160.2.2.2.2.2) := xmt_at (q := 8) (r := 0) rfl rfl
theorem km161 : xmt 161 = some (2, 2, 10, 8, [], xM161.2.2.2.2.2) := xmt_at (q := 8) (r := 1) rfl rfl
theorem km162 : xmt 162 = some (2, 2, 10, 8, [], xM162.2.2.2.2.2) := xmt_at (q := 8) (r := 2) rfl rfl
theorem km163 : xmt 163 = some (2, 3, 10, 0, [], xM163.2.2.2.2.2) := xmt_at (q := 8) (r := 3) rfl rfl
theorem km164 : xmt 164 = some (2, 3, 10, 1, [], xM164.2.2.2.2.2) := xmt_at (q := 8) (r := 4) rfl rfl
theorem km165 : xmt 165 = some (1, 2, 10, 0, [], xM165.2.2.2.2.2) := xmt_at (q := 8) (r := 5) rfl rfl
theorem km166 : xmt 166 = some (1, 3, 10, 1, [], xM166.2.2.2.2.2) := xmt_at (q := 8) (r := 6) rfl rfl
theorem km167 : xmt 167 = some (1, 3, 10, 1, [], xM167.2.2.2.2.2) := xmt_at (q := 8) (r := 7) rfl rfl
theorem km168 : xmt 168 = some (2, 4, 10, 1, [], xM168.2.2.2.2.2) := xmt_at (q := 8) (r := 8) rfl rfl
theorem km169 : xmt 169 = some (2, 4, 10, 1, [], xM169.2.2.2.2.2) := xmt_at (q := 8) (r := 9) rfl rfl
theorem km170 : xmt 170 = some (1, 4, 99, 1, [], xM170.2.2.2.2.2) := xmt_at (q := 8) (r := 10) rfl rfl
theorem km171 : xmt 171 = some (1, 7, 99, 5, [], xM171.2.2.2.2.2) := xmt_at (q := 8) (r := 11) rfl rfl
theorem km172 : xmt 172 = some (2, 3, 99, 0, [], xM172.2.2.2.2.2) := xmt_at (q := 8) (r := 12) rfl rfl
theorem km174 : xmt 174 = some (1, 1, 11, 1, [], xM174.2.2.2.2.2) := xmt_at (q := 8) (r := 14) rfl rfl
theorem km175 : xmt 175 = some (3, 3, 99, 2, [], xM175.2.2.2.2.2) := xmt_at (q := 8) (r := 15) rfl rfl
theorem km176 : xmt 176 = some (4, 4, 11, 2, [], xM176.2.2.2.2.2) := xmt_at (q := 8) (r := 16) rfl rfl
theorem km177 : xmt 177 = some (3, 3, 11, 2, [], xM177.2.2.2.2.2) := xmt_at (q := 8) (r := 17) rfl rfl
theorem km178 : xmt 178 = some (4, 5, 99, 0, [], xM178.2.2.2.2.2) := xmt_at (q := 8) (r := 18) rfl rfl
theorem km179 : xmt 179 = some (6, 6, 11, 1, [], xM179.2.2.2.2.2) := xmt_at (q := 8) (r := 19) rfl rfl
theorem km180 : xmt 180 = some (2, 3, 11, 0, [], xM180.2.2.2.2.2) := xmt_at (q := 9) (r := 0) rfl rfl
theorem km181 : xmt 181 = some (1, 1, 11, 1, [], xM181.2.2.2.2.2) := xmt_at (q := 9) (r := 1) rfl rfl
theorem km182 : xmt 182 = some (1, 1, 11, 1, [], xM182.2.2.2.2.2) := xmt_at (q := 9) (r := 2) rfl rfl
theorem km183 : xmt 183 = some (1, 1, 11, 1, [], xM183.2.2.2.2.2) := xmt_at (q := 9) (r := 3) rfl rfl
theorem km184 : xmt 184 = some (2, 2, 11, 2, [], xM184.2.2.2.2.2) := xmt_at (q := 9) (r := 4) rfl rfl
theorem km185 : xmt 185 = some (2, 2, 11, 2, [], xM185.2.2.2.2.2) := xmt_at (q := 9) (r := 5) rfl rfl
theorem km186 : xmt 186 = some (1, 1, 11, 0, [], xM186.2.2.2.2.2) := xmt_at (q := 9) (r := 6) rfl rfl
theorem km187 : xmt 187 = some (2, 2, 11, 0, [], xM187.2.2.2.2.2) := xmt_at (q := 9) (r := 7) rfl rfl
theorem km188 : xmt 188 = some (2, 2, 11, 2, [], xM188.2.2.2.2.2) := xmt_at (q := 9) (r := 8) rfl rfl
theorem km189 : xmt 189 = some (2, 3, 11, 2, [], xM189.2.2.2.2.2) := xmt_at (q := 9) (r := 9) rfl rfl
theorem km190 : xmt 190 = some (2, 2, 11, 0, [], xM190.2.2.2.2.2) := xmt_at (q := 9) (r := 10) rfl rfl
theorem km191 : xmt 191 = some (3, 4, 11, 1, [], xM191.2.2.2.2.2) := xmt_at (q := 9) (r := 11) rfl rfl
theorem km192 : xmt 192 = some (1, 1, 99, 1, [], xM192.2.2.2.2.2) := xmt_at (q := 9) (r := 12) rfl rfl
theorem km193 : xmt 193 = some (1, 1, 99, 1, [], xM193.2.2.2.2.2) := xmt_at (q := 9) (r := 13) rfl rfl
theorem km194 : xmt 194 = some (3, 3, 11, 2, [], xM194.2.2.2.2.2) := xmt_at (q := 9) (r := 14) rfl rfl
theorem km195 : xmt 195 = some (1, 2, 11, 1, [], xM195.2.2.2.2.2) := xmt_at (q := 9) (r := 15) rfl rfl
theorem km196 : xmt 196 = some (1, 3, 11, 0, [], xM196.2.2.2.2.2) := xmt_at (q := 9) (r := 16) rfl rfl
theorem km197 : xmt 197 = some (1, 4, 11, 0, [], xM197.2.2.2.2.2) := xmt_at (q := 9) (r := 17) rfl rfl
theorem km198 : xmt 198 = some (1, 3, 11, 0, [], xM198.2.2.2.2.2) := xmt_at (q := 9) (r := 18) rfl rfl
theorem km199 : xmt 199 = some (3, 4, 11, 0, [], xM199.2.2.2.2.2) := xmt_at (q := 9) (r := 19) rfl rfl
theorem km200 : xmt 200 = some (1, 2, 11, 0, [], xM200.2.2.2.2.2) := xmt_at (q := 10) (r := 0) rfl rfl
theorem km201 : xmt 201 = some (2, 3, 11, 1, [], xM201.2.2.2.2.2) := xmt_at (q := 10) (r := 1) rfl rfl
theorem km202 : xmt 202 = some (3, 3, 11, 1, [], xM202.2.2.2.2.2) := xmt_at (q := 10) (r := 2) rfl rfl
theorem km203 : xmt 203 = some (4, 4, 11, 0, [], xM203.2.2.2.2.2) := xmt_at (q := 10) (r := 3) rfl rfl
theorem km204 : xmt 204 = some (3, 3, 11, 1, [], xM204.2.2.2.2.2) := xmt_at (q := 10) (r := 4) rfl rfl
theorem km205 : xmt 205 = some (4, 4, 11, 0, [], xM205.2.2.2.2.2) := xmt_at (q := 10) (r := 5) rfl rfl
theorem km206 : xmt 206 = some (3, 3, 11, 1, [], xM206.2.2.2.2.2) := xmt_at (q := 10) (r := 6) rfl rfl
theorem km207 : xmt 207 = some (3, 3, 11, 1, [], xM207.2.2.2.2.2) := xmt_at (q := 10) (r := 7) rfl rfl
theorem km208 : xmt 208 = some (2, 2, 11, 2, [], xM208.2.2.2.2.2) := xmt_at (q := 10) (r := 8) rfl rfl
theorem km209 : xmt 209 = some (2, 2, 11, 2, [], xM209.2.2.2.2.2) := xmt_at (q := 10) (r := 9) rfl rfl
theorem km210 : xmt 210 = some (2, 2, 11, 1, [], xM210.2.2.2.2.2) := xmt_at (q := 10) (r := 10) rfl rfl
theorem km211 : xmt 211 = some (2, 2, 11, 1, [], xM211.2.2.2.2.2) := xmt_at (q := 10) (r := 11) rfl rfl
theorem km212 : xmt 212 = some (3, 3, 11, 0, [], xM212.2.2.2.2.2) := xmt_at (q := 10) (r := 12) rfl rfl
theorem km213 : xmt 213 = some (2, 3, 11, 0, [], xM213.2.2.2.2.2) := xmt_at (q := 10) (r := 13) rfl rfl
theorem km214 : xmt 214 = some (3, 4, 11, 0, [], xM214.2.2.2.2.2) := xmt_at (q := 10) (r := 14) rfl rfl
theorem km215 : xmt 215 = some (3, 5, 11, 1, [], xM215.2.2.2.2.2) := xmt_at (q := 10) (r := 15) rfl rfl
theorem km216 : xmt 216 = some (2, 3, 11, 2, [], xM216.2.2.2.2.2) := xmt_at (q := 10) (r := 16) rfl rfl
theorem km217 : xmt 217 = some (2, 3, 11, 0, [], xM217.2.2.2.2.2) := xmt_at (q := 10) (r := 17) rfl rfl
theorem km218 : xmt 218 = some (2, 2, 11, 0, [], xM218.2.2.2.2.2) := xmt_at (q := 10) (r := 18) rfl rfl
theorem km219 : xmt 219 = some (3, 3, 11, 2, [], xM219.2.2.2.2.2) := xmt_at (q := 10) (r := 19) rfl rfl
theorem km220 : xmt 220 = some (2, 6, 11, 0, [], xM220.2.2.2.2.2) := xmt_at (q := 11) (r := 0) rfl rfl
theorem km221 : xmt 221 = some (2, 2, 11, 0, [], xM221.2.2.2.2.2) := xmt_at (q := 11) (r := 1) rfl rfl
theorem km222 : xmt 222 = some (2, 4, 11, 1, [], xM222.2.2.2.2.2) := xmt_at (q := 11) (r := 2) rfl rfl
theorem km223 : xmt 223 = some (2, 2, 11, 2, [], xM223.2.2.2.2.2) := xmt_at (q := 11) (r := 3) rfl rfl
theorem km224 : xmt 224 = some (2, 3, 11, 6, [], xM224.2.2.2.2.2) := xmt_at (q := 11) (r := 4) rfl rfl
theorem km225 : xmt 225 = some (1, 3, 11, 0, [], xM225.2.2.2.2.2) := xmt_at (q := 11) (r := 5) rfl rfl
theorem km226 : xmt 226 = some (2, 5, 11, 0, [], xM226.2.2.2.2.2) := xmt_at (q := 11) (r := 6) rfl rfl
theorem km227 : xmt 227 = some (2, 3, 11, 0, [], xM227.2.2.2.2.2) := xmt_at (q := 11) (r := 7) rfl rfl
theorem km228 : xmt 228 = some (1, 2, 11, 0, [], xM228.2.2.2.2.2) := xmt_at (q := 11) (r := 8) rfl rfl
theorem km229 : xmt 229 = some (2, 3, 11, 0, [], xM229.2.2.2.2.2) := xmt_at (q := 11) (r := 9) rfl rfl
theorem km230 : xmt 230 = some (1, 3, 11, 1, [], xM230.2.2.2.2.2) := xmt_at (q := 11) (r := 10) rfl rfl
theorem km231 : xmt 231 = some (1, 3, 11, 1, [], xM231.2.2.2.2.2) := xmt_at (q := 11) (r := 11) rfl rfl
theorem km232 : xmt 232 = some (1, 3, 11, 1, [], xM232.2.2.2.2.2) := xmt_at (q := 11) (r := 12) rfl rfl
theorem km233 : xmt 233 = some (1, 3, 11, 1, [], xM233.2.2.2.2.2) := xmt_at (q := 11) (r := 13) rfl rfl
theorem km234 : xmt 234 = some (1, 3, 11, 1, [], xM234.2.2.2.2.2) := xmt_at (q := 11) (r := 14) rfl rfl
theorem km235 : xmt 235 = some (1, 3, 11, 1, [], xM235.2.2.2.2.2) := xmt_at (q := 11) (r := 15) rfl rfl
theorem km236 : xmt 236 = some (1, 3, 11, 1, [], xM236.2.2.2.2.2) := xmt_at (q := 11) (r := 16) rfl rfl
theorem km237 : xmt 237 = some (1, 3, 11, 1, [], xM237.2.2.2.2.2) := xmt_at (q := 11) (r := 17) rfl rfl
theorem km238 : xmt 238 = some (1, 3, 11, 1, [], xM238.2.2.2.2.2) := xmt_at (q := 11) (r := 18) rfl rfl
theorem km239 : xmt 239 = some (2, 2, 11, 1, [], xM239.2.2.2.2.2) := xmt_at (q := 11) (r := 19) rfl rfl
theorem km240 : xmt 240 = some (2, 2, 11, 1, [], xM240.2.2.2.2.2) := xmt_at (q := 12) (r := 0) rfl rfl
theorem km241 : xmt 241 = some (2, 2, 11, 2, [], xM241.2.2.2.2.2) := xmt_at (q := 12) (r := 1) rfl rfl
theorem km242 : xmt 242 = some (2, 2, 11, 2, [], xM242.2.2.2.2.2) := xmt_at (q := 12) (r := 2) rfl rfl
theorem km243 : xmt 243 = some (3, 3, 11, 2, [], xM243.2.2.2.2.2) := xmt_at (q := 12) (r := 3) rfl rfl
theorem km244 : xmt 244 = some (2, 4, 11, 1, [], xM244.2.2.2.2.2) := xmt_at (q := 12) (r := 4) rfl rfl
theorem km245 : xmt 245 = some (2, 4, 11, 1, [], xM245.2.2.2.2.2) := xmt_at (q := 12) (r := 5) rfl rfl
theorem km246 : xmt 246 = some (3, 3, 11, 1, [], xM246.2.2.2.2.2) := xmt_at (q := 12) (r := 6) rfl rfl
theorem km247 : xmt 247 = some (2, 4, 11, 1, [], xM247.2.2.2.2.2) := xmt_at (q := 12) (r := 7) rfl rfl
theorem km248 : xmt 248 = some (1, 3, 99, 1, [], xM248.2.2.2.2.2) := xmt_at (q := 12) (r := 8) rfl rfl
theorem km249 : xmt 249 = some (2, 2, 11, 1, [], xM249.2.2.2.2.2) := xmt_at (q := 12) (r := 9) rfl rfl
theorem km250 : xmt 250 = some (2, 5, 11, 1, [], xM250.2.2.2.2.2) := xmt_at (q := 12) (r := 10) rfl rfl
theorem km251 : xmt 251 = some (2, 4, 11, 1, [], xM251.2.2.2.2.2) := xmt_at (q := 12) (r := 11) rfl rfl
theorem km252 : xmt 252 = some (2, 4, 11, 1, [], xM252.2.2.2.2.2) := xmt_at (q := 12) (r := 12) rfl rfl
theorem km253 : xmt 253 = some (3, 3, 11, 1, [], xM253.2.2.2.2.2) := xmt_at (q := 12) (r := 13) rfl rfl
theorem km254 : xmt 254 = some (3, 3, 11, 1, [], xM254.2.2.2.2.2) := xmt_at (q := 12) (r := 14) rfl rfl
theorem km255 : xmt 255 = some (3, 3, 11, 1, [], xM255.2.2.2.2.2) := xmt_at (q := 12) (r := 15) rfl rfl
theorem km256 : xmt 256 = some (3, 3, 11, 1, [], xM256.2.2.2.2.2) := xmt_at (q := 12) (r := 16) rfl rfl
theorem km257 : xmt 257 = some (3, 3, 11, 1, [], xM257.2.2.2.2.2) := xmt_at (q := 12) (r := 17) rfl rfl
theorem km258 : xmt 258 = some (2, 2, 11, 1, [], xM258.2.2.2.2.2) := xmt_at (q := 12) (r := 18) rfl rfl
theorem km259 : xmt 259 = some (2, 2, 11, 1, [], xM259.2.2.2.2.2) := xmt_at (q := 12) (r := 19) rfl rfl
theorem km260 : xmt 260 = some (2, 2, 11, 2, [], xM260.2.2.2.2.2) := xmt_at (q := 13) (r := 0) rfl rfl
theorem km261 : xmt 261 = some (3, 6, 11, 1, [], xM261.2.2.2.2.2) := xmt_at (q := 13) (r := 1) rfl rfl
theorem km262 : xmt 262 = some (3, 3, 11, 1, [], xM262.2.2.2.2.2) := xmt_at (q := 13) (r := 2) rfl rfl
theorem km263 : xmt 263 = some (2, 4, 11, 1, [], xM263.2.2.2.2.2) := xmt_at (q := 13) (r := 3) rfl rfl
theorem km264 : xmt 264 = some (2, 3, 11, 1, [], xM264.2.2.2.2.2) := xmt_at (q := 13) (r := 4) rfl rfl
theorem km265 : xmt 265 = some (2, 2, 11, 2, [], xM265.2.2.2.2.2) := xmt_at (q := 13) (r := 5) rfl rfl
theorem km266 : xmt 266 = some (2, 3, 11, 1, [], xM266.2.2.2.2.2) := xmt_at (q := 13) (r := 6) rfl rfl
theorem km267 : xmt 267 = some (2, 4, 11, 1, [], xM267.2.2.2.2.2) := xmt_at (q := 13) (r := 7) rfl rfl
theorem km268 : xmt 268 = some (2, 4, 11, 1, [], xM268.2.2.2.2.2) := xmt_at (q := 13) (r := 8) rfl rfl
theorem km269 : xmt 269 = some (1, 3, 11, 1, [], xM269.2.2.2.2.2) := xmt_at (q := 13) (r := 9) rfl rfl
theorem km270 : xmt 270 = some (1, 3, 11, 1, [], xM270.2.2.2.2.2) := xmt_at (q := 13) (r := 10) rfl rfl
theorem km271 : xmt 271 = some (3, 5, 11, 1, [], xM271.2.2.2.2.2) := xmt_at (q := 13) (r := 11) rfl rfl
theorem km272 : xmt 272 = some (2, 2, 11, 6, [], xM272.2.2.2.2.2) := xmt_at (q := 13) (r := 12) rfl rfl
theorem km273 : xmt 273 = some (2, 2, 11, 1, [], xM273.2.2.2.2.2) := xmt_at (q := 13) (r := 13) rfl rfl
theorem km274 : xmt 274 = some (2, 6, 11, 1, [], xM274.2.2.2.2.2) := xmt_at (q := 13) (r := 14) rfl rfl
theorem km275 : xmt 275 = some (1, 1, 11, 2, [], xM275.2.2.2.2.2) := xmt_at (q := 13) (r := 15) rfl rfl
theorem km276 : xmt 276 = some (1, 3, 11, 1, [], xM276.2.2.2.2.2) := xmt_at (q := 13) (r := 16) rfl rfl
theorem km277 : xmt 277 = some (1, 1, 11, 1, [], xM277.2.2.2.2.2) := xmt_at (q := 13) (r := 17) rfl rfl
theorem km278 : xmt 278 = some (1, 3, 11, 1, [], xM278.2.2.2.2.2) := xmt_at (q := 13) (r := 18) rfl rfl
theorem km279 : xmt 279 = some (1, 3, 11, 1, [], xM279.2.2.2.2.2) := xmt_at (q := 13) (r := 19) rfl rfl
theorem km280 : xmt 280 = some (1, 1, 11, 1, [], xM280.2.2.2.2.2) := xmt_at (q := 14) (r := 0) rfl rfl
theorem km281 : xmt 281 = some (1, 3, 11, 7, [], xM281.2.2.2.2.2) := xmt_at (q := 14) (r := 1) rfl rfl
theorem km282 : xmt 282 = some (1, 1, 11, 7, [], xM282.2.2.2.2.2) := xmt_at (q := 14) (r := 2) rfl rfl
theorem km283 : xmt 283 = some (1, 1, 11, 5, [], xM283.2.2.2.2.2) := xmt_at (q := 14) (r := 3) rfl rfl
theorem km284 : xmt 284 = some (1, 1, 11, 0, [], xM284.2.2.2.2.2) := xmt_at (q := 14) (r := 4) rfl rfl
theorem km285 : xmt 285 = some (2, 2, 11, 1, [], xM285.2.2.2.2.2) := xmt_at (q := 14) (r := 5) rfl rfl
theorem km286 : xmt 286 = some (2, 2, 11, 6, [], xM286.2.2.2.2.2) := xmt_at (q := 14) (r := 6) rfl rfl
theorem km287 : xmt 287 = some (2, 3, 11, 1, [], xM287.2.2.2.2.2) := xmt_at (q := 14) (r := 7) rfl rfl
theorem km288 : xmt 288 = some (2, 4, 11, 2, [], xM288.2.2.2.2.2) := xmt_at (q := 14) (r := 8) rfl rfl
theorem km289 : xmt 289 = some (2, 3, 11, 1, [], xM289.2.2.2.2.2) := xmt_at (q := 14) (r := 9) rfl rfl
theorem km290 : xmt 290 = some (1, 1, 99, 2, [], xM290.2.2.2.2.2) := xmt_at (q := 14) (r := 10) rfl rfl
theorem km291 : xmt 291 = some (4, 4, 11, 1, [], xM291.2.2.2.2.2) := xmt_at (q := 14) (r := 11) rfl rfl
theorem km292 : xmt 292 = some (3, 3, 11, 1, [], xM292.2.2.2.2.2) := xmt_at (q := 14) (r := 12) rfl rfl
theorem km293 : xmt 293 = some (3, 3, 11, 1, [], xM293.2.2.2.2.2) := xmt_at (q := 14) (r := 13) rfl rfl
theorem km294 : xmt 294 = some (3, 3, 11, 1, [], xM294.2.2.2.2.2) := xmt_at (q := 14) (r := 14) rfl rfl
theorem km295 : xmt 295 = some (2, 2, 11, 1, [], xM295.2.2.2.2.2) := xmt_at (q := 14) (r := 15) rfl rfl
theorem km296 : xmt 296 = some (1, 2, 11, 1, [], xM296.2.2.2.2.2) := xmt_at (q := 14) (r := 16) rfl rfl
theorem km297 : xmt 297 = some (3, 3, 11, 2, [], xM297.2.2.2.2.2) := xmt_at (q := 14) (r := 17) rfl rfl
theorem km298 : xmt 298 = some (3, 3, 11, 6, [], xM298.2.2.2.2.2) := xmt_at (q := 14) (r := 18) rfl rfl
theorem km299 : xmt 299 = some (3, 5, 11, 6, [], xM299.2.2.2.2.2) := xmt_at (q := 14) (r := 19) rfl rfl
theorem km300 : xmt 300 = some (2, 6, 11, 1, [], xM300.2.2.2.2.2) := xmt_at (q := 15) (r := 0) rfl rfl
theorem km301 : xmt 301 = some (2, 3, 11, 1, [], xM301.2.2.2.2.2) := xmt_at (q := 15) (r := 1) rfl rfl
theorem km302 : xmt 302 = some (1, 4, 11, 1, [], xM302.2.2.2.2.2) := xmt_at (q := 15) (r := 2) rfl rfl
theorem km303 : xmt 303 = some (2, 2, 11, 0, [], xM303.2.2.2.2.2) := xmt_at (q := 15) (r := 3) rfl rfl
theorem km304 : xmt 304 = some (2, 2, 11, 0, [], xM304.2.2.2.2.2) := xmt_at (q := 15) (r := 4) rfl rfl
theorem km305 : xmt 305 = some (2, 3, 11, 1, [], xM305.2.2.2.2.2) := xmt_at (q := 15) (r := 5) rfl rfl
theorem km306 : xmt 306 = some (1, 2, 11, 1, [], xM306.2.2.2.2.2) := xmt_at (q := 15) (r := 6) rfl rfl
theorem km307 : xmt 307 = some (1, 2, 11, 1, [], xM307.2.2.2.2.2) := xmt_at (q := 15) (r := 7) rfl rfl
theorem km308 : xmt 308 = some (2, 2, 11, 1, [], xM308.2.2.2.2.2) := xmt_at (q := 15) (r := 8) rfl rfl
theorem km309 : xmt 309 = some (1, 2, 11, 0, [], xM309.2.2.2.2.2) := xmt_at (q := 15) (r := 9) rfl rfl
theorem km310 : xmt 310 = some (2, 3, 11, 1, [], xM310.2.2.2.2.2) := xmt_at (q := 15) (r := 10) rfl rfl
theorem km311 : xmt 311 = some (2, 3, 11, 1, [], xM311.2.2.2.2.2) := xmt_at (q := 15) (r := 11) rfl rfl
theorem km312 : xmt 312 = some (2, 3, 11, 1, [], xM312.2.2.2.2.2) := xmt_at (q := 15) (r := 12) rfl rfl
theorem km313 : xmt 313 = some (2, 4, 11, 1, [], xM313.2.2.2.2.2) := xmt_at (q := 15) (r := 13) rfl rfl
theorem km314 : xmt 314 = some (3, 3, 11, 1, [], xM314.2.2.2.2.2) := xmt_at (q := 15) (r := 14) rfl rfl
theorem km315 : xmt 315 = some (2, 4, 11, 1, [], xM315.2.2.2.2.2) := xmt_at (q := 15) (r := 15) rfl rfl
theorem km316 : xmt 316 = some (3, 4, 11, 1, [], xM316.2.2.2.2.2) := xmt_at (q := 15) (r := 16) rfl rfl
theorem km317 : xmt 317 = some (3, 3, 11, 1, [], xM317.2.2.2.2.2) := xmt_at (q := 15) (r := 17) rfl rfl
theorem km318 : xmt 318 = some (3, 4, 11, 1, [], xM318.2.2.2.2.2) := xmt_at (q := 15) (r := 18) rfl rfl
theorem km319 : xmt 319 = some (1, 1, 11, 1, [], xM319.2.2.2.2.2) := xmt_at (q := 15) (r := 19) rfl rfl
theorem km320 : xmt 320 = some (1, 1, 11, 1, [], xM320.2.2.2.2.2) := xmt_at (q := 16) (r := 0) rfl rfl
theorem km321 : xmt 321 = some (2, 2, 11, 1, [], xM321.2.2.2.2.2) := xmt_at (q := 16) (r := 1) rfl rfl
theorem km322 : xmt 322 = some (2, 3, 11, 1, [], xM322.2.2.2.2.2) := xmt_at (q := 16) (r := 2) rfl rfl
theorem km383 : xmt 383 = some (1, 1, 99, 1, [], xM383.2.2.2.2.2) := xmt_at (q := 19) (r := 3) rfl rfl
theorem km384 : xmt 384 = some (1, 1, 99, 1, [], xM384.2.2.2.2.2) := xmt_at (q := 19) (r := 4) rfl rfl
theorem km385 : xmt 385 = some (2, 2, 99, 1, [], xM385.2.2.2.2.2) := xmt_at (q := 19) (r := 5) rfl rfl
theorem km386 : xmt 386 = some (2, 2, 99, 1, [], xM386.2.2.2.2.2) := xmt_at (q := 19) (r := 6) rfl rfl
theorem km387 : xmt 387 = some (1, 1, 99, 2, [], xM387.2.2.2.2.2) := xmt_at (q := 19) (r := 7) rfl rfl
theorem km388 : xmt 388 = some (1, 1, 99, 1, [], xM388.2.2.2.2.2) := xmt_at (q := 19) (r := 8) rfl rfl
theorem km389 : xmt 389 = some (1, 2, 99, 2, [], xM389.2.2.2.2.2) := xmt_at (q := 19) (r := 9) rfl rfl
theorem km390 : xmt 390 = some (1, 2, 99, 5, [], xM390.2.2.2.2.2) := xmt_at (q := 19) (r := 10) rfl rfl
theorem km391 : xmt 391 = some (1, 1, 30, 1, [], xM391.2.2.2.2.2) := xmt_at (q := 19) (r := 11) rfl rfl
theorem km392 : xmt 392 = some (2, 2, 30, 4, [], xM392.2.2.2.2.2) := xmt_at (q := 19) (r := 12) rfl rfl
theorem km393 : xmt 393 = some (1, 1, 30, 3, [], xM393.2.2.2.2.2) := xmt_at (q := 19) (r := 13) rfl rfl
theorem km394 : xmt 394 = some (1, 1, 30, 2, [], xM394.2.2.2.2.2) := xmt_at (q := 19) (r := 14) rfl rfl
theorem km395 : xmt 395 = some (2, 2, 99, 0, [], xM395.2.2.2.2.2) := xmt_at (q := 19) (r := 15) rfl rfl
theorem km396 : xmt 396 = some (2, 2, 99, 4, [], xM396.2.2.2.2.2) := xmt_at (q := 19) (r := 16) rfl rfl
theorem km397 : xmt 397 = some (3, 3, 99, 1, [], xM397.2.2.2.2.2) := xmt_at (q := 19) (r := 17) rfl rfl
theorem k1_0 : xM1.2.2.2.2.2[0]? = some ([0, 1], [.aload 0, .getfield 0, .aload 0, .getfield 1, .arraylength, .if_icmp .ge 2, .goto_w 1]) := rfl
theorem k1_1 : xM1.2.2.2.2.2[1]? = some ([0, 1], [.aload 0, .getfield 1, .aload 0, .getfield 0, .iload 1, .iastore, .aload 0, .dup, .getfield 0, .iconst 1, .iadd, .putfield 0, .goto_w 2]) := rfl
theorem k1_2 : xM1.2.2.2.2.2[2]? = some ([], [.return_]) := rfl
theorem k2_0 : xM2.2.2.2.2.2[0]? = some ([0, 1], [.iload 1, .ifCond .ge 2, .goto_w 1]) := rfl
theorem k2_1 : xM2.2.2.2.2.2[1]? = some ([0, 1], [.aload 0, .iconst 45, .invokevirtual 1, .goto_w 2]) := rfl
theorem k2_2 : xM2.2.2.2.2.2[2]? = some ([0, 1], [.iload 1, .invokestatic 384, .istore 2, .iconst 1, .istore 3, .iload 2, .iconst 10, .idiv, .istore 4, .goto_w 3]) := rfl
theorem k2_3 : xM2.2.2.2.2.2[3]? = some ([0, 2, 3, 4], [.iload 4, .ifCond .le 6, .goto_w 4]) := rfl
theorem k2_4 : xM2.2.2.2.2.2[4]? = some ([0, 2, 3, 4], [.iload 3, .iconst 10, .if_icmp .ge 6, .goto_w 5]) := rfl
theorem k2_5 : xM2.2.2.2.2.2[5]? = some ([0, 2, 3, 4], [.iinc 3 1, .iload 4, .iconst 10, .idiv, .istore 4, .goto 3]) := rfl
theorem k2_6 : xM2.2.2.2.2.2[6]? = some ([0, 2, 3], [.aload 0, .getfield 0, .iload 3, .iadd, .istore 4, .iload 4, .aload 0, .getfield 1, .arraylength, .if_icmp .le 8, .goto_w 7]) := rfl
theorem k2_7 : xM2.2.2.2.2.2[7]? = some ([], [.return_]) := rfl
theorem k2_8 : xM2.2.2.2.2.2[8]? = some ([0, 2, 4], [.iload 4, .iconst 1, .isub, .istore 5, .goto_w 9]) := rfl
theorem k2_9 : xM2.2.2.2.2.2[9]? = some ([0, 2, 4, 5], [.iload 5, .aload 0, .getfield 0, .if_icmp .lt 11, .goto_w 10]) := rfl
theorem k2_10 : xM2.2.2.2.2.2[10]? = some ([0, 2, 4, 5], [.aload 0, .getfield 1, .iload 5, .iconst 48, .iload 2, .iconst 10, .irem, .iadd, .iastore, .iload 2, .iconst 10, .idiv, .istore 2, .iinc 5 (-1), .goto 9]) := rfl
theorem k2_11 : xM2.2.2.2.2.2[11]? = some ([0, 4], [.aload 0, .iload 4, .putfield 0, .return_]) := rfl
theorem k4_0 : xM4.2.2.2.2.2[0]? = some ([0, 1], [.aload 0, .aload 1, .getfield 32, .putfield 32, .aload 1, .getfield 33, .aload 0, .getfield 33, .invokestatic 172, .aload 1, .getfield 34, .aload 0, .getfield 34, .invokestatic 172, .aload 1, .getfield 35, .aload 0, .getfield 35, .invokestatic 172, .return_]) := rfl
theorem k5_0 : xM5.2.2.2.2.2[0]? = some ([0, 1, 2, 3], [.aload 0, .getfield 32, .iconst 12, .if_icmp .lt 2, .goto_w 1]) := rfl
theorem k5_1 : xM5.2.2.2.2.2[1]? = some ([], [.return_]) := rfl
theorem k5_2 : xM5.2.2.2.2.2[2]? = some ([0, 1, 2, 3], [.aload 0, .getfield 33, .aload 0, .getfield 32, .iload 1, .iastore, .aload 0, .getfield 34, .aload 0, .getfield 32, .iload 2, .iastore, .aload 0, .getfield 35, .aload 0, .getfield 32, .iload 3, .iastore, .aload 0, .dup, .getfield 32, .iconst 1, .iadd, .putfield 32, .return_]) := rfl
theorem k6_0 : xM6.2.2.2.2.2[0]? = some ([0, 1], [.iload 1, .ifCond .lt 2, .goto_w 1]) := rfl
theorem k6_1 : xM6.2.2.2.2.2[1]? = some ([0, 1], [.iload 1, .aload 0, .getfield 32, .if_icmp .lt 3, .goto_w 2]) := rfl
theorem k6_2 : xM6.2.2.2.2.2[2]? = some ([], [.return_]) := rfl
theorem k6_3 : xM6.2.2.2.2.2[3]? = some ([0, 1], [.iload 1, .istore 2, .goto_w 4]) := rfl
theorem k6_4 : xM6.2.2.2.2.2[4]? = some ([0, 2], [.iload 2, .iconst 1, .iadd, .aload 0, .getfield 32, .if_icmp .ge 6, .goto_w 5]) := rfl
theorem k6_5 : xM6.2.2.2.2.2[5]? = some ([0, 2], [.aload 0, .getfield 33, .iload 2, .aload 0, .getfield 33, .iload 2, .iconst 1, .iadd, .iaload, .iastore, .aload 0, .getfield 34, .iload 2, .aload 0, .getfield 34, .iload 2, .iconst 1, .iadd, .iaload, .iastore, .aload 0, .getfield 35, .iload 2, .aload 0, .getfield 35, .iload 2, .iconst 1, .iadd, .iaload, .iastore, .iinc 2 1, .goto 4]) := rfl
theorem k6_6 : xM6.2.2.2.2.2[6]? = some ([0], [.aload 0, .dup, .getfield 32, .iconst 1, .isub, .putfield 32, .return_]) := rfl
theorem k7_0 : xM7.2.2.2.2.2[0]? = some ([0, 1, 2], [.iconst 0, .istore 3, .iconst 0, .istore 4, .goto_w 1]) := rfl
theorem k7_1 : xM7.2.2.2.2.2[1]? = some ([0, 1, 2, 3, 4], [.iload 4, .aload 0, .getfield 32, .if_icmp .ge 6, .goto_w 2]) := rfl
theorem k7_2 : xM7.2.2.2.2.2[2]? = some ([0, 1, 2, 3, 4], [.aload 0, .getfield 34, .iload 4, .iaload, .iload 1, .if_icmp .lt 5, .goto_w 3]) := rfl
theorem k7_3 : xM7.2.2.2.2.2[3]? = some ([0, 1, 2, 3, 4], [.aload 0, .getfield 34, .iload 4, .iaload, .iload 2, .if_icmp .gt 5, .goto_w 4]) := rfl
theorem k7_4 : xM7.2.2.2.2.2[4]? = some ([0, 1, 2, 3, 4], [.iinc 3 1, .goto_w 5]) := rfl
theorem k7_5 : xM7.2.2.2.2.2[5]? = some ([0, 1, 2, 3, 4], [.iinc 4 1, .goto 1]) := rfl
theorem k7_6 : xM7.2.2.2.2.2[6]? = some ([3], [.iload 3, .ireturn]) := rfl
theorem k8_0 : xM8.2.2.2.2.2[0]? = some ([0, 1, 2], [.iconst (-1), .istore 3, .iconst 0, .istore 4, .goto_w 1]) := rfl
theorem k8_1 : xM8.2.2.2.2.2[1]? = some ([0, 1, 2, 3, 4], [.iload 4, .aload 0, .getfield 32, .if_icmp .ge 11, .goto_w 2]) := rfl
theorem k8_2 : xM8.2.2.2.2.2[2]? = some ([0, 1, 2, 3, 4], [.aload 0, .getfield 34, .iload 4, .iaload, .iload 1, .if_icmp .lt 5, .goto_w 3]) := rfl
theorem k8_3 : xM8.2.2.2.2.2[3]? = some ([0, 1, 2, 3, 4], [.aload 0, .getfield 34, .iload 4, .iaload, .iload 2, .if_icmp .gt 5, .goto_w 4]) := rfl
theorem k8_4 : xM8.2.2.2.2.2[4]? = some ([0, 1, 2, 3, 4], [.iconst 1, .goto 6]) := rfl
theorem k8_5 : xM8.2.2.2.2.2[5]? = some ([0, 1, 2, 3, 4], [.iconst 0, .goto_w 6]) := rfl
theorem k8_6 : xM8.2.2.2.2.2[6]? = some ([0, 1, 2, 3, 4], [.istore 5, .iload 5, .ifCond .eq 10, .goto_w 7]) := rfl
theorem k8_7 : xM8.2.2.2.2.2[7]? = some ([0, 1, 2, 3, 4], [.iload 3, .iconst (-1), .if_icmp .eq 9, .goto_w 8]) := rfl
theorem k8_8 : xM8.2.2.2.2.2[8]? = some ([0, 1, 2, 3, 4], [.aload 0, .getfield 34, .iload 4, .iaload, .aload 0, .getfield 34, .iload 3, .iaload, .if_icmp .le 10, .goto_w 9]) := rfl
theorem k8_9 : xM8.2.2.2.2.2[9]? = some ([0, 1, 2, 4], [.iload 4, .istore 3, .goto_w 10]) := rfl
theorem k8_10 : xM8.2.2.2.2.2[10]? = some ([0, 1, 2, 3, 4], [.iinc 4 1, .goto 1]) := rfl
theorem k8_11 : xM8.2.2.2.2.2[11]? = some ([3], [.iload 3, .ireturn]) := rfl
theorem k9_0 : xM9.2.2.2.2.2[0]? = some ([0, 1], [.iconst 0, .istore 2, .iconst 0, .istore 3, .goto_w 1]) := rfl
theorem k9_1 : xM9.2.2.2.2.2[1]? = some ([0, 1, 2, 3], [.iload 3, .aload 0, .getfield 32, .if_icmp .ge 5, .goto_w 2]) := rfl
theorem k9_2 : xM9.2.2.2.2.2[2]? = some ([0, 1, 2, 3], [.aload 0, .getfield 33, .iload 3, .iaload, .iload 1, .if_icmp .ne 4, .goto_w 3]) := rfl
theorem k9_3 : xM9.2.2.2.2.2[3]? = some ([0, 1, 2, 3], [.iinc 2 1, .goto_w 4]) := rfl
theorem k9_4 : xM9.2.2.2.2.2[4]? = some ([0, 1, 2, 3], [.iinc 3 1, .goto 1]) := rfl
theorem k9_5 : xM9.2.2.2.2.2[5]? = some ([2], [.iload 2, .ireturn]) := rfl
theorem k11_0 : xM11.2.2.2.2.2[0]? = some ([0], [.aload 0, .iconst 0, .putfield 64, .aload 0, .iconst 0, .putfield 65, .return_]) := rfl
theorem k12_0 : xM12.2.2.2.2.2[0]? = some ([0], [.iconst 0, .istore 1, .goto_w 1]) := rfl
theorem k12_1 : xM12.2.2.2.2.2[1]? = some ([0, 1], [.iload 1, .aload 0, .getfield 68, .arraylength, .if_icmp .ge 3, .goto_w 2]) := rfl
theorem k12_2 : xM12.2.2.2.2.2[2]? = some ([0, 1], [.aload 0, .getfield 68, .iload 1, .iconst 0, .bastore, .iinc 1 1, .goto 1]) := rfl
theorem k12_3 : xM12.2.2.2.2.2[3]? = some ([], [.return_]) := rfl
theorem k13_0 : xM13.2.2.2.2.2[0]? = some ([0, 1], [.aload 1, .aload 0, .getfield 66, .aload 0, .getfield 64, .aload 0, .getfield 65, .iadd, .iconst 8, .irem, .aaload, .invokestatic 17, .aload 0, .getfield 65, .iconst 8, .if_icmp .ge 2, .goto_w 1]) := rfl
theorem k13_1 : xM13.2.2.2.2.2[1]? = some ([0], [.aload 0, .dup, .getfield 65, .iconst 1, .iadd, .putfield 65, .goto 3]) := rfl
theorem k13_2 : xM13.2.2.2.2.2[2]? = some ([0], [.aload 0, .aload 0, .getfield 64, .iconst 1, .iadd, .iconst 8, .irem, .putfield 64, .goto_w 3]) := rfl
theorem k13_3 : xM13.2.2.2.2.2[3]? = some ([], [.return_]) := rfl
theorem k14_0 : xM14.2.2.2.2.2[0]? = some ([0, 1], [.aload 0, .getfield 65, .ifCond .le 2, .goto_w 1]) := rfl
theorem k14_1 : xM14.2.2.2.2.2[1]? = some ([0, 1], [.aload 0, .dup, .getfield 65, .iconst 1, .isub, .putfield 65, .aload 0, .getfield 66, .aload 0, .getfield 64, .aload 0, .getfield 65, .iadd, .iconst 8, .irem, .aaload, .aload 1, .invokestatic 17, .goto_w 2]) := rfl
theorem k14_2 : xM14.2.2.2.2.2[2]? = some ([], [.return_]) := rfl
theorem k15_0 : xM15.2.2.2.2.2[0]? = some ([0, 1, 2], [.aload 2, .aload 0, .getfield 67, .iload 1, .aaload, .invokestatic 17, .aload 0, .getfield 68, .iload 1, .iconst 1, .bastore, .return_]) := rfl
theorem k16_0 : xM16.2.2.2.2.2[0]? = some ([0, 1, 2], [.aload 0, .getfield 67, .iload 1, .aaload, .aload 2, .invokestatic 17, .return_]) := rfl
theorem k17_0 : xM17.2.2.2.2.2[0]? = some ([0, 1], [.aload 0, .ifnull 3, .goto_w 1]) := rfl
theorem k17_1 : xM17.2.2.2.2.2[1]? = some ([0, 1], [.aload 1, .ifnull 3, .goto_w 2]) := rfl
theorem k17_2 : xM17.2.2.2.2.2[2]? = some ([0, 1], [.aload 1, .aload 0, .invokevirtual 68, .goto_w 3]) := rfl
theorem k17_3 : xM17.2.2.2.2.2[3]? = some ([], [.return_]) := rfl
theorem k19_0 : xM19.2.2.2.2.2[0]? = some ([0, 1], [.aload 0, .iconst 0, .putfield 99, .aload 0, .iconst (-1), .putfield 100, .aload 0, .getfield 97, .invokevirtual 69, .aload 0, .getfield 98, .iconst 0, .putfield 192, .aload 0, .getfield 96, .iload 1, .invokevirtual 83, .aload 0, .invokevirtual 21, .ifCond .ne 2, .goto_w 1]) := rfl
theorem k19_1 : xM19.2.2.2.2.2[1]? = some ([], [.iconst 0, .ireturn]) := rfl
theorem k19_2 : xM19.2.2.2.2.2[2]? = some ([0], [.aload 0, .getfield 96, .invokevirtual 84, .iconst 0, .istore 2, .goto_w 3]) := rfl
theorem k19_3 : xM19.2.2.2.2.2[3]? = some ([0, 2], [.iload 2, .iconst 700, .if_icmp .ge 8, .goto_w 4]) := rfl
theorem k19_4 : xM19.2.2.2.2.2[4]? = some ([0, 2], [.aload 0, .getfield 96, .getfield 293, .iconst 3, .if_icmp .ne 8, .goto_w 5]) := rfl
theorem k19_5 : xM19.2.2.2.2.2[5]? = some ([0, 2], [.aload 0, .invokevirtual 22, .ifCond .ne 7, .goto_w 6]) := rfl
theorem k19_6 : xM19.2.2.2.2.2[6]? = some ([], [.iconst 0, .ireturn]) := rfl
theorem k19_7 : xM19.2.2.2.2.2[7]? = some ([0, 2], [.aload 0, .getfield 96, .invokevirtual 84, .iinc 2 1, .goto 3]) := rfl
theorem k19_8 : xM19.2.2.2.2.2[8]? = some ([0], [.aload 0, .getfield 96, .getfield 293, .ifCond .eq 10, .goto_w 9]) := rfl
theorem k19_9 : xM19.2.2.2.2.2[9]? = some ([0], [.aload 0, .iconst 1, .invokevirtual 20, .ifCond .eq 11, .goto_w 10]) := rfl
theorem k19_10 : xM19.2.2.2.2.2[10]? = some ([], [.iconst 1, .goto 12]) := rfl
theorem k19_11 : xM19.2.2.2.2.2[11]? = some ([], [.iconst 0, .goto_w 12]) := rfl
theorem k19_12 : xM19.2.2.2.2.2[12]? = some ([], [.ireturn]) := rfl
theorem k20_0 : xM20.2.2.2.2.2[0]? = some ([0, 1], [.aload 0, .iload 1, .putfield 99, .aload 0, .aload 0, .getfield 96, .getfield 291, .putfield 100, .iconst 0, .ireturn]) := rfl
theorem k21_0 : xM21.2.2.2.2.2[0]? = some ([0], [.aload 0, .getfield 96, .invokevirtual 84, .aload 0, .getfield 96, .ldc 1, .invokevirtual 89, .ifCond .ne 2, .goto_w 1]) := rfl
theorem k21_1 : xM21.2.2.2.2.2[1]? = some ([0], [.aload 0, .iconst 1, .invokevirtual 20, .ireturn]) := rfl
theorem k21_2 : xM21.2.2.2.2.2[2]? = some ([0], [.iconst 0, .istore 1, .goto_w 3]) := rfl
theorem k21_3 : xM21.2.2.2.2.2[3]? = some ([0, 1], [.iload 1, .iconst 6, .if_icmp .ge 7, .goto_w 4]) := rfl
theorem k21_4 : xM21.2.2.2.2.2[4]? = some ([0, 1], [.aload 0, .getstatic 0, .iload 1, .iaload, .getstatic 1, .iload 1, .iaload, .invokevirtual 26, .ifCond .ne 6, .goto_w 5]) := rfl
theorem k21_5 : xM21.2.2.2.2.2[5]? = some ([], [.iconst 0, .ireturn]) := rfl
theorem k21_6 : xM21.2.2.2.2.2[6]? = some ([0, 1], [.aload 0, .getfield 97, .getfield 260, .iload 1, .aload 0, .getfield 96, .getfield 294, .iastore, .iinc 1 1, .goto 3]) := rfl
theorem k21_7 : xM21.2.2.2.2.2[7]? = some ([], [.iconst 1, .ireturn]) := rfl
theorem k22_0 : xM22.2.2.2.2.2[0]? = some ([0], [.aload 0, .getfield 96, .invokevirtual 84, .aload 0, .getfield 96, .ldc 2, .invokevirtual 89, .ifCond .eq 5, .goto_w 1]) := rfl
theorem k22_1 : xM22.2.2.2.2.2[1]? = some ([0], [.aload 0, .getfield 97, .getfield 262, .getfield 224, .iconst 12, .if_icmp .ge 3, .goto_w 2]) := rfl
theorem k22_2 : xM22.2.2.2.2.2[2]? = some ([0], [.aload 0, .invokevirtual 23, .goto 4]) := rfl
theorem k22_3 : xM22.2.2.2.2.2[3]? = some ([0], [.aload 0, .iconst 4, .invokevirtual 20, .goto_w 4]) := rfl
theorem k22_4 : xM22.2.2.2.2.2[4]? = some ([], [.ireturn]) := rfl
theorem k22_5 : xM22.2.2.2.2.2[5]? = some ([0], [.aload 0, .getfield 96, .ldc 3, .invokevirtual 89, .ifCond .eq 10, .goto_w 6]) := rfl
theorem k22_6 : xM22.2.2.2.2.2[6]? = some ([0], [.aload 0, .getfield 98, .getfield 192, .iconst 6, .if_icmp .ge 8, .goto_w 7]) := rfl
theorem k22_7 : xM22.2.2.2.2.2[7]? = some ([0], [.aload 0, .invokevirtual 24, .goto 9]) := rfl
theorem k22_8 : xM22.2.2.2.2.2[8]? = some ([0], [.aload 0, .iconst 4, .invokevirtual 20, .goto_w 9]) := rfl
theorem k22_9 : xM22.2.2.2.2.2[9]? = some ([], [.ireturn]) := rfl
theorem k22_10 : xM22.2.2.2.2.2[10]? = some ([0], [.aload 0, .getfield 96, .ldc 6, .invokevirtual 89, .ifCond .eq 15, .goto_w 11]) := rfl
theorem k22_11 : xM22.2.2.2.2.2[11]? = some ([0], [.aload 0, .getfield 97, .getfield 264, .getfield 128, .iconst 12, .if_icmp .ge 13, .goto_w 12]) := rfl
theorem k22_12 : xM22.2.2.2.2.2[12]? = some ([0], [.aload 0, .invokevirtual 25, .goto 14]) := rfl
theorem k22_13 : xM22.2.2.2.2.2[13]? = some ([0], [.aload 0, .iconst 4, .invokevirtual 20, .goto_w 14]) := rfl
theorem k22_14 : xM22.2.2.2.2.2[14]? = some ([], [.ireturn]) := rfl
theorem k22_15 : xM22.2.2.2.2.2[15]? = some ([0], [.aload 0, .iconst 1, .invokevirtual 20, .ireturn]) := rfl
theorem k23_0 : xM23.2.2.2.2.2[0]? = some ([0], [.aload 0, .getfield 96, .invokevirtual 84, .aload 0, .getfield 96, .invokevirtual 87, .iconst 1, .if_icmp .eq 2, .goto_w 1]) := rfl
theorem k23_1 : xM23.2.2.2.2.2[1]? = some ([0], [.aload 0, .iconst 1, .invokevirtual 20, .ireturn]) := rfl
theorem k23_2 : xM23.2.2.2.2.2[2]? = some ([0], [.aload 0, .getfield 96, .iconst 0, .invokevirtual 88, .iconst 96, .isub, .istore 1, .aload 0, .iconst 1, .iconst 200, .invokevirtual 26, .ifCond .ne 4, .goto_w 3]) := rfl
theorem k23_3 : xM23.2.2.2.2.2[3]? = some ([], [.iconst 0, .ireturn]) := rfl
theorem k23_4 : xM23.2.2.2.2.2[4]? = some ([0, 1], [.aload 0, .getfield 96, .getfield 294, .istore 2, .aload 0, .iconst 0, .iconst 20, .invokevirtual 26, .ifCond .ne 6, .goto_w 5]) := rfl
theorem k23_5 : xM23.2.2.2.2.2[5]? = some ([], [.iconst 0, .ireturn]) := rfl
theorem k23_6 : xM23.2.2.2.2.2[6]? = some ([0, 1, 2], [.aload 0, .getfield 97, .getfield 262, .iload 1, .iload 2, .aload 0, .getfield 96, .getfield 294, .aload 0, .getfield 97, .getfield 260, .iconst 0, .iaload, .invokevirtual 49, .iconst 1, .ireturn]) := rfl
theorem k24_0 : xM24.2.2.2.2.2[0]? = some ([0], [.aload 0, .getfield 96, .invokevirtual 84, .aload 0, .getfield 96, .ldc 4, .invokevirtual 89, .istore 1, .iload 1, .ifCond .ne 3, .goto_w 1]) := rfl
theorem k24_1 : xM24.2.2.2.2.2[1]? = some ([0, 1], [.aload 0, .getfield 96, .ldc 5, .invokevirtual 89, .ifCond .ne 3, .goto_w 2]) := rfl
theorem k24_2 : xM24.2.2.2.2.2[2]? = some ([0], [.aload 0, .iconst 1, .invokevirtual 20, .ireturn]) := rfl
theorem k24_3 : xM24.2.2.2.2.2[3]? = some ([0, 1], [.aload 0, .iconst 0, .iconst 9999, .invokevirtual 26, .ifCond .ne 5, .goto_w 4]) := rfl
theorem k24_4 : xM24.2.2.2.2.2[4]? = some ([], [.iconst 0, .ireturn]) := rfl
theorem k24_5 : xM24.2.2.2.2.2[5]? = some ([0, 1], [.aload 0, .getfield 96, .getfield 294, .istore 2, .aload 0, .getfield 96, .invokevirtual 84, .aload 0, .getfield 96, .getfield 293, .iconst 1, .if_icmp .eq 7, .goto_w 6]) := rfl
theorem k24_6 : xM24.2.2.2.2.2[6]? = some ([0], [.aload 0, .iconst 1, .invokevirtual 20, .ireturn]) := rfl
theorem k24_7 : xM24.2.2.2.2.2[7]? = some ([0, 1, 2], [.aload 0, .getfield 98, .iload 1, .ifCond .eq 9, .goto_w 8]) := rfl
theorem k24_8 : xM24.2.2.2.2.2[8]? = some ([0, 2], [.iconst 1, .goto 10]) := rfl
theorem k24_9 : xM24.2.2.2.2.2[9]? = some ([0, 2], [.iconst 0, .goto_w 10]) := rfl
theorem k24_10 : xM24.2.2.2.2.2[10]? = some ([0, 2], [.iload 2, .invokevirtual 43, .iconst 0, .istore 3, .goto_w 11]) := rfl
theorem k24_11 : xM24.2.2.2.2.2[11]? = some ([0, 3], [.iload 3, .aload 0, .getfield 96, .invokevirtual 87, .if_icmp .ge 13, .goto_w 12]) := rfl
theorem k24_12 : xM24.2.2.2.2.2[12]? = some ([0, 3], [.aload 0, .getfield 98, .aload 0, .getfield 96, .iload 3, .invokevirtual 88, .invokevirtual 44, .iinc 3 1, .goto 11]) := rfl
theorem k24_13 : xM24.2.2.2.2.2[13]? = some ([], [.iconst 1, .ireturn]) := rfl
theorem k25_0 : xM25.2.2.2.2.2[0]? = some ([0], [.aload 0, .iconst 1, .iconst 5000, .invokevirtual 26, .ifCond .ne 2, .goto_w 1]) := rfl
theorem k25_1 : xM25.2.2.2.2.2[1]? = some ([], [.iconst 0, .ireturn]) := rfl
theorem k25_2 : xM25.2.2.2.2.2[2]? = some ([0], [.aload 0, .getfield 96, .getfield 294, .istore 1, .aload 0, .iconst 0, .aload 0, .getfield 97, .getfield 262, .getfield 224, .iconst 2, .isub, .invokevirtual 26, .ifCond .ne 4, .goto_w 3]) := rfl
theorem k25_3 : xM25.2.2.2.2.2[3]? = some ([], [.iconst 0, .ireturn]) := rfl
theorem k25_4 : xM25.2.2.2.2.2[4]? = some ([0, 1], [.aload 0, .getfield 97, .getfield 264, .iload 1, .aload 0, .getfield 96, .getfield 294, .invokevirtual 29, .iconst 1, .ireturn]) := rfl
theorem k26_0 : xM26.2.2.2.2.2[0]? = some ([0, 1, 2], [.aload 0, .getfield 96, .invokevirtual 84, .aload 0, .getfield 96, .getfield 293, .iconst 2, .if_icmp .eq 2, .goto_w 1]) := rfl
theorem k26_1 : xM26.2.2.2.2.2[1]? = some ([0], [.aload 0, .iconst 1, .invokevirtual 20, .ireturn]) := rfl
theorem k26_2 : xM26.2.2.2.2.2[2]? = some ([0, 1, 2], [.aload 0, .getfield 96, .getfield 294, .iload 1, .if_icmp .lt 4, .goto_w 3]) := rfl
theorem k26_3 : xM26.2.2.2.2.2[3]? = some ([0, 2], [.aload 0, .getfield 96, .getfield 294, .iload 2, .if_icmp .le 5, .goto_w 4]) := rfl
theorem k26_4 : xM26.2.2.2.2.2[4]? = some ([0], [.aload 0, .iconst 2, .invokevirtual 20, .ireturn]) := rfl
theorem k26_5 : xM26.2.2.2.2.2[5]? = some ([], [.iconst 1, .ireturn]) := rfl
theorem k28_0 : xM28.2.2.2.2.2[0]? = some ([0, 1], [.aload 0, .aload 1, .getfield 128, .putfield 128, .aload 1, .getfield 129, .aload 0, .getfield 129, .invokestatic 172, .aload 1, .getfield 130, .aload 0, .getfield 130, .invokestatic 172, .aload 1, .getfield 131, .aload 0, .getfield 131, .invokestatic 172, .return_]) := rfl
theorem k29_0 : xM29.2.2.2.2.2[0]? = some ([0, 1, 2], [.aload 0, .getfield 128, .iconst 12, .if_icmp .lt 2, .goto_w 1]) := rfl
theorem k29_1 : xM29.2.2.2.2.2[1]? = some ([], [.return_]) := rfl
theorem k29_2 : xM29.2.2.2.2.2[2]? = some ([0, 1, 2], [.aload 0, .getfield 129, .aload 0, .getfield 128, .iload 1, .iastore, .aload 0, .getfield 130, .aload 0, .getfield 128, .iload 2, .iastore, .aload 0, .getfield 131, .aload 0, .getfield 128, .iconst 0, .iastore, .aload 0, .dup, .getfield 128, .iconst 1, .iadd, .putfield 128, .return_]) := rfl
theorem k30_0 : xM30.2.2.2.2.2[0]? = some ([0, 1], [.iconst 0, .istore 2, .iconst 0, .istore 3, .goto_w 1]) := rfl
theorem k30_1 : xM30.2.2.2.2.2[1]? = some ([0, 1, 2, 3], [.iload 3, .aload 0, .getfield 128, .if_icmp .ge 5, .goto_w 2]) := rfl
theorem k30_2 : xM30.2.2.2.2.2[2]? = some ([0, 1, 2, 3], [.aload 0, .getfield 131, .iload 3, .iaload, .iload 1, .if_icmp .ne 4, .goto_w 3]) := rfl
theorem k30_3 : xM30.2.2.2.2.2[3]? = some ([0, 1, 2, 3], [.iinc 2 1, .goto_w 4]) := rfl
theorem k30_4 : xM30.2.2.2.2.2[4]? = some ([0, 1, 2, 3], [.iinc 3 1, .goto 1]) := rfl
theorem k30_5 : xM30.2.2.2.2.2[5]? = some ([2], [.iload 2, .ireturn]) := rfl
theorem k31_0 : xM31.2.2.2.2.2[0]? = some ([0], [.iconst (-1), .istore 1, .iconst 0, .istore 2, .goto_w 1]) := rfl
theorem k31_1 : xM31.2.2.2.2.2[1]? = some ([0, 1, 2], [.iload 2, .aload 0, .getfield 128, .if_icmp .ge 7, .goto_w 2]) := rfl
theorem k31_2 : xM31.2.2.2.2.2[2]? = some ([0, 1, 2], [.aload 0, .getfield 131, .iload 2, .iaload, .ifCond .ne 6, .goto_w 3]) := rfl
theorem k31_3 : xM31.2.2.2.2.2[3]? = some ([0, 1, 2], [.iload 1, .iconst (-1), .if_icmp .eq 5, .goto_w 4]) := rfl
theorem k31_4 : xM31.2.2.2.2.2[4]? = some ([0, 1, 2], [.aload 0, .getfield 129, .iload 2, .iaload, .aload 0, .getfield 129, .iload 1, .iaload, .if_icmp .ge 6, .goto_w 5]) := rfl
theorem k31_5 : xM31.2.2.2.2.2[5]? = some ([0, 2], [.iload 2, .istore 1, .goto_w 6]) := rfl
theorem k31_6 : xM31.2.2.2.2.2[6]? = some ([0, 1, 2], [.iinc 2 1, .goto 1]) := rfl
theorem k31_7 : xM31.2.2.2.2.2[7]? = some ([1], [.iload 1, .ireturn]) := rfl
theorem k33_0 : xM33.2.2.2.2.2[0]? = some ([0, 1, 2, 3], [.aload 0, .iconst 0, .putfield 160, .aload 0, .iconst 0, .putfield 161, .aload 1, .getfield 262, .astore 4, .iconst 0, .istore 5, .goto_w 1]) := rfl
theorem k33_1 : xM33.2.2.2.2.2[1]? = some ([0, 1, 2, 3, 4, 5], [.iload 5, .aload 4, .getfield 224, .if_icmp .ge 8, .goto_w 2]) := rfl
theorem k33_2 : xM33.2.2.2.2.2[2]? = some ([0, 1, 2, 3, 4, 5], [.aload 2, .getfield 193, .iload 3, .iaload, .iconst 1, .if_icmp .ne 4, .goto_w 3]) := rfl
theorem k33_3 : xM33.2.2.2.2.2[3]? = some ([0, 1, 2, 3, 4, 5], [.aload 4, .getfield 224, .iconst 1, .isub, .iload 5, .isub, .goto 5]) := rfl
theorem k33_4 : xM33.2.2.2.2.2[4]? = some ([0, 1, 2, 3, 4, 5], [.iload 5, .goto_w 5]) := rfl
theorem k33_5 : xM33.2.2.2.2.2[5]? = some ([0, 1, 2, 3, 4, 5], [.istore 6, .aload 1, .iload 6, .aload 2, .getfield 194, .iload 3, .iaload, .invokevirtual 79, .ifCond .eq 7, .goto_w 6]) := rfl
theorem k33_6 : xM33.2.2.2.2.2[6]? = some ([0, 1, 2, 3, 4, 5, 6], [.aload 0, .aload 4, .iload 6, .aload 1, .getfield 260, .iconst 2, .iaload, .invokevirtual 34, .goto_w 7]) := rfl
theorem k33_7 : xM33.2.2.2.2.2[7]? = some ([0, 1, 2, 3, 4, 5], [.iinc 5 1, .goto 1]) := rfl
theorem k33_8 : xM33.2.2.2.2.2[8]? = some ([], [.return_]) := rfl
theorem k34_0 : xM34.2.2.2.2.2[0]? = some ([0, 1, 2, 3], [.aload 0, .getfield 161, .aload 0, .getfield 163, .arraylength, .if_icmp .ge 2, .goto_w 1]) := rfl
theorem k34_1 : xM34.2.2.2.2.2[1]? = some ([0, 1, 2, 3], [.aload 0, .getfield 160, .iconst 1, .iadd, .aload 0, .getfield 162, .arraylength, .if_icmp .lt 3, .goto_w 2]) := rfl
theorem k34_2 : xM34.2.2.2.2.2[2]? = some ([], [.return_]) := rfl
theorem k34_3 : xM34.2.2.2.2.2[3]? = some ([0, 1, 2, 3], [.aload 0, .getfield 161, .ifCond .le 6, .goto_w 4]) := rfl
theorem k34_4 : xM34.2.2.2.2.2[4]? = some ([0, 1, 2, 3], [.aload 1, .getfield 230, .iload 2, .iaload, .aload 1, .getfield 230, .aload 0, .getfield 163, .aload 0, .getfield 161, .iconst 1, .isub, .iaload, .iaload, .isub, .invokestatic 384, .iload 3, .if_icmp .le 6, .goto_w 5]) := rfl
theorem k34_5 : xM34.2.2.2.2.2[5]? = some ([0, 1, 2], [.aload 0, .getfield 162, .aload 0, .getfield 160, .iconst 32, .iastore, .aload 0, .dup, .getfield 160, .iconst 1, .iadd, .putfield 160, .goto_w 6]) := rfl
theorem k34_6 : xM34.2.2.2.2.2[6]? = some ([0, 1, 2], [.aload 0, .getfield 162, .aload 0, .getfield 160, .iconst 96, .aload 1, .getfield 229, .iload 2, .iaload, .iadd, .iastore, .aload 0, .dup, .getfield 160, .iconst 1, .iadd, .putfield 160, .aload 0, .getfield 163, .aload 0, .getfield 161, .iload 2, .iastore, .aload 0, .dup, .getfield 161, .iconst 1, .iadd, .putfield 161, .return_]) := rfl
theorem k35_0 : xM35.2.2.2.2.2[0]? = some ([0, 1], [.iload 1, .ifCond .lt 3, .goto_w 1]) := rfl
theorem k35_1 : xM35.2.2.2.2.2[1]? = some ([0, 1], [.iload 1, .aload 0, .getfield 160, .if_icmp .ge 3, .goto_w 2]) := rfl
theorem k35_2 : xM35.2.2.2.2.2[2]? = some ([0, 1], [.aload 0, .getfield 162, .iload 1, .iaload, .goto 4]) := rfl
theorem k35_3 : xM35.2.2.2.2.2[3]? = some ([], [.iconst (-1), .goto_w 4]) := rfl
theorem k35_4 : xM35.2.2.2.2.2[4]? = some ([], [.ireturn]) := rfl
theorem k36_0 : xM36.2.2.2.2.2[0]? = some ([0, 1], [.iload 1, .ifCond .lt 3, .goto_w 1]) := rfl
theorem k36_1 : xM36.2.2.2.2.2[1]? = some ([0, 1], [.iload 1, .aload 0, .getfield 161, .if_icmp .ge 3, .goto_w 2]) := rfl
theorem k36_2 : xM36.2.2.2.2.2[2]? = some ([0, 1], [.aload 0, .getfield 163, .iload 1, .iaload, .goto 4]) := rfl
theorem k36_3 : xM36.2.2.2.2.2[3]? = some ([], [.iconst (-1), .goto_w 4]) := rfl
theorem k36_4 : xM36.2.2.2.2.2[4]? = some ([], [.ireturn]) := rfl
theorem k37_0 : xM37.2.2.2.2.2[0]? = some ([0, 1, 2], [.iconst 0, .istore 3, .iconst 0, .istore 4, .goto_w 1]) := rfl
theorem k37_1 : xM37.2.2.2.2.2[1]? = some ([0, 1, 2, 3, 4], [.iload 4, .aload 0, .getfield 160, .if_icmp .ge 6, .goto_w 2]) := rfl
theorem k37_2 : xM37.2.2.2.2.2[2]? = some ([0, 1, 2, 3, 4], [.iload 4, .aload 1, .getfield 195, .iload 2, .iaload, .if_icmp .ge 6, .goto_w 3]) := rfl
theorem k37_3 : xM37.2.2.2.2.2[3]? = some ([0, 1, 2, 3, 4], [.aload 0, .getfield 162, .iload 4, .iaload, .aload 1, .iload 2, .iload 4, .invokevirtual 45, .if_icmp .ne 5, .goto_w 4]) := rfl
theorem k37_4 : xM37.2.2.2.2.2[4]? = some ([0, 1, 2, 3, 4], [.iinc 3 1, .goto_w 5]) := rfl
theorem k37_5 : xM37.2.2.2.2.2[5]? = some ([0, 1, 2, 3, 4], [.iinc 4 1, .goto 1]) := rfl
theorem k37_6 : xM37.2.2.2.2.2[6]? = some ([3], [.iload 3, .ireturn]) := rfl
theorem k38_0 : xM38.2.2.2.2.2[0]? = some ([0, 1, 2], [.aload 0, .getfield 160, .aload 1, .getfield 195, .iload 2, .iaload, .invokestatic 386, .istore 3, .iconst 0, .istore 4, .goto_w 1]) := rfl
theorem k38_1 : xM38.2.2.2.2.2[1]? = some ([0, 1, 2, 3, 4], [.iload 4, .iload 3, .if_icmp .ge 5, .goto_w 2]) := rfl
theorem k38_2 : xM38.2.2.2.2.2[2]? = some ([0, 1, 2, 3, 4], [.aload 0, .getfield 162, .iload 4, .iaload, .aload 1, .iload 2, .iload 4, .invokevirtual 45, .if_icmp .eq 4, .goto_w 3]) := rfl
theorem k38_3 : xM38.2.2.2.2.2[3]? = some ([4], [.iload 4, .ireturn]) := rfl
theorem k38_4 : xM38.2.2.2.2.2[4]? = some ([0, 1, 2, 3, 4], [.iinc 4 1, .goto 1]) := rfl
theorem k38_5 : xM38.2.2.2.2.2[5]? = some ([3], [.iload 3, .ireturn]) := rfl
theorem k39_0 : xM39.2.2.2.2.2[0]? = some ([0, 1, 2], [.aload 0, .getfield 160, .aload 1, .getfield 195, .iload 2, .iaload, .if_icmp .ne 3, .goto_w 1]) := rfl
theorem k39_1 : xM39.2.2.2.2.2[1]? = some ([0, 1, 2], [.aload 0, .aload 1, .iload 2, .invokevirtual 37, .aload 0, .getfield 160, .if_icmp .ne 3, .goto_w 2]) := rfl
theorem k39_2 : xM39.2.2.2.2.2[2]? = some ([], [.iconst 1, .goto 4]) := rfl
theorem k39_3 : xM39.2.2.2.2.2[3]? = some ([], [.iconst 0, .goto_w 4]) := rfl
theorem k39_4 : xM39.2.2.2.2.2[4]? = some ([], [.ireturn]) := rfl
theorem k40_0 : xM40.2.2.2.2.2[0]? = some ([0, 1, 2], [.aload 0, .getfield 160, .aload 1, .getfield 195, .iload 2, .iaload, .invokestatic 385, .istore 3, .iload 3, .ifCond .le 2, .goto_w 1]) := rfl
theorem k40_1 : xM40.2.2.2.2.2[1]? = some ([0, 1, 2, 3], [.aload 0, .aload 1, .iload 2, .invokevirtual 37, .i2f, .iload 3, .i2f, .fdiv, .goto 3]) := rfl
theorem k40_2 : xM40.2.2.2.2.2[2]? = some ([], [.fconst 0, .goto_w 3]) := rfl
theorem k40_3 : xM40.2.2.2.2.2[3]? = some ([], [.freturn]) := rfl
theorem k42_0 : xM42.2.2.2.2.2[0]? = some ([0, 1], [.aload 0, .aload 1, .getfield 192, .putfield 192, .aload 1, .getfield 193, .aload 0, .getfield 193, .invokestatic 172, .aload 1, .getfield 194, .aload 0, .getfield 194, .invokestatic 172, .aload 1, .getfield 195, .aload 0, .getfield 195, .invokestatic 172, .aload 1, .getfield 196, .aload 0, .getfield 196, .invokestatic 172, .return_]) := rfl
theorem k43_0 : xM43.2.2.2.2.2[0]? = some ([0, 1, 2], [.aload 0, .getfield 192, .iconst 6, .if_icmp .lt 2, .goto_w 1]) := rfl
theorem k43_1 : xM43.2.2.2.2.2[1]? = some ([], [.return_]) := rfl
theorem k43_2 : xM43.2.2.2.2.2[2]? = some ([0, 1, 2], [.aload 0, .getfield 193, .aload 0, .getfield 192, .iload 1, .iastore, .aload 0, .getfield 194, .aload 0, .getfield 192, .iload 2, .iastore, .aload 0, .getfield 195, .aload 0, .getfield 192, .iconst 0, .iastore, .aload 0, .dup, .getfield 192, .iconst 1, .iadd, .putfield 192, .return_]) := rfl
theorem k44_0 : xM44.2.2.2.2.2[0]? = some ([0, 1], [.aload 0, .getfield 192, .iconst 1, .isub, .istore 2, .iload 2, .ifCond .lt 2, .goto_w 1]) := rfl
theorem k44_1 : xM44.2.2.2.2.2[1]? = some ([0, 1, 2], [.aload 0, .getfield 195, .iload 2, .iaload, .iconst 8, .if_icmp .lt 3, .goto_w 2]) := rfl
theorem k44_2 : xM44.2.2.2.2.2[2]? = some ([], [.return_]) := rfl
theorem k44_3 : xM44.2.2.2.2.2[3]? = some ([0, 1, 2], [.aload 0, .getfield 196, .iload 2, .iconst 8, .imul, .aload 0, .getfield 195, .iload 2, .iaload, .iadd, .iload 1, .iastore, .aload 0, .getfield 195, .iload 2, .dup2, .iaload, .iconst 1, .iadd, .iastore, .return_]) := rfl
theorem k45_0 : xM45.2.2.2.2.2[0]? = some ([0, 1, 2], [.iload 2, .ifCond .lt 3, .goto_w 1]) := rfl
theorem k45_1 : xM45.2.2.2.2.2[1]? = some ([0, 1, 2], [.iload 2, .aload 0, .getfield 195, .iload 1, .iaload, .if_icmp .ge 3, .goto_w 2]) := rfl
theorem k45_2 : xM45.2.2.2.2.2[2]? = some ([0, 1, 2], [.aload 0, .getfield 196, .iload 1, .iconst 8, .imul, .iload 2, .iadd, .iaload, .goto 4]) := rfl
theorem k45_3 : xM45.2.2.2.2.2[3]? = some ([], [.iconst (-1), .goto_w 4]) := rfl
theorem k45_4 : xM45.2.2.2.2.2[4]? = some ([], [.ireturn]) := rfl
theorem k46_0 : xM46.2.2.2.2.2[0]? = some ([0, 1, 2], [.iconst 0, .istore 3, .iconst 0, .istore 4, .goto_w 1]) := rfl
theorem k46_1 : xM46.2.2.2.2.2[1]? = some ([0, 1, 2, 3, 4], [.iload 4, .aload 0, .getfield 195, .iload 1, .iaload, .if_icmp .ge 5, .goto_w 2]) := rfl
theorem k46_2 : xM46.2.2.2.2.2[2]? = some ([0, 1, 2, 3, 4], [.aload 0, .iload 1, .iload 4, .invokevirtual 45, .iconst 96, .iload 2, .iadd, .if_icmp .ne 4, .goto_w 3]) := rfl
theorem k46_3 : xM46.2.2.2.2.2[3]? = some ([0, 1, 2, 3, 4], [.iinc 3 1, .goto_w 4]) := rfl
theorem k46_4 : xM46.2.2.2.2.2[4]? = some ([0, 1, 2, 3, 4], [.iinc 4 1, .goto 1]) := rfl
theorem k46_5 : xM46.2.2.2.2.2[5]? = some ([3], [.iload 3, .ireturn]) := rfl
theorem k48_0 : xM48.2.2.2.2.2[0]? = some ([0, 1], [.aload 0, .aload 1, .getfield 224, .putfield 224, .aload 1, .getfield 225, .aload 0, .getfield 225, .invokestatic 172, .aload 1, .getfield 226, .aload 0, .getfield 226, .invokestatic 172, .aload 1, .getfield 227, .aload 0, .getfield 227, .invokestatic 172, .aload 1, .getfield 228, .aload 0, .getfield 228, .invokestatic 172, .aload 1, .getfield 229, .aload 0, .getfield 229, .invokestatic 172, .aload 1, .getfield 230, .aload 0, .getfield 230, .invokestatic 172, .aload 1, .getfield 232, .aload 0, .getfield 232, .invokestatic 172, .return_]) := rfl
theorem k49_0 : xM49.2.2.2.2.2[0]? = some ([0, 1, 2, 3, 4], [.aload 0, .getfield 224, .iconst 12, .if_icmp .lt 2, .goto_w 1]) := rfl
theorem k49_1 : xM49.2.2.2.2.2[1]? = some ([], [.return_]) := rfl
theorem k49_2 : xM49.2.2.2.2.2[2]? = some ([0, 1, 2, 3, 4], [.aload 0, .getfield 225, .aload 0, .getfield 224, .iload 1, .iastore, .aload 0, .getfield 226, .aload 0, .getfield 224, .iload 2, .iastore, .aload 0, .getfield 227, .aload 0, .getfield 224, .iload 3, .iastore, .aload 0, .getfield 228, .aload 0, .getfield 224, .iconst 100, .iastore, .aload 0, .getfield 229, .aload 0, .getfield 224, .iload 1, .iastore, .aload 0, .getfield 230, .aload 0, .getfield 224, .iload 4, .ineg, .aload 0, .getfield 224, .imul, .iastore, .aload 0, .getfield 231, .aload 0, .getfield 224, .aload 0, .getfield 230, .aload 0, .getfield 224, .iaload, .iastore, .aload 0, .getfield 232, .aload 0, .getfield 224, .iconst 0, .iastore, .aload 0, .dup, .getfield 224, .iconst 1, .iadd, .putfield 224, .return_]) := rfl
theorem k50_0 : xM50.2.2.2.2.2[0]? = some ([0, 1], [.aload 0, .getfield 226, .iload 1, .iaload, .i2f, .aload 0, .getfield 228, .iload 1, .iaload, .i2f, .fmul, .ldc_w 1120403456, .fdiv, .f2i, .ireturn]) := rfl
theorem k51_0 : xM51.2.2.2.2.2[0]? = some ([0, 1], [.iload 1, .ifCond .le 2, .goto_w 1]) := rfl
theorem k51_1 : xM51.2.2.2.2.2[1]? = some ([0, 1], [.aload 0, .getfield 230, .iload 1, .iconst 1, .isub, .iaload, .aload 0, .getfield 230, .iload 1, .iaload, .isub, .goto 3]) := rfl
theorem k51_2 : xM51.2.2.2.2.2[2]? = some ([], [.iconst (-1), .goto_w 3]) := rfl
theorem k51_3 : xM51.2.2.2.2.2[3]? = some ([], [.ireturn]) := rfl
theorem k52_0 : xM52.2.2.2.2.2[0]? = some ([0, 1, 2], [.aload 0, .getfield 228, .iload 1, .iconst 0, .iconst 100, .aload 0, .getfield 228, .iload 1, .iaload, .iload 2, .iadd, .invokestatic 386, .invokestatic 385, .iastore, .return_]) := rfl
theorem k53_0 : xM53.2.2.2.2.2[0]? = some ([0, 1], [.iload 1, .ifCond .lt 2, .goto_w 1]) := rfl
theorem k53_1 : xM53.2.2.2.2.2[1]? = some ([0, 1], [.iload 1, .iconst 1, .iadd, .aload 0, .getfield 224, .if_icmp .lt 3, .goto_w 2]) := rfl
theorem k53_2 : xM53.2.2.2.2.2[2]? = some ([], [.return_]) := rfl
theorem k53_3 : xM53.2.2.2.2.2[3]? = some ([0, 1], [.aload 0, .getfield 229, .iload 1, .iaload, .istore 2, .aload 0, .getfield 229, .iload 1, .aload 0, .getfield 229, .iload 1, .iconst 1, .iadd, .iaload, .iastore, .aload 0, .getfield 229, .iload 1, .iconst 1, .iadd, .iload 2, .iastore, .return_]) := rfl
theorem k54_0 : xM54.2.2.2.2.2[0]? = some ([0, 1, 2], [.iconst 0, .istore 3, .goto_w 1]) := rfl
theorem k54_1 : xM54.2.2.2.2.2[1]? = some ([0, 1, 2, 3], [.iload 3, .aload 0, .getfield 224, .if_icmp .ge 8, .goto_w 2]) := rfl
theorem k54_2 : xM54.2.2.2.2.2[2]? = some ([0, 1, 2, 3], [.aload 0, .getfield 230, .iload 3, .iaload, .aload 0, .iload 3, .invokevirtual 50, .iadd, .istore 4, .iload 3, .ifCond .le 4, .goto_w 3]) := rfl
theorem k54_3 : xM54.2.2.2.2.2[3]? = some ([0, 1, 2, 3, 4], [.iload 4, .aload 0, .getfield 230, .iload 3, .iconst 1, .isub, .iaload, .iload 1, .isub, .invokestatic 386, .istore 4, .goto_w 4]) := rfl
theorem k54_4 : xM54.2.2.2.2.2[4]? = some ([0, 1, 2, 3, 4], [.aload 0, .getfield 231, .iload 3, .aload 0, .getfield 230, .iload 3, .iaload, .iastore, .iload 4, .aload 0, .getfield 230, .iload 3, .iaload, .if_icmp .le 6, .goto_w 5]) := rfl
theorem k54_5 : xM54.2.2.2.2.2[5]? = some ([0, 1, 2, 3, 4], [.aload 0, .getfield 230, .iload 3, .iload 4, .iastore, .aload 0, .getfield 232, .iload 3, .dup2, .iaload, .iconst 1, .iadd, .iastore, .aload 0, .iload 3, .aload 0, .getfield 227, .iload 3, .iaload, .ineg, .invokevirtual 52, .goto 7]) := rfl
theorem k54_6 : xM54.2.2.2.2.2[6]? = some ([0, 1, 2, 3], [.aload 0, .iload 3, .iload 2, .invokevirtual 52, .goto_w 7]) := rfl
theorem k54_7 : xM54.2.2.2.2.2[7]? = some ([0, 1, 2, 3], [.iinc 3 1, .goto 1]) := rfl
theorem k54_8 : xM54.2.2.2.2.2[8]? = some ([], [.return_]) := rfl
theorem k55_0 : xM55.2.2.2.2.2[0]? = some ([0], [.iconst 0, .istore 1, .iconst 0, .istore 2, .goto_w 1]) := rfl
theorem k55_1 : xM55.2.2.2.2.2[1]? = some ([0, 1, 2], [.iload 2, .aload 0, .getfield 224, .if_icmp .ge 5, .goto_w 2]) := rfl
theorem k55_2 : xM55.2.2.2.2.2[2]? = some ([0, 1, 2], [.aload 0, .getfield 229, .iload 2, .iaload, .ifCond .eq 4, .goto_w 3]) := rfl
theorem k55_3 : xM55.2.2.2.2.2[3]? = some ([0, 1, 2], [.iinc 1 1, .goto_w 4]) := rfl
theorem k55_4 : xM55.2.2.2.2.2[4]? = some ([0, 1, 2], [.iinc 2 1, .goto 1]) := rfl
theorem k55_5 : xM55.2.2.2.2.2[5]? = some ([1], [.iload 1, .ireturn]) := rfl
theorem k56_0 : xM56.2.2.2.2.2[0]? = some ([0, 1], [.iconst 0, .istore 2, .iconst 0, .istore 3, .goto_w 1]) := rfl
theorem k56_1 : xM56.2.2.2.2.2[1]? = some ([0, 1, 2, 3], [.iload 3, .aload 0, .getfield 224, .if_icmp .ge 5, .goto_w 2]) := rfl
theorem k56_2 : xM56.2.2.2.2.2[2]? = some ([0, 1, 2, 3], [.aload 0, .getfield 229, .iload 3, .iaload, .iload 1, .if_icmp .ne 4, .goto_w 3]) := rfl
theorem k56_3 : xM56.2.2.2.2.2[3]? = some ([0, 1, 2, 3], [.iinc 2 1, .goto_w 4]) := rfl
theorem k56_4 : xM56.2.2.2.2.2[4]? = some ([0, 1, 2, 3], [.iinc 3 1, .goto 1]) := rfl
theorem k56_5 : xM56.2.2.2.2.2[5]? = some ([2], [.iload 2, .ireturn]) := rfl
theorem k57_0 : xM57.2.2.2.2.2[0]? = some ([0], [.iconst 0, .istore 1, .iconst 0, .istore 2, .goto_w 1]) := rfl
theorem k57_1 : xM57.2.2.2.2.2[1]? = some ([0, 1, 2], [.iload 2, .aload 0, .getfield 224, .if_icmp .ge 5, .goto_w 2]) := rfl
theorem k57_2 : xM57.2.2.2.2.2[2]? = some ([0, 1, 2], [.aload 0, .getfield 229, .iload 2, .iaload, .aload 0, .getfield 225, .iload 2, .iaload, .if_icmp .ne 4, .goto_w 3]) := rfl
theorem k57_3 : xM57.2.2.2.2.2[3]? = some ([0, 1, 2], [.iinc 1 1, .goto_w 4]) := rfl
theorem k57_4 : xM57.2.2.2.2.2[4]? = some ([0, 1, 2], [.iinc 2 1, .goto 1]) := rfl
theorem k57_5 : xM57.2.2.2.2.2[5]? = some ([1], [.iload 1, .ireturn]) := rfl
theorem k58_0 : xM58.2.2.2.2.2[0]? = some ([0, 1], [.iconst 0, .istore 2, .iconst 1, .istore 3, .goto_w 1]) := rfl
theorem k58_1 : xM58.2.2.2.2.2[1]? = some ([0, 1, 2, 3], [.iload 3, .aload 0, .getfield 224, .if_icmp .ge 5, .goto_w 2]) := rfl
theorem k58_2 : xM58.2.2.2.2.2[2]? = some ([0, 1, 2, 3], [.aload 0, .iload 3, .invokevirtual 51, .iload 1, .if_icmp .gt 4, .goto_w 3]) := rfl
theorem k58_3 : xM58.2.2.2.2.2[3]? = some ([0, 1, 2, 3], [.iinc 2 1, .goto_w 4]) := rfl
theorem k58_4 : xM58.2.2.2.2.2[4]? = some ([0, 1, 2, 3], [.iinc 3 1, .goto 1]) := rfl
theorem k58_5 : xM58.2.2.2.2.2[5]? = some ([2], [.iload 2, .ireturn]) := rfl
theorem k59_0 : xM59.2.2.2.2.2[0]? = some ([0], [.iconst 0, .istore 1, .iconst 0, .istore 2, .goto_w 1]) := rfl
theorem k59_1 : xM59.2.2.2.2.2[1]? = some ([0, 1, 2], [.iload 2, .aload 0, .getfield 224, .if_icmp .ge 3, .goto_w 2]) := rfl
theorem k59_2 : xM59.2.2.2.2.2[2]? = some ([0, 1, 2], [.iload 1, .aload 0, .iload 2, .invokevirtual 50, .iadd, .istore 1, .iinc 2 1, .goto 1]) := rfl
theorem k59_3 : xM59.2.2.2.2.2[3]? = some ([1], [.iload 1, .ireturn]) := rfl
theorem k60_0 : xM60.2.2.2.2.2[0]? = some ([0], [.iconst 0, .istore 1, .iconst 0, .istore 2, .goto_w 1]) := rfl
theorem k60_1 : xM60.2.2.2.2.2[1]? = some ([0, 1, 2], [.iload 2, .aload 0, .getfield 224, .if_icmp .ge 3, .goto_w 2]) := rfl
theorem k60_2 : xM60.2.2.2.2.2[2]? = some ([0, 1, 2], [.iload 1, .aload 0, .getfield 228, .iload 2, .iaload, .iadd, .istore 1, .iinc 2 1, .goto 1]) := rfl
theorem k60_3 : xM60.2.2.2.2.2[3]? = some ([1], [.iload 1, .ireturn]) := rfl
theorem k61_0 : xM61.2.2.2.2.2[0]? = some ([0], [.aload 0, .getfield 224, .ifCond .le 2, .goto_w 1]) := rfl
theorem k61_1 : xM61.2.2.2.2.2[1]? = some ([0], [.aload 0, .invokevirtual 60, .i2d, .aload 0, .getfield 224, .i2d, .ddiv, .goto 3]) := rfl
theorem k61_2 : xM61.2.2.2.2.2[2]? = some ([], [.dconst 0, .goto_w 3]) := rfl
theorem k61_3 : xM61.2.2.2.2.2[3]? = some ([], [.dreturn]) := rfl
theorem k62_0 : xM62.2.2.2.2.2[0]? = some ([0, 1], [.iconst 0, .istore 2, .iconst 0, .istore 3, .goto_w 1]) := rfl
theorem k62_1 : xM62.2.2.2.2.2[1]? = some ([0, 1, 2, 3], [.iload 3, .aload 0, .getfield 224, .if_icmp .ge 5, .goto_w 2]) := rfl
theorem k62_2 : xM62.2.2.2.2.2[2]? = some ([0, 1, 2, 3], [.aload 0, .getfield 228, .iload 3, .iaload, .iload 1, .if_icmp .gt 4, .goto_w 3]) := rfl
theorem k62_3 : xM62.2.2.2.2.2[3]? = some ([0, 1, 2, 3], [.iload 2, .iconst 1, .iload 3, .ishl, .ior, .istore 2, .goto_w 4]) := rfl
theorem k62_4 : xM62.2.2.2.2.2[4]? = some ([0, 1, 2, 3], [.iinc 3 1, .goto 1]) := rfl
theorem k62_5 : xM62.2.2.2.2.2[5]? = some ([2], [.iload 2, .ireturn]) := rfl
theorem k63_0 : xM63.2.2.2.2.2[0]? = some ([0, 1], [.iconst 0, .istore 2, .iconst 0, .istore 3, .goto_w 1]) := rfl
theorem k63_1 : xM63.2.2.2.2.2[1]? = some ([0, 1, 2, 3], [.iload 3, .aload 0, .getfield 224, .if_icmp .ge 5, .goto_w 2]) := rfl
theorem k63_2 : xM63.2.2.2.2.2[2]? = some ([0, 1, 2, 3], [.aload 0, .getfield 228, .iload 3, .iaload, .iload 1, .if_icmp .ge 4, .goto_w 3]) := rfl
theorem k63_3 : xM63.2.2.2.2.2[3]? = some ([0, 1, 2, 3], [.iinc 2 1, .goto_w 4]) := rfl
theorem k63_4 : xM63.2.2.2.2.2[4]? = some ([0, 1, 2, 3], [.iinc 3 1, .goto 1]) := rfl
theorem k63_5 : xM63.2.2.2.2.2[5]? = some ([2], [.iload 2, .ireturn]) := rfl
theorem k64_0 : xM64.2.2.2.2.2[0]? = some ([0, 1], [.iconst 0, .istore 2, .iconst 0, .istore 3, .goto_w 1]) := rfl
theorem k64_1 : xM64.2.2.2.2.2[1]? = some ([0, 1, 2, 3], [.iload 3, .aload 0, .getfield 224, .if_icmp .ge 5, .goto_w 2]) := rfl
theorem k64_2 : xM64.2.2.2.2.2[2]? = some ([0, 1, 2, 3], [.aload 0, .getfield 230, .iload 3, .iaload, .iload 1, .if_icmp .le 4, .goto_w 3]) := rfl
theorem k64_3 : xM64.2.2.2.2.2[3]? = some ([0, 1, 2, 3], [.iinc 2 1, .goto_w 4]) := rfl
theorem k64_4 : xM64.2.2.2.2.2[4]? = some ([0, 1, 2, 3], [.iinc 3 1, .goto 1]) := rfl
theorem k64_5 : xM64.2.2.2.2.2[5]? = some ([2], [.iload 2, .ireturn]) := rfl
theorem k65_0 : xM65.2.2.2.2.2[0]? = some ([0, 1], [.iconst 0, .istore 2, .iconst 0, .istore 3, .goto_w 1]) := rfl
theorem k65_1 : xM65.2.2.2.2.2[1]? = some ([0, 1, 2, 3], [.iload 3, .aload 0, .getfield 224, .if_icmp .ge 5, .goto_w 2]) := rfl
theorem k65_2 : xM65.2.2.2.2.2[2]? = some ([0, 1, 2, 3], [.aload 0, .getfield 230, .iload 3, .iaload, .iload 1, .if_icmp .ge 4, .goto_w 3]) := rfl
theorem k65_3 : xM65.2.2.2.2.2[3]? = some ([0, 1, 2, 3], [.iinc 2 1, .goto_w 4]) := rfl
theorem k65_4 : xM65.2.2.2.2.2[4]? = some ([0, 1, 2, 3], [.iinc 3 1, .goto 1]) := rfl
theorem k65_5 : xM65.2.2.2.2.2[5]? = some ([2], [.iload 2, .ireturn]) := rfl
theorem k66_0 : xM66.2.2.2.2.2[0]? = some ([0, 1], [.iconst (-1), .istore 2, .iconst 0, .istore 3, .goto_w 1]) := rfl
theorem k66_1 : xM66.2.2.2.2.2[1]? = some ([0, 1, 2, 3], [.iload 3, .aload 0, .getfield 224, .if_icmp .ge 6, .goto_w 2]) := rfl
theorem k66_2 : xM66.2.2.2.2.2[2]? = some ([0, 1, 2, 3], [.aload 0, .getfield 230, .iload 3, .iaload, .iload 1, .isub, .invokestatic 384, .istore 4, .iload 2, .iconst (-1), .if_icmp .eq 4, .goto_w 3]) := rfl
theorem k66_3 : xM66.2.2.2.2.2[3]? = some ([0, 1, 2, 3, 4], [.iload 4, .iload 2, .if_icmp .ge 5, .goto_w 4]) := rfl
theorem k66_4 : xM66.2.2.2.2.2[4]? = some ([0, 1, 3, 4], [.iload 4, .istore 2, .goto_w 5]) := rfl
theorem k66_5 : xM66.2.2.2.2.2[5]? = some ([0, 1, 2, 3], [.iinc 3 1, .goto 1]) := rfl
theorem k66_6 : xM66.2.2.2.2.2[6]? = some ([2], [.iload 2, .ireturn]) := rfl
theorem k68_0 : xM68.2.2.2.2.2[0]? = some ([0, 1], [.aload 0, .aload 1, .getfield 256, .putfield 256, .aload 0, .aload 1, .getfield 257, .putfield 257, .aload 0, .aload 1, .getfield 258, .putfield 258, .aload 0, .aload 1, .getfield 259, .putfield 259, .aload 1, .getfield 260, .aload 0, .getfield 260, .invokestatic 172, .aload 1, .getfield 261, .aload 0, .getfield 261, .invokestatic 172, .aload 0, .getfield 262, .aload 1, .getfield 262, .invokevirtual 48, .aload 0, .getfield 263, .aload 1, .getfield 263, .invokevirtual 4, .aload 0, .getfield 264, .aload 1, .getfield 264, .invokevirtual 28, .return_]) := rfl
theorem k69_0 : xM69.2.2.2.2.2[0]? = some ([0], [.aload 0, .iconst 0, .putfield 256, .aload 0, .iconst 0, .putfield 257, .aload 0, .iconst 0, .putfield 258, .aload 0, .iconst 0, .putfield 259, .aload 0, .getfield 262, .iconst 0, .putfield 224, .aload 0, .getfield 263, .iconst 0, .putfield 32, .aload 0, .getfield 264, .iconst 0, .putfield 128, .iconst 0, .istore 1, .goto_w 1]) := rfl
theorem k69_1 : xM69.2.2.2.2.2[1]? = some ([0, 1], [.iload 1, .aload 0, .getfield 261, .arraylength, .if_icmp .ge 3, .goto_w 2]) := rfl
theorem k69_2 : xM69.2.2.2.2.2[2]? = some ([0, 1], [.aload 0, .getfield 261, .iload 1, .iconst (-1), .iastore, .iinc 1 1, .goto 1]) := rfl
theorem k69_3 : xM69.2.2.2.2.2[3]? = some ([], [.return_]) := rfl
theorem k70_0 : xM70.2.2.2.2.2[0]? = some ([0], [.aload 0, .dup, .getfield 256, .iconst 1, .iadd, .putfield 256, .aload 0, .invokevirtual 71, .aload 0, .getfield 262, .aload 0, .getfield 260, .iconst 0, .iaload, .aload 0, .getfield 260, .iconst 3, .iaload, .invokevirtual 54, .aload 0, .invokevirtual 72, .aload 0, .invokevirtual 73, .return_]) := rfl
theorem k71_0 : xM71.2.2.2.2.2[0]? = some ([0], [.iconst 0, .istore 1, .goto_w 1]) := rfl
theorem k71_1 : xM71.2.2.2.2.2[1]? = some ([0, 1], [.iload 1, .aload 0, .getfield 264, .getfield 128, .if_icmp .ge 9, .goto_w 2]) := rfl
theorem k71_2 : xM71.2.2.2.2.2[2]? = some ([0, 1], [.aload 0, .getfield 264, .getfield 129, .iload 1, .iaload, .aload 0, .getfield 256, .if_icmp .ne 8, .goto_w 3]) := rfl
theorem k71_3 : xM71.2.2.2.2.2[3]? = some ([0, 1], [.aload 0, .aload 0, .getfield 264, .getfield 130, .iload 1, .iaload, .invokevirtual 74, .istore 2, .aload 0, .getfield 264, .getfield 131, .iload 1, .iload 2, .ifCond .eq 5, .goto_w 4]) := rfl
theorem k71_4 : xM71.2.2.2.2.2[4]? = some ([0, 1, 2], [.iconst 1, .goto 6]) := rfl
theorem k71_5 : xM71.2.2.2.2.2[5]? = some ([0, 1, 2], [.iconst 2, .goto_w 6]) := rfl
theorem k71_6 : xM71.2.2.2.2.2[6]? = some ([0, 1, 2], [.iastore, .iload 2, .ifCond .eq 8, .goto_w 7]) := rfl
theorem k71_7 : xM71.2.2.2.2.2[7]? = some ([0, 1], [.aload 0, .aload 0, .getfield 264, .getfield 130, .iload 1, .iaload, .invokevirtual 75, .goto_w 8]) := rfl
theorem k71_8 : xM71.2.2.2.2.2[8]? = some ([0, 1], [.iinc 1 1, .goto 1]) := rfl
theorem k71_9 : xM71.2.2.2.2.2[9]? = some ([], [.return_]) := rfl
theorem k72_0 : xM72.2.2.2.2.2[0]? = some ([0], [.iconst 0, .istore 1, .goto_w 1]) := rfl
theorem k72_1 : xM72.2.2.2.2.2[1]? = some ([0, 1], [.iload 1, .aload 0, .getfield 262, .getfield 224, .if_icmp .ge 6, .goto_w 2]) := rfl
theorem k72_2 : xM72.2.2.2.2.2[2]? = some ([0, 1], [.aload 0, .getfield 262, .getfield 229, .iload 1, .iaload, .ifCond .eq 5, .goto_w 3]) := rfl
theorem k72_3 : xM72.2.2.2.2.2[3]? = some ([0, 1], [.aload 0, .getfield 262, .getfield 228, .iload 1, .iaload, .ifCond .ne 5, .goto_w 4]) := rfl
theorem k72_4 : xM72.2.2.2.2.2[4]? = some ([0, 1], [.aload 0, .iload 1, .invokevirtual 76, .goto_w 5]) := rfl
theorem k72_5 : xM72.2.2.2.2.2[5]? = some ([0, 1], [.iinc 1 1, .goto 1]) := rfl
theorem k72_6 : xM72.2.2.2.2.2[6]? = some ([], [.return_]) := rfl
theorem k73_0 : xM73.2.2.2.2.2[0]? = some ([0], [.iconst 0, .istore 1, .goto_w 1]) := rfl
theorem k73_1 : xM73.2.2.2.2.2[1]? = some ([0, 1], [.iload 1, .aload 0, .getfield 262, .getfield 224, .if_icmp .ge 6, .goto_w 2]) := rfl
theorem k73_2 : xM73.2.2.2.2.2[2]? = some ([0, 1], [.aload 0, .getfield 263, .getfield 32, .ifCond .le 5, .goto_w 3]) := rfl
theorem k73_3 : xM73.2.2.2.2.2[3]? = some ([0, 1], [.aload 0, .iload 1, .invokevirtual 77, .ifCond .eq 5, .goto_w 4]) := rfl
theorem k73_4 : xM73.2.2.2.2.2[4]? = some ([0, 1], [.aload 0, .iload 1, .aload 0, .getfield 263, .aload 0, .getfield 262, .getfield 231, .iload 1, .iaload, .aload 0, .getfield 262, .getfield 230, .iload 1, .iaload, .invokevirtual 8, .invokevirtual 78, .goto_w 5]) := rfl
theorem k73_5 : xM73.2.2.2.2.2[5]? = some ([0, 1], [.iinc 1 1, .goto 1]) := rfl
theorem k73_6 : xM73.2.2.2.2.2[6]? = some ([], [.return_]) := rfl
theorem k74_0 : xM74.2.2.2.2.2[0]? = some ([0, 1], [.iload 1, .ifCond .lt 6, .goto_w 1]) := rfl
theorem k74_1 : xM74.2.2.2.2.2[1]? = some ([0, 1], [.iload 1, .iconst 1, .iadd, .aload 0, .getfield 262, .getfield 224, .if_icmp .ge 6, .goto_w 2]) := rfl
theorem k74_2 : xM74.2.2.2.2.2[2]? = some ([0, 1], [.aload 0, .getfield 262, .iload 1, .iconst 1, .iadd, .invokevirtual 51, .aload 0, .getfield 260, .iconst 5, .iaload, .if_icmp .gt 6, .goto_w 3]) := rfl
theorem k74_3 : xM74.2.2.2.2.2[3]? = some ([0, 1], [.aload 0, .getfield 262, .getfield 228, .iload 1, .iaload, .iconst 1, .if_icmp .lt 6, .goto_w 4]) := rfl
theorem k74_4 : xM74.2.2.2.2.2[4]? = some ([0, 1], [.aload 0, .getfield 262, .getfield 228, .iload 1, .iconst 1, .iadd, .iaload, .iconst 1, .if_icmp .lt 6, .goto_w 5]) := rfl
theorem k74_5 : xM74.2.2.2.2.2[5]? = some ([], [.iconst 1, .goto 7]) := rfl
theorem k74_6 : xM74.2.2.2.2.2[6]? = some ([], [.iconst 0, .goto_w 7]) := rfl
theorem k74_7 : xM74.2.2.2.2.2[7]? = some ([], [.ireturn]) := rfl
theorem k75_0 : xM75.2.2.2.2.2[0]? = some ([0, 1], [.aload 0, .getfield 262, .iload 1, .invokevirtual 53, .aload 0, .getfield 262, .iload 1, .iconst (-2), .invokevirtual 52, .aload 0, .getfield 262, .iload 1, .iconst 1, .iadd, .iconst (-2), .invokevirtual 52, .aload 0, .dup, .getfield 257, .iconst 1, .iadd, .putfield 257, .return_]) := rfl
theorem k76_0 : xM76.2.2.2.2.2[0]? = some ([0, 1], [.aload 0, .getfield 263, .aload 0, .getfield 262, .getfield 229, .iload 1, .iaload, .aload 0, .getfield 262, .getfield 230, .iload 1, .iaload, .aload 0, .getfield 256, .invokevirtual 5, .aload 0, .getfield 262, .getfield 229, .iload 1, .iconst 0, .iastore, .aload 0, .dup, .getfield 258, .iconst 1, .iadd, .putfield 258, .return_]) := rfl
theorem k77_0 : xM77.2.2.2.2.2[0]? = some ([0, 1], [.aload 0, .getfield 262, .getfield 229, .iload 1, .iaload, .ifCond .ne 3, .goto_w 1]) := rfl
theorem k77_1 : xM77.2.2.2.2.2[1]? = some ([0, 1], [.aload 0, .getfield 262, .getfield 228, .iload 1, .iaload, .aload 0, .getfield 260, .iconst 4, .iaload, .if_icmp .lt 3, .goto_w 2]) := rfl
theorem k77_2 : xM77.2.2.2.2.2[2]? = some ([], [.iconst 1, .goto 4]) := rfl
theorem k77_3 : xM77.2.2.2.2.2[3]? = some ([], [.iconst 0, .goto_w 4]) := rfl
theorem k77_4 : xM77.2.2.2.2.2[4]? = some ([], [.ireturn]) := rfl
theorem k78_0 : xM78.2.2.2.2.2[0]? = some ([0, 1, 2], [.iload 2, .ifCond .lt 2, .goto_w 1]) := rfl
theorem k78_1 : xM78.2.2.2.2.2[1]? = some ([0, 1, 2], [.iload 2, .aload 0, .getfield 263, .getfield 32, .if_icmp .lt 3, .goto_w 2]) := rfl
theorem k78_2 : xM78.2.2.2.2.2[2]? = some ([], [.return_]) := rfl
theorem k78_3 : xM78.2.2.2.2.2[3]? = some ([0, 1, 2], [.aload 0, .getfield 262, .getfield 229, .iload 1, .aload 0, .getfield 263, .getfield 33, .iload 2, .iaload, .iastore, .aload 0, .getfield 263, .iload 2, .invokevirtual 6, .aload 0, .dup, .getfield 259, .iconst 1, .iadd, .putfield 259, .return_]) := rfl
theorem k79_0 : xM79.2.2.2.2.2[0]? = some ([0, 1, 2], [.aload 0, .getfield 262, .getfield 229, .iload 1, .iaload, .ifCond .eq 3, .goto_w 1]) := rfl
theorem k79_1 : xM79.2.2.2.2.2[1]? = some ([0, 1, 2], [.aload 0, .getfield 262, .getfield 230, .iload 1, .iaload, .iload 2, .isub, .invokestatic 384, .aload 0, .getfield 260, .iconst 1, .iaload, .if_icmp .gt 3, .goto_w 2]) := rfl
theorem k79_2 : xM79.2.2.2.2.2[2]? = some ([], [.iconst 1, .goto 4]) := rfl
theorem k79_3 : xM79.2.2.2.2.2[3]? = some ([], [.iconst 0, .goto_w 4]) := rfl
theorem k79_4 : xM79.2.2.2.2.2[4]? = some ([], [.ireturn]) := rfl
theorem k81_0 : xM81.2.2.2.2.2[0]? = some ([0, 1, 2, 3, 4, 5], [.aload 0, .getfield 289, .iconst 20, .iadd, .iconst 700, .if_icmp .le 2, .goto_w 1]) := rfl
theorem k81_1 : xM81.2.2.2.2.2[1]? = some ([], [.iconst (-1), .ireturn]) := rfl
theorem k81_2 : xM81.2.2.2.2.2[2]? = some ([0, 1, 2, 3, 4, 5], [.aload 0, .iload 1, .invokevirtual 82, .aload 0, .iload 2, .invokevirtual 82, .aload 0, .iload 3, .invokevirtual 82, .aload 0, .iload 4, .invokevirtual 82, .aload 0, .iload 5, .invokevirtual 82, .aload 0, .getfield 289, .ireturn]) := rfl
theorem k82_0 : xM82.2.2.2.2.2[0]? = some ([0, 1], [.iconst 24, .istore 2, .goto_w 1]) := rfl
theorem k82_1 : xM82.2.2.2.2.2[1]? = some ([0, 1, 2], [.iload 2, .ifCond .lt 4, .goto_w 2]) := rfl
theorem k82_2 : xM82.2.2.2.2.2[2]? = some ([0, 1, 2], [.aload 0, .getfield 289, .aload 0, .getfield 288, .arraylength, .if_icmp .ge 4, .goto_w 3]) := rfl
theorem k82_3 : xM82.2.2.2.2.2[3]? = some ([0, 1, 2], [.aload 0, .getfield 288, .aload 0, .getfield 289, .iload 1, .iload 2, .iushr, .iconst 255, .iand, .iastore, .aload 0, .dup, .getfield 289, .iconst 1, .iadd, .putfield 289, .iinc 2 (-8), .goto 1]) := rfl
theorem k82_4 : xM82.2.2.2.2.2[4]? = some ([], [.return_]) := rfl
theorem k83_0 : xM83.2.2.2.2.2[0]? = some ([0, 1], [.aload 0, .iconst 0, .iload 1, .aload 0, .getfield 288, .arraylength, .invokestatic 386, .invokestatic 385, .putfield 290, .aload 0, .iconst 0, .putfield 292, .return_]) := rfl
theorem k84_0 : xM84.2.2.2.2.2[0]? = some ([0], [.aload 0, .getfield 292, .aload 0, .getfield 290, .if_icmp .ge 3, .goto_w 1]) := rfl
theorem k84_1 : xM84.2.2.2.2.2[1]? = some ([0], [.aload 0, .getfield 288, .aload 0, .getfield 292, .iaload, .iconst 32, .if_icmp .ne 3, .goto_w 2]) := rfl
theorem k84_2 : xM84.2.2.2.2.2[2]? = some ([0], [.aload 0, .dup, .getfield 292, .iconst 1, .iadd, .putfield 292, .goto 0]) := rfl
theorem k84_3 : xM84.2.2.2.2.2[3]? = some ([0], [.aload 0, .aload 0, .getfield 292, .putfield 291, .aload 0, .getfield 291, .aload 0, .getfield 290, .if_icmp .lt 5, .goto_w 4]) := rfl
theorem k84_4 : xM84.2.2.2.2.2[4]? = some ([0], [.aload 0, .iconst 0, .putfield 293, .goto 15]) := rfl
theorem k84_5 : xM84.2.2.2.2.2[5]? = some ([0], [.aload 0, .getfield 288, .aload 0, .getfield 291, .iaload, .iconst 97, .if_icmp .lt 8, .goto_w 6]) := rfl
theorem k84_6 : xM84.2.2.2.2.2[6]? = some ([0], [.aload 0, .getfield 288, .aload 0, .getfield 291, .iaload, .iconst 122, .if_icmp .gt 8, .goto_w 7]) := rfl
theorem k84_7 : xM84.2.2.2.2.2[7]? = some ([0], [.aload 0, .invokevirtual 85, .goto 15]) := rfl
theorem k84_8 : xM84.2.2.2.2.2[8]? = some ([0], [.aload 0, .getfield 288, .aload 0, .getfield 291, .iaload, .iconst 48, .if_icmp .lt 11, .goto_w 9]) := rfl
theorem k84_9 : xM84.2.2.2.2.2[9]? = some ([0], [.aload 0, .getfield 288, .aload 0, .getfield 291, .iaload, .iconst 57, .if_icmp .gt 11, .goto_w 10]) := rfl
theorem k84_10 : xM84.2.2.2.2.2[10]? = some ([0], [.aload 0, .invokevirtual 86, .goto 15]) := rfl
theorem k84_11 : xM84.2.2.2.2.2[11]? = some ([0], [.aload 0, .aload 0, .getfield 288, .aload 0, .getfield 291, .iaload, .iconst 59, .if_icmp .ne 13, .goto_w 12]) := rfl
theorem k84_12 : xM84.2.2.2.2.2[12]? = some ([0], [.iconst 3, .goto 14]) := rfl
theorem k84_13 : xM84.2.2.2.2.2[13]? = some ([0], [.iconst 4, .goto_w 14]) := rfl
theorem k84_14 : xM84.2.2.2.2.2[14]? = some ([0], [.putfield 293, .aload 0, .dup, .getfield 292, .iconst 1, .iadd, .putfield 292, .goto_w 15]) := rfl
theorem k84_15 : xM84.2.2.2.2.2[15]? = some ([], [.return_]) := rfl
theorem k85_0 : xM85.2.2.2.2.2[0]? = some ([0], [.aload 0, .getfield 292, .aload 0, .getfield 290, .if_icmp .ge 4, .goto_w 1]) := rfl
theorem k85_1 : xM85.2.2.2.2.2[1]? = some ([0], [.aload 0, .getfield 288, .aload 0, .getfield 292, .iaload, .iconst 97, .if_icmp .lt 4, .goto_w 2]) := rfl
theorem k85_2 : xM85.2.2.2.2.2[2]? = some ([0], [.aload 0, .getfield 288, .aload 0, .getfield 292, .iaload, .iconst 122, .if_icmp .gt 4, .goto_w 3]) := rfl
theorem k85_3 : xM85.2.2.2.2.2[3]? = some ([0], [.aload 0, .dup, .getfield 292, .iconst 1, .iadd, .putfield 292, .goto 0]) := rfl
theorem k85_4 : xM85.2.2.2.2.2[4]? = some ([0], [.aload 0, .aload 0, .getfield 292, .aload 0, .getfield 291, .isub, .iconst 8, .if_icmp .gt 6, .goto_w 5]) := rfl
theorem k85_5 : xM85.2.2.2.2.2[5]? = some ([], [.iconst 1, .goto 7]) := rfl
theorem k85_6 : xM85.2.2.2.2.2[6]? = some ([], [.iconst 4, .goto_w 7]) := rfl
theorem k85_7 : xM85.2.2.2.2.2[7]? = some ([], [.putfield 293, .return_]) := rfl
theorem k86_0 : xM86.2.2.2.2.2[0]? = some ([0], [.aload 0, .iconst 0, .putfield 294, .goto_w 1]) := rfl
theorem k86_1 : xM86.2.2.2.2.2[1]? = some ([0], [.aload 0, .getfield 292, .aload 0, .getfield 290, .if_icmp .ge 5, .goto_w 2]) := rfl
theorem k86_2 : xM86.2.2.2.2.2[2]? = some ([0], [.aload 0, .getfield 288, .aload 0, .getfield 292, .iaload, .iconst 48, .if_icmp .lt 5, .goto_w 3]) := rfl
theorem k86_3 : xM86.2.2.2.2.2[3]? = some ([0], [.aload 0, .getfield 288, .aload 0, .getfield 292, .iaload, .iconst 57, .if_icmp .gt 5, .goto_w 4]) := rfl
theorem k86_4 : xM86.2.2.2.2.2[4]? = some ([0], [.aload 0, .aload 0, .getfield 294, .iconst 10, .imul, .aload 0, .getfield 288, .aload 0, .getfield 292, .iaload, .iadd, .iconst 48, .isub, .putfield 294, .aload 0, .dup, .getfield 292, .iconst 1, .iadd, .putfield 292, .goto 1]) := rfl
theorem k86_5 : xM86.2.2.2.2.2[5]? = some ([0], [.aload 0, .aload 0, .getfield 292, .aload 0, .getfield 291, .isub, .iconst 4, .if_icmp .gt 7, .goto_w 6]) := rfl
theorem k86_6 : xM86.2.2.2.2.2[6]? = some ([], [.iconst 2, .goto 8]) := rfl
theorem k86_7 : xM86.2.2.2.2.2[7]? = some ([], [.iconst 4, .goto_w 8]) := rfl
theorem k86_8 : xM86.2.2.2.2.2[8]? = some ([], [.putfield 293, .return_]) := rfl
theorem k87_0 : xM87.2.2.2.2.2[0]? = some ([0], [.aload 0, .getfield 293, .iconst 1, .if_icmp .ne 2, .goto_w 1]) := rfl
theorem k87_1 : xM87.2.2.2.2.2[1]? = some ([0], [.aload 0, .getfield 292, .aload 0, .getfield 291, .isub, .goto 3]) := rfl
theorem k87_2 : xM87.2.2.2.2.2[2]? = some ([], [.iconst 0, .goto_w 3]) := rfl
theorem k87_3 : xM87.2.2.2.2.2[3]? = some ([], [.ireturn]) := rfl
theorem k88_0 : xM88.2.2.2.2.2[0]? = some ([0, 1], [.aload 0, .getfield 291, .iload 1, .iadd, .istore 2, .iload 1, .ifCond .lt 5, .goto_w 1]) := rfl
theorem k88_1 : xM88.2.2.2.2.2[1]? = some ([0, 2], [.iload 2, .ifCond .lt 5, .goto_w 2]) := rfl
theorem k88_2 : xM88.2.2.2.2.2[2]? = some ([0, 2], [.iload 2, .aload 0, .getfield 292, .if_icmp .ge 5, .goto_w 3]) := rfl
theorem k88_3 : xM88.2.2.2.2.2[3]? = some ([0, 2], [.iload 2, .aload 0, .getfield 288, .arraylength, .if_icmp .ge 5, .goto_w 4]) := rfl
theorem k88_4 : xM88.2.2.2.2.2[4]? = some ([0, 2], [.aload 0, .getfield 288, .iload 2, .iaload, .goto 6]) := rfl
theorem k88_5 : xM88.2.2.2.2.2[5]? = some ([], [.iconst (-1), .goto_w 6]) := rfl
theorem k88_6 : xM88.2.2.2.2.2[6]? = some ([], [.ireturn]) := rfl
theorem k89_0 : xM89.2.2.2.2.2[0]? = some ([0, 1], [.aload 0, .invokevirtual 87, .aload 1, .invokevirtual 391, .if_icmp .eq 2, .goto_w 1]) := rfl
theorem k89_1 : xM89.2.2.2.2.2[1]? = some ([], [.iconst 0, .ireturn]) := rfl
theorem k89_2 : xM89.2.2.2.2.2[2]? = some ([0, 1], [.iconst 0, .istore 2, .goto_w 3]) := rfl
theorem k89_3 : xM89.2.2.2.2.2[3]? = some ([0, 1, 2], [.iload 2, .aload 1, .invokevirtual 391, .if_icmp .ge 7, .goto_w 4]) := rfl
theorem k89_4 : xM89.2.2.2.2.2[4]? = some ([0, 1, 2], [.aload 0, .iload 2, .invokevirtual 88, .aload 1, .iload 2, .invokevirtual 392, .if_icmp .eq 6, .goto_w 5]) := rfl
theorem k89_5 : xM89.2.2.2.2.2[5]? = some ([], [.iconst 0, .ireturn]) := rfl
theorem k89_6 : xM89.2.2.2.2.2[6]? = some ([0, 1, 2], [.iinc 2 1, .goto 3]) := rfl
theorem k89_7 : xM89.2.2.2.2.2[7]? = some ([], [.iconst 1, .ireturn]) := rfl
theorem k91_0 : xM91.2.2.2.2.2[0]? = some ([0, 1, 2, 3, 4, 5], [.aload 0, .getfield 320, .getfield 96, .iload 1, .iload 2, .iload 3, .iload 4, .iload 5, .invokevirtual 81, .ireturn]) := rfl
theorem k92_0 : xM92.2.2.2.2.2[0]? = some ([0, 1], [.iload 1, .ifCond .lt 2, .goto_w 1]) := rfl
theorem k92_1 : xM92.2.2.2.2.2[1]? = some ([0, 1], [.iload 1, .aload 0, .getfield 320, .getfield 96, .getfield 289, .if_icmp .le 3, .goto_w 2]) := rfl
theorem k92_2 : xM92.2.2.2.2.2[2]? = some ([], [.checkcast 2]) := rfl
theorem k92_3 : xM92.2.2.2.2.2[3]? = some ([0, 1], [.aload 0, .getfield 320, .iload 1, .invokevirtual 19, .istore 2, .aload 0, .getfield 320, .getfield 96, .iconst 0, .putfield 289, .iload 2, .invokestatic 160, .aload 0, .getfield 321, .aload 0, .getfield 320, .getfield 97, .invokevirtual 68, .aload 0, .getfield 323, .aload 0, .getfield 320, .getfield 98, .invokevirtual 42, .aload 0, .getfield 324, .invokevirtual 11, .aload 0, .getfield 324, .invokevirtual 12, .aload 0, .iconst 1, .putfield 327, .aload 0, .getfield 321, .getfield 262, .getfield 224, .ireturn]) := rfl
theorem k93_0 : xM93.2.2.2.2.2[0]? = some ([0], [.aload 0, .getfield 320, .getfield 99, .ireturn]) := rfl
theorem k94_0 : xM94.2.2.2.2.2[0]? = some ([0], [.aload 0, .getfield 320, .getfield 100, .ireturn]) := rfl
theorem k95_0 : xM95.2.2.2.2.2[0]? = some ([0], [.aload 0, .getfield 320, .getfield 96, .getfield 289, .ireturn]) := rfl
theorem k96_0 : xM96.2.2.2.2.2[0]? = some ([0, 1], [.aload 0, .invokevirtual 155, .iload 1, .iconst 0, .iconst 16, .invokestatic 159, .iload 1, .tableswitch 17 0 15 #[1, 2, 3, 4, 5, 6, 7, 8, 9, 10, 11, 12, 13, 14, 15, 16]]) := rfl
theorem k96_1 : xM96.2.2.2.2.2[1]? = some ([0], [.aload 0, .getfield 321, .getfield 262, .getfield 224, .ireturn]) := rfl
theorem k96_2 : xM96.2.2.2.2.2[2]? = some ([0], [.aload 0, .getfield 323, .getfield 192, .ireturn]) := rfl
theorem k96_3 : xM96.2.2.2.2.2[3]? = some ([0], [.aload 0, .getfield 321, .getfield 264, .getfield 128, .ireturn]) := rfl
theorem k96_4 : xM96.2.2.2.2.2[4]? = some ([0], [.aload 0, .getfield 321, .getfield 256, .ireturn]) := rfl
theorem k96_5 : xM96.2.2.2.2.2[5]? = some ([0], [.aload 0, .getfield 321, .getfield 262, .invokevirtual 55, .ireturn]) := rfl
theorem k96_6 : xM96.2.2.2.2.2[6]? = some ([0], [.aload 0, .getfield 321, .getfield 263, .getfield 32, .ireturn]) := rfl
theorem k96_7 : xM96.2.2.2.2.2[7]? = some ([0], [.aload 0, .getfield 321, .getfield 257, .ireturn]) := rfl
theorem k96_8 : xM96.2.2.2.2.2[8]? = some ([0], [.aload 0, .getfield 321, .getfield 264, .iconst 2, .invokevirtual 30, .ireturn]) := rfl
theorem k96_9 : xM96.2.2.2.2.2[9]? = some ([0], [.aload 0, .getfield 321, .getfield 258, .ireturn]) := rfl
theorem k96_10 : xM96.2.2.2.2.2[10]? = some ([0], [.aload 0, .getfield 321, .getfield 259, .ireturn]) := rfl
theorem k96_11 : xM96.2.2.2.2.2[11]? = some ([0], [.aload 0, .invokevirtual 166, .invokestatic 383, .ireturn]) := rfl
theorem k96_12 : xM96.2.2.2.2.2[12]? = some ([0], [.aload 0, .getfield 321, .getfield 264, .iconst 0, .invokevirtual 30, .ireturn]) := rfl
theorem k96_13 : xM96.2.2.2.2.2[13]? = some ([0], [.aload 0, .getfield 321, .getfield 262, .iconst 0, .invokevirtual 62, .invokestatic 383, .ireturn]) := rfl
theorem k96_14 : xM96.2.2.2.2.2[14]? = some ([0], [.aload 0, .getfield 321, .getfield 262, .invokevirtual 57, .ireturn]) := rfl
theorem k96_15 : xM96.2.2.2.2.2[15]? = some ([0], [.aload 0, .getfield 321, .getfield 262, .aload 0, .getfield 321, .getfield 260, .iconst 0, .iaload, .invokevirtual 58, .ireturn]) := rfl
theorem k96_16 : xM96.2.2.2.2.2[16]? = some ([0], [.aload 0, .getfield 321, .getfield 262, .invokevirtual 59, .ireturn]) := rfl
theorem k96_17 : xM96.2.2.2.2.2[17]? = some ([0], [.aload 0, .invokevirtual 167, .ireturn]) := rfl
theorem k97_0 : xM97.2.2.2.2.2[0]? = some ([0, 1], [.aload 0, .invokevirtual 155, .iload 1, .iconst 0, .iconst 5, .invokestatic 159, .aload 0, .getfield 321, .getfield 260, .iload 1, .iaload, .ireturn]) := rfl
theorem k98_0 : xM98.2.2.2.2.2[0]? = some ([0, 1, 2], [.aload 0, .invokevirtual 155, .aload 0, .iload 1, .invokevirtual 156, .iload 2, .iconst 0, .iconst 12, .invokestatic 159, .aload 0, .getfield 321, .getfield 262, .astore 3, .iload 2, .tableswitch 13 0 11 #[1, 2, 3, 4, 5, 6, 7, 8, 9, 10, 11, 12]]) := rfl
theorem k98_1 : xM98.2.2.2.2.2[1]? = some ([1, 3], [.aload 3, .getfield 229, .iload 1, .iaload, .ireturn]) := rfl
theorem k98_2 : xM98.2.2.2.2.2[2]? = some ([1, 3], [.aload 3, .getfield 230, .iload 1, .iaload, .ireturn]) := rfl
theorem k98_3 : xM98.2.2.2.2.2[3]? = some ([1, 3], [.aload 3, .getfield 226, .iload 1, .iaload, .ireturn]) := rfl
theorem k98_4 : xM98.2.2.2.2.2[4]? = some ([1, 3], [.aload 3, .getfield 227, .iload 1, .iaload, .ireturn]) := rfl
theorem k98_5 : xM98.2.2.2.2.2[5]? = some ([1, 3], [.aload 3, .getfield 228, .iload 1, .iaload, .ireturn]) := rfl
theorem k98_6 : xM98.2.2.2.2.2[6]? = some ([1, 3], [.aload 3, .iload 1, .invokevirtual 50, .ireturn]) := rfl
theorem k98_7 : xM98.2.2.2.2.2[7]? = some ([1, 3], [.aload 3, .iload 1, .invokevirtual 51, .ireturn]) := rfl
theorem k98_8 : xM98.2.2.2.2.2[8]? = some ([1, 3], [.aload 3, .getfield 232, .iload 1, .iaload, .ireturn]) := rfl
theorem k98_9 : xM98.2.2.2.2.2[9]? = some ([1, 3], [.aload 3, .getfield 225, .iload 1, .iaload, .ireturn]) := rfl
theorem k98_10 : xM98.2.2.2.2.2[10]? = some ([0, 1], [.aload 0, .iload 1, .invokevirtual 168, .ireturn]) := rfl
theorem k98_11 : xM98.2.2.2.2.2[11]? = some ([1, 3], [.aload 3, .getfield 230, .iconst 0, .iaload, .aload 3, .getfield 230, .iload 1, .iaload, .isub, .ireturn]) := rfl
theorem k98_12 : xM98.2.2.2.2.2[12]? = some ([1, 3], [.aload 3, .aload 3, .getfield 228, .iload 1, .iaload, .invokevirtual 63, .ireturn]) := rfl
theorem k98_13 : xM98.2.2.2.2.2[13]? = some ([0, 1, 3], [.aload 0, .getfield 321, .getfield 263, .aload 3, .getfield 230, .iload 1, .iaload, .aload 3, .getfield 230, .iload 1, .iaload, .invokevirtual 7, .ifCond .le 15, .goto_w 14]) := rfl
theorem k98_14 : xM98.2.2.2.2.2[14]? = some ([], [.iconst 1, .goto 16]) := rfl
theorem k98_15 : xM98.2.2.2.2.2[15]? = some ([], [.iconst 0, .goto_w 16]) := rfl
theorem k98_16 : xM98.2.2.2.2.2[16]? = some ([], [.ireturn]) := rfl
theorem k99_0 : xM99.2.2.2.2.2[0]? = some ([0, 1, 2], [.aload 0, .invokevirtual 155, .aload 0, .iload 1, .invokevirtual 157, .iload 2, .iconst 0, .iconst 8, .invokestatic 159, .aload 0, .getfield 321, .getfield 260, .iconst 1, .iaload, .istore 3, .iload 2, .tableswitch 9 0 7 #[1, 2, 3, 4, 5, 6, 7, 8]]) := rfl
theorem k99_1 : xM99.2.2.2.2.2[1]? = some ([0, 1], [.aload 0, .getfield 323, .getfield 193, .iload 1, .iaload, .ireturn]) := rfl
theorem k99_2 : xM99.2.2.2.2.2[2]? = some ([0, 1], [.aload 0, .getfield 323, .getfield 194, .iload 1, .iaload, .ireturn]) := rfl
theorem k99_3 : xM99.2.2.2.2.2[3]? = some ([0, 1], [.aload 0, .getfield 323, .getfield 195, .iload 1, .iaload, .ireturn]) := rfl
theorem k99_4 : xM99.2.2.2.2.2[4]? = some ([0, 1], [.aload 0, .getfield 321, .getfield 261, .iload 1, .iaload, .ireturn]) := rfl
theorem k99_5 : xM99.2.2.2.2.2[5]? = some ([0, 1], [.aload 0, .iload 1, .invokevirtual 169, .invokestatic 383, .ireturn]) := rfl
theorem k99_6 : xM99.2.2.2.2.2[6]? = some ([0, 1], [.aload 0, .iload 1, .invokevirtual 161, .getfield 160, .ireturn]) := rfl
theorem k99_7 : xM99.2.2.2.2.2[7]? = some ([0, 1], [.aload 0, .getfield 321, .getfield 262, .aload 0, .getfield 323, .getfield 194, .iload 1, .iaload, .invokevirtual 66, .ireturn]) := rfl
theorem k99_8 : xM99.2.2.2.2.2[8]? = some ([0, 1, 3], [.aload 0, .getfield 321, .getfield 262, .aload 0, .getfield 323, .getfield 194, .iload 1, .iaload, .iload 3, .iadd, .invokevirtual 64, .ireturn]) := rfl
theorem k99_9 : xM99.2.2.2.2.2[9]? = some ([0, 1, 3], [.aload 0, .getfield 321, .getfield 262, .aload 0, .getfield 323, .getfield 194, .iload 1, .iaload, .iload 3, .isub, .invokevirtual 65, .ireturn]) := rfl
theorem k100_0 : xM100.2.2.2.2.2[0]? = some ([0, 1, 2], [.aload 0, .invokevirtual 155, .aload 0, .getfield 321, .getfield 264, .astore 3, .iload 1, .aload 3, .getfield 128, .invokestatic 158, .iload 2, .iconst 0, .iconst 3, .invokestatic 159, .iload 2, .tableswitch 4 0 2 #[1, 2, 3]]) := rfl
theorem k100_1 : xM100.2.2.2.2.2[1]? = some ([1, 3], [.aload 3, .getfield 129, .iload 1, .iaload, .ireturn]) := rfl
theorem k100_2 : xM100.2.2.2.2.2[2]? = some ([1, 3], [.aload 3, .getfield 130, .iload 1, .iaload, .ireturn]) := rfl
theorem k100_3 : xM100.2.2.2.2.2[3]? = some ([1, 3], [.aload 3, .getfield 131, .iload 1, .iaload, .ireturn]) := rfl
theorem k100_4 : xM100.2.2.2.2.2[4]? = some ([0, 1, 3], [.aload 3, .getfield 131, .iload 1, .iaload, .ifCond .ne 6, .goto_w 5]) := rfl
theorem k100_5 : xM100.2.2.2.2.2[5]? = some ([0, 1, 3], [.aload 3, .getfield 129, .iload 1, .iaload, .aload 0, .getfield 321, .getfield 256, .isub, .goto 7]) := rfl
theorem k100_6 : xM100.2.2.2.2.2[6]? = some ([], [.iconst (-1), .goto_w 7]) := rfl
theorem k100_7 : xM100.2.2.2.2.2[7]? = some ([], [.ireturn]) := rfl
theorem k101_0 : xM101.2.2.2.2.2[0]? = some ([0, 1, 2], [.aload 0, .invokevirtual 155, .aload 0, .getfield 321, .getfield 263, .astore 3, .iload 1, .aload 3, .getfield 32, .invokestatic 158, .iload 2, .iconst 0, .iconst 2, .invokestatic 159, .iload 2, .lookupswitch 3 #[(0, 1), (1, 2)]]) := rfl
theorem k101_1 : xM101.2.2.2.2.2[1]? = some ([1, 3], [.aload 3, .getfield 33, .iload 1, .iaload, .ireturn]) := rfl
theorem k101_2 : xM101.2.2.2.2.2[2]? = some ([1, 3], [.aload 3, .getfield 34, .iload 1, .iaload, .ireturn]) := rfl
theorem k101_3 : xM101.2.2.2.2.2[3]? = some ([1, 3], [.aload 3, .getfield 35, .iload 1, .iaload, .ireturn]) := rfl
theorem k102_0 : xM102.2.2.2.2.2[0]? = some ([0, 1, 2], [.aload 0, .invokevirtual 155, .aload 0, .iload 1, .invokevirtual 157, .aload 0, .getfield 323, .iload 1, .iload 2, .invokevirtual 45, .ireturn]) := rfl
theorem k103_0 : xM103.2.2.2.2.2[0]? = some ([0, 1, 2], [.aload 0, .invokevirtual 155, .aload 0, .iload 1, .invokevirtual 157, .aload 0, .iload 1, .invokevirtual 161, .iload 2, .invokevirtual 35, .ireturn]) := rfl
theorem k104_0 : xM104.2.2.2.2.2[0]? = some ([0, 1], [.aload 0, .invokevirtual 155, .aload 0, .iload 1, .invokevirtual 157, .aload 0, .iload 1, .invokevirtual 169, .ireturn]) := rfl
theorem k105_0 : xM105.2.2.2.2.2[0]? = some ([0, 1], [.aload 0, .invokevirtual 155, .aload 0, .iload 1, .invokevirtual 157, .aload 0, .iload 1, .invokevirtual 161, .aload 0, .getfield 323, .iload 1, .invokevirtual 37, .ireturn]) := rfl
theorem k106_0 : xM106.2.2.2.2.2[0]? = some ([0, 1], [.aload 0, .invokevirtual 155, .aload 0, .iload 1, .invokevirtual 157, .aload 0, .iload 1, .invokevirtual 161, .aload 0, .getfield 323, .iload 1, .invokevirtual 39, .ireturn]) := rfl
theorem k107_0 : xM107.2.2.2.2.2[0]? = some ([0, 1], [.aload 0, .invokevirtual 155, .aload 0, .iload 1, .invokevirtual 157, .aload 0, .iload 1, .invokevirtual 161, .aload 0, .getfield 323, .iload 1, .invokevirtual 40, .freturn]) := rfl
theorem k108_0 : xM108.2.2.2.2.2[0]? = some ([0, 1], [.aload 0, .invokevirtual 155, .aload 0, .iload 1, .invokevirtual 157, .aload 0, .iload 1, .invokevirtual 161, .aload 0, .getfield 323, .iload 1, .invokevirtual 40, .invokestatic 170, .ireturn]) := rfl
theorem k109_0 : xM109.2.2.2.2.2[0]? = some ([0, 1], [.aload 0, .invokevirtual 155, .aload 0, .iload 1, .invokevirtual 157, .iconst 0, .istore 2, .iconst 1, .istore 3, .goto_w 1]) := rfl
theorem k109_1 : xM109.2.2.2.2.2[1]? = some ([0, 1, 2, 3], [.iload 3, .iconst 26, .if_icmp .gt 3, .goto_w 2]) := rfl
theorem k109_2 : xM109.2.2.2.2.2[2]? = some ([0, 1, 2, 3], [.iload 2, .iconst 0, .aload 0, .getfield 323, .iload 1, .iload 3, .invokevirtual 46, .aload 0, .getfield 321, .getfield 262, .iload 3, .invokevirtual 56, .isub, .invokestatic 385, .iadd, .istore 2, .iinc 3 1, .goto 1]) := rfl
theorem k109_3 : xM109.2.2.2.2.2[3]? = some ([2], [.iload 2, .ireturn]) := rfl
theorem k110_0 : xM110.2.2.2.2.2[0]? = some ([0, 1, 2], [.aload 0, .invokevirtual 155, .aload 0, .iload 1, .invokevirtual 157, .aload 0, .iload 1, .invokevirtual 161, .iload 2, .invokevirtual 36, .ireturn]) := rfl
theorem k111_0 : xM111.2.2.2.2.2[0]? = some ([0, 1], [.aload 0, .invokevirtual 155, .aload 0, .iload 1, .invokevirtual 157, .aload 0, .iload 1, .invokevirtual 161, .astore 2, .aload 2, .getfield 160, .aload 2, .getfield 161, .isub, .ireturn]) := rfl
theorem k112_0 : xM112.2.2.2.2.2[0]? = some ([0, 1], [.aload 0, .invokevirtual 155, .aload 0, .iload 1, .invokevirtual 157, .aload 0, .iload 1, .invokevirtual 161, .aload 0, .getfield 323, .iload 1, .invokevirtual 38, .ireturn]) := rfl
theorem k113_0 : xM113.2.2.2.2.2[0]? = some ([0, 1], [.aload 0, .invokevirtual 155, .iload 1, .iconst 1, .iconst 26, .invokestatic 159, .iconst 0, .istore 2, .goto_w 1]) := rfl
theorem k113_1 : xM113.2.2.2.2.2[1]? = some ([0, 1, 2], [.iload 2, .aload 0, .getfield 321, .getfield 262, .getfield 224, .if_icmp .ge 5, .goto_w 2]) := rfl
theorem k113_2 : xM113.2.2.2.2.2[2]? = some ([0, 1, 2], [.aload 0, .getfield 321, .getfield 262, .getfield 229, .iload 2, .iaload, .iload 1, .if_icmp .ne 4, .goto_w 3]) := rfl
theorem k113_3 : xM113.2.2.2.2.2[3]? = some ([2], [.iload 2, .ireturn]) := rfl
theorem k113_4 : xM113.2.2.2.2.2[4]? = some ([0, 1, 2], [.iinc 2 1, .goto 1]) := rfl
theorem k113_5 : xM113.2.2.2.2.2[5]? = some ([], [.iconst (-1), .ireturn]) := rfl
theorem k114_0 : xM114.2.2.2.2.2[0]? = some ([0, 1], [.aload 0, .invokevirtual 155, .iload 1, .iconst 1, .iconst 26, .invokestatic 159, .aload 0, .getfield 321, .getfield 262, .iload 1, .invokevirtual 56, .aload 0, .getfield 321, .getfield 263, .iload 1, .invokevirtual 9, .iadd, .ireturn]) := rfl
theorem k115_0 : xM115.2.2.2.2.2[0]? = some ([0, 1], [.aload 0, .invokevirtual 155, .iload 1, .iconst 0, .iconst 100, .invokestatic 159, .aload 0, .getfield 321, .getfield 262, .iload 1, .invokevirtual 62, .ireturn]) := rfl
theorem k116_0 : xM116.2.2.2.2.2[0]? = some ([0], [.aload 0, .invokevirtual 155, .iconst 0, .istore 1, .iconst 0, .istore 2, .goto_w 1]) := rfl
theorem k116_1 : xM116.2.2.2.2.2[1]? = some ([0, 1, 2], [.iload 2, .aload 0, .getfield 321, .getfield 262, .getfield 224, .if_icmp .ge 5, .goto_w 2]) := rfl
theorem k116_2 : xM116.2.2.2.2.2[2]? = some ([0, 1, 2], [.aload 0, .getfield 321, .iload 2, .invokevirtual 74, .ifCond .eq 4, .goto_w 3]) := rfl
theorem k116_3 : xM116.2.2.2.2.2[3]? = some ([0, 1, 2], [.iload 1, .iconst 1, .iload 2, .ishl, .ior, .istore 1, .goto_w 4]) := rfl
theorem k116_4 : xM116.2.2.2.2.2[4]? = some ([0, 1, 2], [.iinc 2 1, .goto 1]) := rfl
theorem k116_5 : xM116.2.2.2.2.2[5]? = some ([1], [.iload 1, .ireturn]) := rfl
theorem k117_0 : xM117.2.2.2.2.2[0]? = some ([0], [.aload 0, .invokevirtual 155, .aload 0, .getfield 321, .getfield 264, .invokevirtual 31, .ireturn]) := rfl
theorem k118_0 : xM118.2.2.2.2.2[0]? = some ([0, 1, 2], [.aload 0, .invokevirtual 155, .aload 0, .getfield 321, .getfield 263, .iload 1, .iload 2, .invokevirtual 7, .ireturn]) := rfl
theorem k119_0 : xM119.2.2.2.2.2[0]? = some ([0], [.aload 0, .invokevirtual 155, .iconst (-1), .istore 1, .ldc_w 3212836864, .fstore 2, .iconst 0, .istore 3, .goto_w 1]) := rfl
theorem k119_1 : xM119.2.2.2.2.2[1]? = some ([0, 1, 2, 3], [.iload 3, .aload 0, .getfield 323, .getfield 192, .if_icmp .ge 5, .goto_w 2]) := rfl
theorem k119_2 : xM119.2.2.2.2.2[2]? = some ([0, 1, 2, 3], [.aload 0, .iload 3, .invokevirtual 161, .aload 0, .getfield 323, .iload 3, .invokevirtual 40, .fstore 4, .fload 4, .fload 2, .fcmp .l, .ifCond .le 4, .goto_w 3]) := rfl
theorem k119_3 : xM119.2.2.2.2.2[3]? = some ([0, 3, 4], [.iload 3, .istore 1, .fload 4, .fstore 2, .goto_w 4]) := rfl
theorem k119_4 : xM119.2.2.2.2.2[4]? = some ([0, 1, 2, 3], [.iinc 3 1, .goto 1]) := rfl
theorem k119_5 : xM119.2.2.2.2.2[5]? = some ([1], [.iload 1, .ireturn]) := rfl
theorem k120_0 : xM120.2.2.2.2.2[0]? = some ([0], [.aload 0, .invokevirtual 155, .aload 0, .invokevirtual 166, .ireturn]) := rfl
theorem k121_0 : xM121.2.2.2.2.2[0]? = some ([0], [.aload 0, .invokevirtual 155, .iconst (-1), .istore 1, .iconst 0, .istore 2, .goto_w 1]) := rfl
theorem k121_1 : xM121.2.2.2.2.2[1]? = some ([0, 1, 2], [.iload 2, .aload 0, .getfield 321, .getfield 262, .getfield 224, .if_icmp .ge 6, .goto_w 2]) := rfl
theorem k121_2 : xM121.2.2.2.2.2[2]? = some ([0, 1, 2], [.iload 1, .iconst (-1), .if_icmp .eq 4, .goto_w 3]) := rfl
theorem k121_3 : xM121.2.2.2.2.2[3]? = some ([0, 1, 2], [.aload 0, .getfield 321, .getfield 262, .getfield 228, .iload 2, .iaload, .aload 0, .getfield 321, .getfield 262, .getfield 228, .iload 1, .iaload, .if_icmp .ge 5, .goto_w 4]) := rfl
theorem k121_4 : xM121.2.2.2.2.2[4]? = some ([0, 2], [.iload 2, .istore 1, .goto_w 5]) := rfl
theorem k121_5 : xM121.2.2.2.2.2[5]? = some ([0, 1, 2], [.iinc 2 1, .goto 1]) := rfl
theorem k121_6 : xM121.2.2.2.2.2[6]? = some ([1], [.iload 1, .ireturn]) := rfl
theorem k122_0 : xM122.2.2.2.2.2[0]? = some ([0], [.aload 0, .invokevirtual 155, .iconst (-1), .istore 1, .iconst 1, .istore 2, .goto_w 1]) := rfl
theorem k122_1 : xM122.2.2.2.2.2[1]? = some ([0, 1, 2], [.iload 2, .aload 0, .getfield 321, .getfield 262, .getfield 224, .if_icmp .ge 6, .goto_w 2]) := rfl
theorem k122_2 : xM122.2.2.2.2.2[2]? = some ([0, 1, 2], [.iload 1, .iconst (-1), .if_icmp .eq 4, .goto_w 3]) := rfl
theorem k122_3 : xM122.2.2.2.2.2[3]? = some ([0, 1, 2], [.aload 0, .getfield 321, .getfield 262, .iload 2, .invokevirtual 51, .aload 0, .getfield 321, .getfield 262, .iload 1, .invokevirtual 51, .if_icmp .le 5, .goto_w 4]) := rfl
theorem k122_4 : xM122.2.2.2.2.2[4]? = some ([0, 2], [.iload 2, .istore 1, .goto_w 5]) := rfl
theorem k122_5 : xM122.2.2.2.2.2[5]? = some ([0, 1, 2], [.iinc 2 1, .goto 1]) := rfl
theorem k122_6 : xM122.2.2.2.2.2[6]? = some ([1], [.iload 1, .ireturn]) := rfl
theorem k123_0 : xM123.2.2.2.2.2[0]? = some ([0], [.aload 0, .invokevirtual 155, .aload 0, .getfield 321, .getfield 262, .astore 1, .aload 1, .getfield 224, .iconst 2, .if_icmp .ge 2, .goto_w 1]) := rfl
theorem k123_1 : xM123.2.2.2.2.2[1]? = some ([], [.iconst 0, .goto 3]) := rfl
theorem k123_2 : xM123.2.2.2.2.2[2]? = some ([1], [.aload 1, .getfield 230, .iconst 0, .iaload, .aload 1, .getfield 230, .aload 1, .getfield 224, .iconst 1, .isub, .iaload, .isub, .goto_w 3]) := rfl
theorem k123_3 : xM123.2.2.2.2.2[3]? = some ([], [.ireturn]) := rfl
theorem k124_0 : xM124.2.2.2.2.2[0]? = some ([0], [.aload 0, .invokevirtual 155, .aload 0, .getfield 321, .getfield 262, .invokevirtual 61, .dreturn]) := rfl
theorem k125_0 : xM125.2.2.2.2.2[0]? = some ([0], [.aload 0, .invokevirtual 155, .aload 0, .getfield 321, .getfield 262, .invokevirtual 61, .invokestatic 171, .lreturn]) := rfl
theorem k126_0 : xM126.2.2.2.2.2[0]? = some ([0, 1], [.aload 0, .invokevirtual 155, .aload 0, .iload 1, .invokevirtual 157, .aload 0, .getfield 322, .aload 0, .getfield 321, .invokevirtual 68, .iconst 0, .istore 2, .goto_w 1]) := rfl
theorem k126_1 : xM126.2.2.2.2.2[1]? = some ([0, 1, 2], [.iload 2, .iconst 300, .if_icmp .ge 5, .goto_w 2]) := rfl
theorem k126_2 : xM126.2.2.2.2.2[2]? = some ([0, 1, 2], [.aload 0, .iload 1, .invokevirtual 162, .aload 0, .getfield 323, .iload 1, .invokevirtual 39, .ifCond .eq 4, .goto_w 3]) := rfl
theorem k126_3 : xM126.2.2.2.2.2[3]? = some ([2], [.iload 2, .ireturn]) := rfl
theorem k126_4 : xM126.2.2.2.2.2[4]? = some ([0, 1, 2], [.aload 0, .getfield 322, .invokevirtual 70, .iinc 2 1, .goto 1]) := rfl
theorem k126_5 : xM126.2.2.2.2.2[5]? = some ([0, 1], [.aload 0, .iload 1, .invokevirtual 162, .aload 0, .getfield 323, .iload 1, .invokevirtual 39, .ifCond .eq 7, .goto_w 6]) := rfl
theorem k126_6 : xM126.2.2.2.2.2[6]? = some ([], [.iconst 300, .goto 8]) := rfl
theorem k126_7 : xM126.2.2.2.2.2[7]? = some ([], [.iconst (-1), .goto_w 8]) := rfl
theorem k126_8 : xM126.2.2.2.2.2[8]? = some ([], [.ireturn]) := rfl
theorem k127_0 : xM127.2.2.2.2.2[0]? = some ([0, 1], [.aload 0, .invokevirtual 155, .aload 0, .iload 1, .invokevirtual 157, .aload 0, .getfield 323, .getfield 194, .iload 1, .iaload, .aload 0, .getfield 321, .getfield 260, .iconst 1, .iaload, .iadd, .istore 2, .aload 0, .getfield 322, .aload 0, .getfield 321, .invokevirtual 68, .iconst 0, .istore 3, .goto_w 1]) := rfl
theorem k127_1 : xM127.2.2.2.2.2[1]? = some ([0, 2, 3], [.iload 3, .iconst 300, .if_icmp .ge 5, .goto_w 2]) := rfl
theorem k127_2 : xM127.2.2.2.2.2[2]? = some ([0, 2, 3], [.aload 0, .getfield 322, .getfield 262, .iload 2, .invokevirtual 64, .aload 0, .getfield 322, .getfield 262, .getfield 224, .if_icmp .ne 4, .goto_w 3]) := rfl
theorem k127_3 : xM127.2.2.2.2.2[3]? = some ([3], [.iload 3, .ireturn]) := rfl
theorem k127_4 : xM127.2.2.2.2.2[4]? = some ([0, 2, 3], [.aload 0, .getfield 322, .invokevirtual 70, .iinc 3 1, .goto 1]) := rfl
theorem k127_5 : xM127.2.2.2.2.2[5]? = some ([0, 2], [.aload 0, .getfield 322, .getfield 262, .iload 2, .invokevirtual 64, .aload 0, .getfield 322, .getfield 262, .getfield 224, .if_icmp .ne 7, .goto_w 6]) := rfl
theorem k127_6 : xM127.2.2.2.2.2[6]? = some ([], [.iconst 300, .goto 8]) := rfl
theorem k127_7 : xM127.2.2.2.2.2[7]? = some ([], [.iconst (-1), .goto_w 8]) := rfl
theorem k127_8 : xM127.2.2.2.2.2[8]? = some ([], [.ireturn]) := rfl
theorem k128_0 : xM128.2.2.2.2.2[0]? = some ([0, 1, 2], [.aload 0, .invokevirtual 155, .aload 0, .iload 1, .invokevirtual 156, .iload 2, .iconst 0, .iconst 300, .invokestatic 159, .aload 0, .iload 2, .invokevirtual 163, .aload 0, .getfield 322, .getfield 262, .getfield 230, .iload 1, .iaload, .ireturn]) := rfl
theorem k129_0 : xM129.2.2.2.2.2[0]? = some ([0, 1, 2], [.aload 0, .invokevirtual 155, .aload 0, .iload 1, .invokevirtual 156, .iload 2, .iconst 0, .iconst 300, .invokestatic 159, .aload 0, .iload 2, .invokevirtual 163, .aload 0, .getfield 322, .getfield 262, .getfield 228, .iload 1, .iaload, .ireturn]) := rfl
theorem k130_0 : xM130.2.2.2.2.2[0]? = some ([0, 1, 2], [.aload 0, .invokevirtual 155, .aload 0, .iload 1, .invokevirtual 156, .iload 2, .iconst 0, .iconst 300, .invokestatic 159, .aload 0, .iload 2, .invokevirtual 163, .aload 0, .getfield 322, .getfield 262, .getfield 229, .iload 1, .iaload, .ireturn]) := rfl
theorem k131_0 : xM131.2.2.2.2.2[0]? = some ([0, 1], [.aload 0, .invokevirtual 155, .iload 1, .iconst 0, .iconst 300, .invokestatic 159, .aload 0, .iload 1, .invokevirtual 163, .aload 0, .getfield 322, .getfield 258, .aload 0, .getfield 321, .getfield 258, .isub, .ireturn]) := rfl
theorem k132_0 : xM132.2.2.2.2.2[0]? = some ([0], [.aload 0, .invokevirtual 155, .aload 0, .getfield 322, .aload 0, .getfield 321, .invokevirtual 68, .aload 0, .iconst 300, .invokevirtual 164, .ireturn]) := rfl
theorem k133_0 : xM133.2.2.2.2.2[0]? = some ([0, 1, 2], [.aload 0, .invokevirtual 155, .aload 0, .iload 1, .invokevirtual 157, .iload 2, .iconst 0, .iconst 300, .invokestatic 159, .aload 0, .iload 2, .invokevirtual 163, .aload 0, .iload 1, .invokevirtual 162, .aload 0, .getfield 323, .iload 1, .invokevirtual 40, .freturn]) := rfl
theorem k134_0 : xM134.2.2.2.2.2[0]? = some ([0, 1, 2], [.aload 0, .invokevirtual 155, .aload 0, .iload 1, .invokevirtual 157, .iload 2, .iconst 0, .iconst 300, .invokestatic 159, .aload 0, .getfield 322, .aload 0, .getfield 321, .invokevirtual 68, .aload 0, .iload 1, .invokevirtual 162, .aload 0, .getfield 323, .iload 1, .invokevirtual 40, .fstore 3, .iconst 0, .istore 4, .goto_w 1]) := rfl
theorem k134_1 : xM134.2.2.2.2.2[1]? = some ([0, 1, 2, 3, 4], [.iload 4, .iload 2, .if_icmp .ge 6, .goto_w 2]) := rfl
theorem k134_2 : xM134.2.2.2.2.2[2]? = some ([0, 1, 2, 3, 4], [.aload 0, .getfield 322, .invokevirtual 70, .aload 0, .iload 1, .invokevirtual 162, .aload 0, .getfield 323, .iload 1, .invokevirtual 40, .fstore 5, .fload 5, .fload 3, .fcmp .l, .ifCond .le 4, .goto_w 3]) := rfl
theorem k134_3 : xM134.2.2.2.2.2[3]? = some ([0, 1, 2, 4, 5], [.fload 5, .goto 5]) := rfl
theorem k134_4 : xM134.2.2.2.2.2[4]? = some ([0, 1, 2, 3, 4], [.fload 3, .goto_w 5]) := rfl
theorem k134_5 : xM134.2.2.2.2.2[5]? = some ([0, 1, 2, 4], [.fstore 3, .iinc 4 1, .goto 1]) := rfl
theorem k134_6 : xM134.2.2.2.2.2[6]? = some ([3], [.fload 3, .freturn]) := rfl
theorem k135_0 : xM135.2.2.2.2.2[0]? = some ([0, 1], [.aload 0, .invokevirtual 155, .aload 0, .iload 1, .invokevirtual 157, .iconst (-1), .istore 2, .aload 0, .iload 1, .invokevirtual 161, .aload 0, .getfield 323, .iload 1, .invokevirtual 40, .fstore 3, .aload 0, .getfield 322, .aload 0, .getfield 321, .invokevirtual 68, .iconst 0, .istore 4, .goto_w 1]) := rfl
theorem k135_1 : xM135.2.2.2.2.2[1]? = some ([0, 1, 2, 3, 4], [.iload 4, .iconst 1, .iadd, .aload 0, .getfield 322, .getfield 262, .getfield 224, .if_icmp .ge 5, .goto_w 2]) := rfl
theorem k135_2 : xM135.2.2.2.2.2[2]? = some ([0, 1, 2, 3, 4], [.aload 0, .getfield 322, .getfield 262, .iload 4, .invokevirtual 53, .aload 0, .iload 1, .invokevirtual 162, .aload 0, .getfield 323, .iload 1, .invokevirtual 40, .fstore 5, .aload 0, .getfield 322, .getfield 262, .iload 4, .invokevirtual 53, .fload 5, .fload 3, .fcmp .l, .ifCond .le 4, .goto_w 3]) := rfl
theorem k135_3 : xM135.2.2.2.2.2[3]? = some ([0, 1, 4, 5], [.iload 4, .istore 2, .fload 5, .fstore 3, .goto_w 4]) := rfl
theorem k135_4 : xM135.2.2.2.2.2[4]? = some ([0, 1, 2, 3, 4], [.iinc 4 1, .goto 1]) := rfl
theorem k135_5 : xM135.2.2.2.2.2[5]? = some ([2], [.iload 2, .ireturn]) := rfl
theorem k136_0 : xM136.2.2.2.2.2[0]? = some ([0, 1], [.aload 0, .invokevirtual 155, .aload 0, .iload 1, .invokevirtual 156, .iload 1, .ifCond .ne 2, .goto_w 1]) := rfl
theorem k136_1 : xM136.2.2.2.2.2[1]? = some ([], [.iconst (-1), .ireturn]) := rfl
theorem k136_2 : xM136.2.2.2.2.2[2]? = some ([0, 1], [.aload 0, .getfield 321, .getfield 260, .iconst 0, .iaload, .istore 2, .aload 0, .getfield 322, .aload 0, .getfield 321, .invokevirtual 68, .iconst 0, .istore 3, .goto_w 3]) := rfl
theorem k136_3 : xM136.2.2.2.2.2[3]? = some ([0, 1, 2, 3], [.iload 3, .iconst 300, .if_icmp .ge 7, .goto_w 4]) := rfl
theorem k136_4 : xM136.2.2.2.2.2[4]? = some ([0, 1, 2, 3], [.aload 0, .getfield 322, .getfield 262, .iload 1, .invokevirtual 51, .iload 2, .if_icmp .ne 6, .goto_w 5]) := rfl
theorem k136_5 : xM136.2.2.2.2.2[5]? = some ([3], [.iload 3, .ireturn]) := rfl
theorem k136_6 : xM136.2.2.2.2.2[6]? = some ([0, 1, 2, 3], [.aload 0, .getfield 322, .invokevirtual 70, .iinc 3 1, .goto 3]) := rfl
theorem k136_7 : xM136.2.2.2.2.2[7]? = some ([0, 1, 2], [.aload 0, .getfield 322, .getfield 262, .iload 1, .invokevirtual 51, .iload 2, .if_icmp .ne 9, .goto_w 8]) := rfl
theorem k136_8 : xM136.2.2.2.2.2[8]? = some ([], [.iconst 300, .goto 10]) := rfl
theorem k136_9 : xM136.2.2.2.2.2[9]? = some ([], [.iconst (-1), .goto_w 10]) := rfl
theorem k136_10 : xM136.2.2.2.2.2[10]? = some ([], [.ireturn]) := rfl
theorem k137_0 : xM137.2.2.2.2.2[0]? = some ([0], [.aload 0, .invokevirtual 155, .iconst 0, .istore 1, .goto_w 1]) := rfl
theorem k137_1 : xM137.2.2.2.2.2[1]? = some ([0, 1], [.iload 1, .iconst 50, .if_icmp .gt 5, .goto_w 2]) := rfl
theorem k137_2 : xM137.2.2.2.2.2[2]? = some ([0, 1], [.aload 0, .getfield 322, .aload 0, .getfield 321, .invokevirtual 68, .aload 0, .getfield 322, .getfield 260, .iconst 3, .iload 1, .iastore, .aload 0, .iconst 100, .invokevirtual 164, .iconst (-1), .if_icmp .ne 4, .goto_w 3]) := rfl
theorem k137_3 : xM137.2.2.2.2.2[3]? = some ([1], [.iload 1, .ireturn]) := rfl
theorem k137_4 : xM137.2.2.2.2.2[4]? = some ([0, 1], [.iinc 1 1, .goto 1]) := rfl
theorem k137_5 : xM137.2.2.2.2.2[5]? = some ([], [.iconst (-1), .ireturn]) := rfl
theorem k138_0 : xM138.2.2.2.2.2[0]? = some ([0, 1], [.aload 0, .invokevirtual 155, .aload 0, .iload 1, .invokevirtual 157, .aload 0, .iload 1, .invokevirtual 161, .astore 2, .aload 0, .getfield 326, .iconst 0, .putfield 0, .iconst 0, .istore 3, .goto_w 1]) := rfl
theorem k138_1 : xM138.2.2.2.2.2[1]? = some ([0, 2, 3], [.iload 3, .aload 2, .getfield 160, .if_icmp .ge 3, .goto_w 2]) := rfl
theorem k138_2 : xM138.2.2.2.2.2[2]? = some ([0, 2, 3], [.aload 0, .getfield 326, .aload 2, .iload 3, .invokevirtual 35, .invokevirtual 1, .iinc 3 1, .goto 1]) := rfl
theorem k138_3 : xM138.2.2.2.2.2[3]? = some ([0], [.aload 0, .getfield 326, .getfield 0, .ireturn]) := rfl
theorem k139_0 : xM139.2.2.2.2.2[0]? = some ([0], [.aload 0, .invokevirtual 155, .aload 0, .getfield 326, .iconst 0, .putfield 0, .iconst 0, .istore 1, .goto_w 1]) := rfl
theorem k139_1 : xM139.2.2.2.2.2[1]? = some ([0, 1], [.iload 1, .aload 0, .getfield 321, .getfield 262, .getfield 224, .if_icmp .ge 6, .goto_w 2]) := rfl
theorem k139_2 : xM139.2.2.2.2.2[2]? = some ([0, 1], [.aload 0, .getfield 321, .getfield 262, .getfield 229, .iload 1, .iaload, .istore 2, .aload 0, .getfield 326, .iload 2, .ifCond .ne 4, .goto_w 3]) := rfl
theorem k139_3 : xM139.2.2.2.2.2[3]? = some ([0, 1], [.iconst 45, .goto 5]) := rfl
theorem k139_4 : xM139.2.2.2.2.2[4]? = some ([0, 1, 2], [.iconst 96, .iload 2, .iadd, .goto_w 5]) := rfl
theorem k139_5 : xM139.2.2.2.2.2[5]? = some ([0, 1], [.invokevirtual 1, .iinc 1 1, .goto 1]) := rfl
theorem k139_6 : xM139.2.2.2.2.2[6]? = some ([0], [.aload 0, .getfield 326, .getfield 0, .ireturn]) := rfl
theorem k140_0 : xM140.2.2.2.2.2[0]? = some ([0], [.aload 0, .invokevirtual 155, .aload 0, .getfield 326, .iconst 0, .putfield 0, .iconst 0, .istore 1, .goto_w 1]) := rfl
theorem k140_1 : xM140.2.2.2.2.2[1]? = some ([0, 1], [.iload 1, .aload 0, .getfield 321, .getfield 262, .getfield 224, .if_icmp .ge 5, .goto_w 2]) := rfl
theorem k140_2 : xM140.2.2.2.2.2[2]? = some ([0, 1], [.iload 1, .ifCond .le 4, .goto_w 3]) := rfl
theorem k140_3 : xM140.2.2.2.2.2[3]? = some ([0, 1], [.aload 0, .getfield 326, .iconst 44, .invokevirtual 1, .goto_w 4]) := rfl
theorem k140_4 : xM140.2.2.2.2.2[4]? = some ([0, 1], [.aload 0, .getfield 326, .aload 0, .getfield 321, .getfield 262, .getfield 230, .iload 1, .iaload, .invokevirtual 2, .iinc 1 1, .goto 1]) := rfl
theorem k140_5 : xM140.2.2.2.2.2[5]? = some ([0], [.aload 0, .getfield 326, .getfield 0, .ireturn]) := rfl
theorem k141_0 : xM141.2.2.2.2.2[0]? = some ([0, 1], [.iload 1, .aload 0, .getfield 326, .getfield 0, .invokestatic 158, .aload 0, .getfield 326, .getfield 1, .iload 1, .iaload, .ireturn]) := rfl
theorem k142_0 : xM142.2.2.2.2.2[0]? = some ([0, 1], [.aload 0, .invokevirtual 155, .iload 1, .iconst 1, .iconst 100, .invokestatic 159, .aload 0, .getfield 321, .getfield 256, .iload 1, .iadd, .iconst 5000, .if_icmp .gt 2, .goto_w 1]) := rfl
theorem k142_1 : xM142.2.2.2.2.2[1]? = some ([0, 1], [.iconst 1, .goto 3]) := rfl
theorem k142_2 : xM142.2.2.2.2.2[2]? = some ([0, 1], [.iconst 0, .goto_w 3]) := rfl
theorem k142_3 : xM142.2.2.2.2.2[3]? = some ([0, 1], [.invokestatic 160, .aload 0, .getfield 324, .aload 0, .getfield 321, .invokevirtual 13, .aload 0, .invokevirtual 166, .invokestatic 383, .istore 2, .iconst 0, .istore 3, .goto_w 4]) := rfl
theorem k142_4 : xM142.2.2.2.2.2[4]? = some ([0, 1, 2, 3], [.iload 3, .iload 1, .if_icmp .ge 6, .goto_w 5]) := rfl
theorem k142_5 : xM142.2.2.2.2.2[5]? = some ([0, 1, 2, 3], [.aload 0, .getfield 321, .invokevirtual 70, .aload 0, .invokevirtual 165, .iinc 3 1, .goto 4]) := rfl
theorem k142_6 : xM142.2.2.2.2.2[6]? = some ([0, 2], [.aload 0, .invokevirtual 166, .invokestatic 383, .iload 2, .isub, .ireturn]) := rfl
theorem k143_0 : xM143.2.2.2.2.2[0]? = some ([0, 1], [.aload 0, .invokevirtual 155, .aload 0, .iload 1, .invokevirtual 156, .aload 0, .getfield 321, .iload 1, .invokevirtual 74, .invokestatic 160, .aload 0, .getfield 324, .aload 0, .getfield 321, .invokevirtual 13, .aload 0, .getfield 321, .iload 1, .invokevirtual 75, .aload 0, .getfield 321, .getfield 262, .getfield 229, .iload 1, .iaload, .ireturn]) := rfl
theorem k144_0 : xM144.2.2.2.2.2[0]? = some ([0, 1], [.aload 0, .invokevirtual 155, .aload 0, .iload 1, .invokevirtual 156, .aload 0, .getfield 321, .getfield 262, .getfield 229, .iload 1, .iaload, .ifCond .eq 2, .goto_w 1]) := rfl
theorem k144_1 : xM144.2.2.2.2.2[1]? = some ([0, 1], [.iconst 1, .goto 3]) := rfl
theorem k144_2 : xM144.2.2.2.2.2[2]? = some ([0, 1], [.iconst 0, .goto_w 3]) := rfl
theorem k144_3 : xM144.2.2.2.2.2[3]? = some ([0, 1], [.invokestatic 160, .aload 0, .getfield 324, .aload 0, .getfield 321, .invokevirtual 13, .aload 0, .getfield 321, .iload 1, .invokevirtual 76, .aload 0, .getfield 321, .getfield 263, .getfield 32, .ireturn]) := rfl
theorem k145_0 : xM145.2.2.2.2.2[0]? = some ([0, 1], [.aload 0, .invokevirtual 155, .aload 0, .iload 1, .invokevirtual 156, .aload 0, .getfield 321, .getfield 263, .aload 0, .getfield 321, .getfield 262, .getfield 230, .iload 1, .iaload, .aload 0, .getfield 321, .getfield 262, .getfield 230, .iload 1, .iaload, .invokevirtual 8, .istore 2, .aload 0, .getfield 321, .iload 1, .invokevirtual 77, .ifCond .eq 3, .goto_w 1]) := rfl
theorem k145_1 : xM145.2.2.2.2.2[1]? = some ([0, 1, 2], [.iload 2, .iconst (-1), .if_icmp .eq 3, .goto_w 2]) := rfl
theorem k145_2 : xM145.2.2.2.2.2[2]? = some ([0, 1, 2], [.iconst 1, .goto 4]) := rfl
theorem k145_3 : xM145.2.2.2.2.2[3]? = some ([0, 1, 2], [.iconst 0, .goto_w 4]) := rfl
theorem k145_4 : xM145.2.2.2.2.2[4]? = some ([0, 1, 2], [.invokestatic 160, .aload 0, .getfield 324, .aload 0, .getfield 321, .invokevirtual 13, .aload 0, .getfield 321, .iload 1, .iload 2, .invokevirtual 78, .aload 0, .getfield 321, .getfield 262, .getfield 229, .iload 1, .iaload, .ireturn]) := rfl
theorem k146_0 : xM146.2.2.2.2.2[0]? = some ([0, 1, 2], [.aload 0, .invokevirtual 155, .aload 0, .iload 1, .invokevirtual 156, .iload 2, .iconst (-100), .iconst 100, .invokestatic 159, .aload 0, .getfield 324, .aload 0, .getfield 321, .invokevirtual 13, .aload 0, .getfield 321, .getfield 262, .iload 1, .iload 2, .invokevirtual 52, .aload 0, .getfield 321, .getfield 262, .getfield 228, .iload 1, .iaload, .ireturn]) := rfl
theorem k147_0 : xM147.2.2.2.2.2[0]? = some ([0, 1], [.aload 0, .invokevirtual 155, .iload 1, .iconst 1, .iconst 100, .invokestatic 159, .aload 0, .getfield 324, .aload 0, .getfield 321, .invokevirtual 13, .iconst 0, .istore 2, .goto_w 1]) := rfl
theorem k147_1 : xM147.2.2.2.2.2[1]? = some ([0, 1, 2], [.iload 2, .aload 0, .getfield 321, .getfield 262, .getfield 224, .if_icmp .ge 3, .goto_w 2]) := rfl
theorem k147_2 : xM147.2.2.2.2.2[2]? = some ([0, 1, 2], [.aload 0, .getfield 321, .getfield 262, .iload 2, .iload 1, .invokevirtual 52, .iinc 2 1, .goto 1]) := rfl
theorem k147_3 : xM147.2.2.2.2.2[3]? = some ([0], [.aload 0, .getfield 321, .getfield 262, .invokevirtual 60, .ireturn]) := rfl
theorem k148_0 : xM148.2.2.2.2.2[0]? = some ([0, 1, 2], [.aload 0, .invokevirtual 155, .aload 0, .iload 1, .invokevirtual 156, .iload 2, .iconst 1, .iconst 200, .invokestatic 159, .aload 0, .getfield 324, .aload 0, .getfield 321, .invokevirtual 13, .aload 0, .getfield 321, .getfield 262, .getfield 226, .iload 1, .iaload, .istore 3, .aload 0, .getfield 321, .getfield 262, .getfield 226, .iload 1, .iload 2, .iastore, .iload 3, .ireturn]) := rfl
theorem k149_0 : xM149.2.2.2.2.2[0]? = some ([0, 1, 2], [.aload 0, .invokevirtual 155, .aload 0, .iload 2, .invokevirtual 156, .iload 1, .aload 0, .getfield 321, .getfield 256, .iconst 1, .iadd, .iconst 5000, .invokestatic 159, .iload 2, .iconst 1, .iadd, .aload 0, .getfield 321, .getfield 262, .getfield 224, .if_icmp .ge 3, .goto_w 1]) := rfl
theorem k149_1 : xM149.2.2.2.2.2[1]? = some ([0, 1, 2], [.aload 0, .getfield 321, .getfield 264, .getfield 128, .iconst 12, .if_icmp .ge 3, .goto_w 2]) := rfl
theorem k149_2 : xM149.2.2.2.2.2[2]? = some ([0, 1, 2], [.iconst 1, .goto 4]) := rfl
theorem k149_3 : xM149.2.2.2.2.2[3]? = some ([0, 1, 2], [.iconst 0, .goto_w 4]) := rfl
theorem k149_4 : xM149.2.2.2.2.2[4]? = some ([0, 1, 2], [.invokestatic 160, .aload 0, .getfield 324, .aload 0, .getfield 321, .invokevirtual 13, .aload 0, .getfield 321, .getfield 264, .iload 1, .iload 2, .invokevirtual 29, .aload 0, .getfield 321, .getfield 264, .getfield 128, .iconst 1, .isub, .ireturn]) := rfl
theorem k150_0 : xM150.2.2.2.2.2[0]? = some ([0, 1, 2], [.aload 0, .invokevirtual 155, .iload 1, .iconst 0, .iconst 5, .invokestatic 159, .iload 2, .getstatic 0, .iload 1, .iaload, .getstatic 1, .iload 1, .iaload, .invokestatic 159, .aload 0, .getfield 324, .aload 0, .getfield 321, .invokevirtual 13, .aload 0, .getfield 321, .getfield 260, .iload 1, .iaload, .istore 3, .aload 0, .getfield 321, .getfield 260, .iload 1, .iload 2, .iastore, .iload 3, .ireturn]) := rfl
theorem k151_0 : xM151.2.2.2.2.2[0]? = some ([0], [.aload 0, .getfield 324, .getfield 65, .ifCond .ne 2, .goto_w 1]) := rfl
theorem k151_1 : xM151.2.2.2.2.2[1]? = some ([], [.checkcast 0]) := rfl
theorem k151_2 : xM151.2.2.2.2.2[2]? = some ([0], [.aload 0, .getfield 324, .aload 0, .getfield 321, .invokevirtual 14, .aload 0, .getfield 324, .getfield 65, .ireturn]) := rfl
theorem k152_0 : xM152.2.2.2.2.2[0]? = some ([0], [.aload 0, .getfield 324, .getfield 65, .ireturn]) := rfl
theorem k153_0 : xM153.2.2.2.2.2[0]? = some ([0, 1], [.aload 0, .invokevirtual 155, .iload 1, .iconst 2, .invokestatic 158, .aload 0, .getfield 324, .iload 1, .aload 0, .getfield 321, .invokevirtual 15, .aload 0, .getfield 321, .getfield 256, .ireturn]) := rfl
theorem k154_0 : xM154.2.2.2.2.2[0]? = some ([0, 1], [.iload 1, .iconst 2, .invokestatic 158, .aload 0, .getfield 324, .getfield 68, .iload 1, .baload, .ifCond .ne 2, .goto_w 1]) := rfl
theorem k154_1 : xM154.2.2.2.2.2[1]? = some ([], [.checkcast 0]) := rfl
theorem k154_2 : xM154.2.2.2.2.2[2]? = some ([0, 1], [.aload 0, .getfield 324, .iload 1, .aload 0, .getfield 321, .invokevirtual 16, .aload 0, .getfield 324, .invokevirtual 11, .aload 0, .getfield 321, .getfield 256, .ireturn]) := rfl
theorem k155_0 : xM155.2.2.2.2.2[0]? = some ([0], [.aload 0, .getfield 327, .ifCond .ne 2, .goto_w 1]) := rfl
theorem k155_1 : xM155.2.2.2.2.2[1]? = some ([], [.checkcast 0]) := rfl
theorem k155_2 : xM155.2.2.2.2.2[2]? = some ([], [.return_]) := rfl
theorem k156_0 : xM156.2.2.2.2.2[0]? = some ([0, 1], [.iload 1, .aload 0, .getfield 321, .getfield 262, .getfield 224, .invokestatic 158, .return_]) := rfl
theorem k157_0 : xM157.2.2.2.2.2[0]? = some ([0, 1], [.iload 1, .aload 0, .getfield 323, .getfield 192, .invokestatic 158, .return_]) := rfl
theorem k158_0 : xM158.2.2.2.2.2[0]? = some ([0, 1], [.iload 0, .ifCond .lt 2, .goto_w 1]) := rfl
theorem k158_1 : xM158.2.2.2.2.2[1]? = some ([0, 1], [.iload 0, .iload 1, .if_icmp .lt 3, .goto_w 2]) := rfl
theorem k158_2 : xM158.2.2.2.2.2[2]? = some ([], [.checkcast 2]) := rfl
theorem k158_3 : xM158.2.2.2.2.2[3]? = some ([], [.return_]) := rfl
theorem k159_0 : xM159.2.2.2.2.2[0]? = some ([0, 1, 2], [.iload 0, .iload 1, .if_icmp .lt 3, .goto_w 1]) := rfl
theorem k159_1 : xM159.2.2.2.2.2[1]? = some ([0, 2], [.iload 0, .iload 2, .if_icmp .gt 3, .goto_w 2]) := rfl
theorem k159_2 : xM159.2.2.2.2.2[2]? = some ([], [.iconst 1, .goto 4]) := rfl
theorem k159_3 : xM159.2.2.2.2.2[3]? = some ([], [.iconst 0, .goto_w 4]) := rfl
theorem k159_4 : xM159.2.2.2.2.2[4]? = some ([], [.invokestatic 160, .return_]) := rfl
theorem k160_0 : xM160.2.2.2.2.2[0]? = some ([0], [.iload 0, .ifCond .ne 2, .goto_w 1]) := rfl
theorem k160_1 : xM160.2.2.2.2.2[1]? = some ([], [.checkcast 1]) := rfl
theorem k160_2 : xM160.2.2.2.2.2[2]? = some ([], [.return_]) := rfl
theorem k161_0 : xM161.2.2.2.2.2[0]? = some ([0, 1], [.aload 0, .getfield 325, .aload 0, .getfield 321, .aload 0, .getfield 323, .iload 1, .invokevirtual 33, .aload 0, .getfield 325, .areturn]) := rfl
theorem k162_0 : xM162.2.2.2.2.2[0]? = some ([0, 1], [.aload 0, .getfield 325, .aload 0, .getfield 322, .aload 0, .getfield 323, .iload 1, .invokevirtual 33, .aload 0, .getfield 325, .areturn]) := rfl
theorem k163_0 : xM163.2.2.2.2.2[0]? = some ([0, 1], [.aload 0, .getfield 322, .aload 0, .getfield 321, .invokevirtual 68, .iconst 0, .istore 2, .goto_w 1]) := rfl
theorem k163_1 : xM163.2.2.2.2.2[1]? = some ([0, 1, 2], [.iload 2, .iload 1, .if_icmp .ge 3, .goto_w 2]) := rfl
theorem k163_2 : xM163.2.2.2.2.2[2]? = some ([0, 1, 2], [.aload 0, .getfield 322, .invokevirtual 70, .iinc 2 1, .goto 1]) := rfl
theorem k163_3 : xM163.2.2.2.2.2[3]? = some ([], [.return_]) := rfl
theorem k164_0 : xM164.2.2.2.2.2[0]? = some ([0, 1], [.iconst 1, .istore 2, .goto_w 1]) := rfl
theorem k164_1 : xM164.2.2.2.2.2[1]? = some ([0, 1, 2], [.iload 2, .iload 1, .if_icmp .gt 5, .goto_w 2]) := rfl
theorem k164_2 : xM164.2.2.2.2.2[2]? = some ([0, 1, 2], [.aload 0, .getfield 322, .invokevirtual 70, .aload 0, .getfield 322, .getfield 258, .aload 0, .getfield 321, .getfield 258, .if_icmp .le 4, .goto_w 3]) := rfl
theorem k164_3 : xM164.2.2.2.2.2[3]? = some ([2], [.iload 2, .ireturn]) := rfl
theorem k164_4 : xM164.2.2.2.2.2[4]? = some ([0, 1, 2], [.iinc 2 1, .goto 1]) := rfl
theorem k164_5 : xM164.2.2.2.2.2[5]? = some ([], [.iconst (-1), .ireturn]) := rfl
theorem k165_0 : xM165.2.2.2.2.2[0]? = some ([0], [.iconst 0, .istore 1, .goto_w 1]) := rfl
theorem k165_1 : xM165.2.2.2.2.2[1]? = some ([0, 1], [.iload 1, .aload 0, .getfield 323, .getfield 192, .if_icmp .ge 6, .goto_w 2]) := rfl
theorem k165_2 : xM165.2.2.2.2.2[2]? = some ([0, 1], [.aload 0, .getfield 321, .getfield 261, .iload 1, .iaload, .iconst (-1), .if_icmp .ne 5, .goto_w 3]) := rfl
theorem k165_3 : xM165.2.2.2.2.2[3]? = some ([0, 1], [.aload 0, .iload 1, .invokevirtual 161, .aload 0, .getfield 323, .iload 1, .invokevirtual 39, .ifCond .eq 5, .goto_w 4]) := rfl
theorem k165_4 : xM165.2.2.2.2.2[4]? = some ([0, 1], [.aload 0, .getfield 321, .getfield 261, .iload 1, .aload 0, .getfield 321, .getfield 256, .iastore, .goto_w 5]) := rfl
theorem k165_5 : xM165.2.2.2.2.2[5]? = some ([0, 1], [.iinc 1 1, .goto 1]) := rfl
theorem k165_6 : xM165.2.2.2.2.2[6]? = some ([], [.return_]) := rfl
theorem k166_0 : xM166.2.2.2.2.2[0]? = some ([0], [.iconst 0, .istore 1, .iconst 0, .istore 2, .goto_w 1]) := rfl
theorem k166_1 : xM166.2.2.2.2.2[1]? = some ([0, 1, 2], [.iload 2, .aload 0, .getfield 323, .getfield 192, .if_icmp .ge 5, .goto_w 2]) := rfl
theorem k166_2 : xM166.2.2.2.2.2[2]? = some ([0, 1, 2], [.aload 0, .getfield 321, .getfield 261, .iload 2, .iaload, .iconst (-1), .if_icmp .eq 4, .goto_w 3]) := rfl
theorem k166_3 : xM166.2.2.2.2.2[3]? = some ([0, 1, 2], [.iload 1, .iconst 1, .iload 2, .ishl, .ior, .istore 1, .goto_w 4]) := rfl
theorem k166_4 : xM166.2.2.2.2.2[4]? = some ([0, 1, 2], [.iinc 2 1, .goto 1]) := rfl
theorem k166_5 : xM166.2.2.2.2.2[5]? = some ([1], [.iload 1, .ireturn]) := rfl
theorem k167_0 : xM167.2.2.2.2.2[0]? = some ([0], [.iconst 0, .istore 1, .iconst 0, .istore 2, .goto_w 1]) := rfl
theorem k167_1 : xM167.2.2.2.2.2[1]? = some ([0, 1, 2], [.iload 2, .aload 0, .getfield 323, .getfield 192, .if_icmp .ge 5, .goto_w 2]) := rfl
theorem k167_2 : xM167.2.2.2.2.2[2]? = some ([0, 1, 2], [.aload 0, .iload 2, .invokevirtual 169, .ifCond .eq 4, .goto_w 3]) := rfl
theorem k167_3 : xM167.2.2.2.2.2[3]? = some ([0, 1, 2], [.iinc 1 1, .goto_w 4]) := rfl
theorem k167_4 : xM167.2.2.2.2.2[4]? = some ([0, 1, 2], [.iinc 2 1, .goto 1]) := rfl
theorem k167_5 : xM167.2.2.2.2.2[5]? = some ([1], [.iload 1, .ireturn]) := rfl
theorem k168_0 : xM168.2.2.2.2.2[0]? = some ([0, 1], [.iconst 0, .istore 2, .iconst 0, .istore 3, .goto_w 1]) := rfl
theorem k168_1 : xM168.2.2.2.2.2[1]? = some ([0, 1, 2, 3], [.iload 3, .aload 0, .getfield 323, .getfield 192, .if_icmp .ge 5, .goto_w 2]) := rfl
theorem k168_2 : xM168.2.2.2.2.2[2]? = some ([0, 1, 2, 3], [.aload 0, .getfield 321, .iload 1, .aload 0, .getfield 323, .getfield 194, .iload 3, .iaload, .invokevirtual 79, .ifCond .eq 4, .goto_w 3]) := rfl
theorem k168_3 : xM168.2.2.2.2.2[3]? = some ([0, 1, 2, 3], [.iinc 2 1, .goto_w 4]) := rfl
theorem k168_4 : xM168.2.2.2.2.2[4]? = some ([0, 1, 2, 3], [.iinc 3 1, .goto 1]) := rfl
theorem k168_5 : xM168.2.2.2.2.2[5]? = some ([2], [.iload 2, .ireturn]) := rfl
theorem k169_0 : xM169.2.2.2.2.2[0]? = some ([0, 1], [.iconst 0, .istore 2, .iconst 0, .istore 3, .goto_w 1]) := rfl
theorem k169_1 : xM169.2.2.2.2.2[1]? = some ([0, 1, 2, 3], [.iload 3, .aload 0, .getfield 321, .getfield 262, .getfield 224, .if_icmp .ge 5, .goto_w 2]) := rfl
theorem k169_2 : xM169.2.2.2.2.2[2]? = some ([0, 1, 2, 3], [.aload 0, .getfield 321, .iload 3, .aload 0, .getfield 323, .getfield 194, .iload 1, .iaload, .invokevirtual 79, .ifCond .eq 4, .goto_w 3]) := rfl
theorem k169_3 : xM169.2.2.2.2.2[3]? = some ([0, 1, 2, 3], [.iload 2, .iconst 1, .iload 3, .ishl, .ior, .istore 2, .goto_w 4]) := rfl
theorem k169_4 : xM169.2.2.2.2.2[4]? = some ([0, 1, 2, 3], [.iinc 3 1, .goto 1]) := rfl
theorem k169_5 : xM169.2.2.2.2.2[5]? = some ([2], [.iload 2, .ireturn]) := rfl
theorem k170_0 : xM170.2.2.2.2.2[0]? = some ([0], [.fload 0, .fconst 0, .fcmp .g, .ifCond .gt 2, .goto_w 1]) := rfl
theorem k170_1 : xM170.2.2.2.2.2[1]? = some ([], [.iconst 0, .ireturn]) := rfl
theorem k170_2 : xM170.2.2.2.2.2[2]? = some ([0], [.iconst 127, .istore 1, .fload 0, .fstore 2, .iconst 0, .istore 3, .goto_w 3]) := rfl
theorem k170_3 : xM170.2.2.2.2.2[3]? = some ([1, 2, 3], [.iload 3, .iconst 60, .if_icmp .ge 6, .goto_w 4]) := rfl
theorem k170_4 : xM170.2.2.2.2.2[4]? = some ([1, 2, 3], [.fload 2, .fconst 1, .fcmp .g, .ifCond .ge 6, .goto_w 5]) := rfl
theorem k170_5 : xM170.2.2.2.2.2[5]? = some ([1, 2, 3], [.fload 2, .fconst 2, .fmul, .fstore 2, .iinc 1 (-1), .iinc 3 1, .goto 3]) := rfl
theorem k170_6 : xM170.2.2.2.2.2[6]? = some ([1, 2], [.iload 1, .iconst 23, .ishl, .fload 2, .fconst 1, .fsub, .ldc_w 1258291200, .fmul, .f2i, .iadd, .ireturn]) := rfl
theorem k171_0 : xM171.2.2.2.2.2[0]? = some ([0], [.dload 0, .dconst 0, .dcmp .g, .ifCond .gt 2, .goto_w 1]) := rfl
theorem k171_1 : xM171.2.2.2.2.2[1]? = some ([], [.lconst 0, .lreturn]) := rfl
theorem k171_2 : xM171.2.2.2.2.2[2]? = some ([0], [.jsr 1023, .lstore 2, .dload 0, .dstore 4, .iconst 0, .istore 6, .goto_w 3]) := rfl
theorem k171_3 : xM171.2.2.2.2.2[3]? = some ([2, 4, 6], [.iload 6, .iconst 60, .if_icmp .ge 6, .goto_w 4]) := rfl
theorem k171_4 : xM171.2.2.2.2.2[4]? = some ([2, 4, 6], [.dload 4, .dconst 1, .dcmp .g, .ifCond .ge 6, .goto_w 5]) := rfl
theorem k171_5 : xM171.2.2.2.2.2[5]? = some ([2, 4, 6], [.dload 4, .ldc2_w 4611686018427387904, .dmul, .dstore 4, .lload 2, .lconst 1, .lsub, .lstore 2, .iinc 6 1, .goto 3]) := rfl
theorem k171_6 : xM171.2.2.2.2.2[6]? = some ([2, 4], [.iconst 0, .istore 6, .goto_w 7]) := rfl
theorem k171_7 : xM171.2.2.2.2.2[7]? = some ([2, 4, 6], [.iload 6, .iconst 60, .if_icmp .ge 10, .goto_w 8]) := rfl
theorem k171_8 : xM171.2.2.2.2.2[8]? = some ([2, 4, 6], [.dload 4, .ldc2_w 4611686018427387904, .dcmp .l, .ifCond .lt 10, .goto_w 9]) := rfl
theorem k171_9 : xM171.2.2.2.2.2[9]? = some ([2, 4, 6], [.dload 4, .ldc2_w 4611686018427387904, .ddiv, .dstore 4, .lload 2, .lconst 1, .ladd, .lstore 2, .iinc 6 1, .goto 7]) := rfl
theorem k171_10 : xM171.2.2.2.2.2[10]? = some ([2, 4], [.lload 2, .iconst 52, .lshl, .dload 4, .dconst 1, .dsub, .ldc2_w 4841369599423283200, .dmul, .d2l, .ladd, .lreturn]) := rfl
theorem k172_0 : xM172.2.2.2.2.2[0]? = some ([0, 1], [.iconst 0, .istore 2, .goto_w 1]) := rfl
theorem k172_1 : xM172.2.2.2.2.2[1]? = some ([0, 1, 2], [.iload 2, .aload 1, .arraylength, .if_icmp .ge 4, .goto_w 2]) := rfl
theorem k172_2 : xM172.2.2.2.2.2[2]? = some ([0, 1, 2], [.iload 2, .aload 0, .arraylength, .if_icmp .ge 4, .goto_w 3]) := rfl
theorem k172_3 : xM172.2.2.2.2.2[3]? = some ([0, 1, 2], [.aload 1, .iload 2, .aload 0, .iload 2, .iaload, .iastore, .iinc 2 1, .goto 1]) := rfl
theorem k172_4 : xM172.2.2.2.2.2[4]? = some ([], [.return_]) := rfl
theorem k174_0 : xM174.2.2.2.2.2[0]? = some ([0], [.aload 0, .getfield 352, .ireturn]) := rfl
theorem k175_0 : xM175.2.2.2.2.2[0]? = some ([0, 1, 2], [.iload 0, .iload 1, .if_icmp .lt 3, .goto_w 1]) := rfl
theorem k175_1 : xM175.2.2.2.2.2[1]? = some ([0, 2], [.iload 0, .iload 2, .if_icmp .gt 3, .goto_w 2]) := rfl
theorem k175_2 : xM175.2.2.2.2.2[2]? = some ([], [.iconst 1, .goto 4]) := rfl
theorem k175_3 : xM175.2.2.2.2.2[3]? = some ([], [.iconst 0, .goto_w 4]) := rfl
theorem k175_4 : xM175.2.2.2.2.2[4]? = some ([], [.ireturn]) := rfl
theorem k176_0 : xM176.2.2.2.2.2[0]? = some ([0, 1, 2, 3], [.aload 0, .iload 1, .ifCond .ne 2, .goto_w 1]) := rfl
theorem k176_1 : xM176.2.2.2.2.2[1]? = some ([0], [.iconst 1, .goto 7]) := rfl
theorem k176_2 : xM176.2.2.2.2.2[2]? = some ([0, 2, 3], [.iload 2, .ifCond .ne 4, .goto_w 3]) := rfl
theorem k176_3 : xM176.2.2.2.2.2[3]? = some ([0], [.iconst 2, .goto 7]) := rfl
theorem k176_4 : xM176.2.2.2.2.2[4]? = some ([0, 3], [.iload 3, .ifCond .eq 6, .goto_w 5]) := rfl
theorem k176_5 : xM176.2.2.2.2.2[5]? = some ([0], [.iconst 0, .goto 7]) := rfl
theorem k176_6 : xM176.2.2.2.2.2[6]? = some ([0], [.iconst 3, .goto_w 7]) := rfl
theorem k176_7 : xM176.2.2.2.2.2[7]? = some ([0], [.putfield 352, .aload 0, .getfield 352, .ifCond .ne 9, .goto_w 8]) := rfl
theorem k176_8 : xM176.2.2.2.2.2[8]? = some ([], [.iconst 1, .goto 10]) := rfl
theorem k176_9 : xM176.2.2.2.2.2[9]? = some ([], [.iconst 0, .goto_w 10]) := rfl
theorem k176_10 : xM176.2.2.2.2.2[10]? = some ([], [.ireturn]) := rfl
theorem k177_0 : xM177.2.2.2.2.2[0]? = some ([0, 1, 2], [.aload 0, .iload 1, .iload 2, .iconst 1, .invokevirtual 176, .ireturn]) := rfl
theorem k178_0 : xM178.2.2.2.2.2[0]? = some ([0, 1, 2, 3], [.iconst 0, .istore 4, .goto_w 1]) := rfl
theorem k178_1 : xM178.2.2.2.2.2[1]? = some ([0, 1, 2, 3, 4], [.iload 4, .iconst 243, .if_icmp .ge 3, .goto_w 2]) := rfl
theorem k178_2 : xM178.2.2.2.2.2[2]? = some ([0, 1, 2, 3, 4], [.aload 2, .iload 3, .iload 4, .iadd, .aload 0, .iload 1, .iload 4, .iadd, .iaload, .iastore, .iinc 4 1, .goto 1]) := rfl
theorem k178_3 : xM178.2.2.2.2.2[3]? = some ([], [.return_]) := rfl
theorem k179_0 : xM179.2.2.2.2.2[0]? = some ([0, 1, 2, 3, 4, 5], [.aload 0, .iconst 0, .putfield 352, .aload 0, .getfield 361, .iconst 680, .if_icmp .le 2, .goto_w 1]) := rfl
theorem k179_1 : xM179.2.2.2.2.2[1]? = some ([], [.iconst (-1), .ireturn]) := rfl
theorem k179_2 : xM179.2.2.2.2.2[2]? = some ([0, 1, 2, 3, 4, 5], [.aload 0, .iload 1, .invokevirtual 180, .aload 0, .iload 2, .invokevirtual 180, .aload 0, .iload 3, .invokevirtual 180, .aload 0, .iload 4, .invokevirtual 180, .aload 0, .iload 5, .invokevirtual 180, .aload 0, .getfield 361, .ireturn]) := rfl
theorem k180_0 : xM180.2.2.2.2.2[0]? = some ([0, 1], [.iconst 3, .istore 2, .goto_w 1]) := rfl
theorem k180_1 : xM180.2.2.2.2.2[1]? = some ([0, 1, 2], [.iload 2, .ifCond .lt 3, .goto_w 2]) := rfl
theorem k180_2 : xM180.2.2.2.2.2[2]? = some ([0, 1, 2], [.aload 0, .getfield 360, .aload 0, .getfield 361, .iload 1, .iconst 8, .iload 2, .imul, .ishr, .i2b, .bastore, .aload 0, .dup, .getfield 361, .iconst 1, .iadd, .putfield 361, .iinc 2 (-1), .goto 1]) := rfl
theorem k180_3 : xM180.2.2.2.2.2[3]? = some ([], [.return_]) := rfl
theorem k181_0 : xM181.2.2.2.2.2[0]? = some ([0], [.aload 0, .iconst 0, .putfield 352, .aload 0, .getfield 362, .ireturn]) := rfl
theorem k182_0 : xM182.2.2.2.2.2[0]? = some ([0], [.aload 0, .iconst 0, .putfield 352, .aload 0, .getfield 363, .ireturn]) := rfl
theorem k183_0 : xM183.2.2.2.2.2[0]? = some ([0], [.aload 0, .iconst 0, .putfield 352, .aload 0, .getfield 361, .ireturn]) := rfl
theorem k184_0 : xM184.2.2.2.2.2[0]? = some ([0, 1], [.iload 1, .aload 0, .getfield 364, .if_icmp .ge 3, .goto_w 1]) := rfl
theorem k184_1 : xM184.2.2.2.2.2[1]? = some ([0, 1], [.aload 0, .getfield 360, .iload 1, .baload, .iconst 97, .iconst 122, .invokestatic 175, .ifCond .eq 3, .goto_w 2]) := rfl
theorem k184_2 : xM184.2.2.2.2.2[2]? = some ([], [.iconst 1, .goto 4]) := rfl
theorem k184_3 : xM184.2.2.2.2.2[3]? = some ([], [.iconst 0, .goto_w 4]) := rfl
theorem k184_4 : xM184.2.2.2.2.2[4]? = some ([], [.ireturn]) := rfl
theorem k185_0 : xM185.2.2.2.2.2[0]? = some ([0, 1], [.iload 1, .aload 0, .getfield 364, .if_icmp .ge 3, .goto_w 1]) := rfl
theorem k185_1 : xM185.2.2.2.2.2[1]? = some ([0, 1], [.aload 0, .getfield 360, .iload 1, .baload, .iconst 48, .iconst 57, .invokestatic 175, .ifCond .eq 3, .goto_w 2]) := rfl
theorem k185_2 : xM185.2.2.2.2.2[2]? = some ([], [.iconst 1, .goto 4]) := rfl
theorem k185_3 : xM185.2.2.2.2.2[3]? = some ([], [.iconst 0, .goto_w 4]) := rfl
theorem k185_4 : xM185.2.2.2.2.2[4]? = some ([], [.ireturn]) := rfl
theorem k186_0 : xM186.2.2.2.2.2[0]? = some ([0], [.aload 0, .getfield 362, .ifCond .le 2, .goto_w 1]) := rfl
theorem k186_1 : xM186.2.2.2.2.2[1]? = some ([], [.return_]) := rfl
theorem k186_2 : xM186.2.2.2.2.2[2]? = some ([0], [.aload 0, .getfield 365, .aload 0, .getfield 364, .if_icmp .ge 5, .goto_w 3]) := rfl
theorem k186_3 : xM186.2.2.2.2.2[3]? = some ([0], [.aload 0, .getfield 360, .aload 0, .getfield 365, .baload, .iconst 32, .if_icmp .ne 5, .goto_w 4]) := rfl
theorem k186_4 : xM186.2.2.2.2.2[4]? = some ([0], [.aload 0, .dup, .getfield 365, .iconst 1, .iadd, .putfield 365, .goto 2]) := rfl
theorem k186_5 : xM186.2.2.2.2.2[5]? = some ([0], [.aload 0, .aload 0, .getfield 365, .putfield 366, .aload 0, .aload 0, .getfield 365, .aload 0, .getfield 364, .if_icmp .ne 7, .goto_w 6]) := rfl
theorem k186_6 : xM186.2.2.2.2.2[6]? = some ([0], [.iconst 1, .goto 8]) := rfl
theorem k186_7 : xM186.2.2.2.2.2[7]? = some ([0], [.iconst 0, .goto_w 8]) := rfl
theorem k186_8 : xM186.2.2.2.2.2[8]? = some ([0], [.putfield 367, .aload 0, .getfield 367, .iconst 1, .if_icmp .ne 10, .goto_w 9]) := rfl
theorem k186_9 : xM186.2.2.2.2.2[9]? = some ([], [.return_]) := rfl
theorem k186_10 : xM186.2.2.2.2.2[10]? = some ([0], [.aload 0, .aload 0, .getfield 365, .invokevirtual 184, .ifCond .eq 17, .goto_w 11]) := rfl
theorem k186_11 : xM186.2.2.2.2.2[11]? = some ([0], [.aload 0, .aload 0, .getfield 365, .invokevirtual 184, .ifCond .eq 13, .goto_w 12]) := rfl
theorem k186_12 : xM186.2.2.2.2.2[12]? = some ([0], [.aload 0, .dup, .getfield 365, .iconst 1, .iadd, .putfield 365, .goto 11]) := rfl
theorem k186_13 : xM186.2.2.2.2.2[13]? = some ([0], [.aload 0, .aload 0, .getfield 365, .aload 0, .getfield 366, .isub, .iconst 8, .if_icmp .gt 15, .goto_w 14]) := rfl
theorem k186_14 : xM186.2.2.2.2.2[14]? = some ([], [.iconst 2, .goto 16]) := rfl
theorem k186_15 : xM186.2.2.2.2.2[15]? = some ([], [.iconst 0, .goto_w 16]) := rfl
theorem k186_16 : xM186.2.2.2.2.2[16]? = some ([], [.putfield 367, .return_]) := rfl
theorem k186_17 : xM186.2.2.2.2.2[17]? = some ([0], [.aload 0, .aload 0, .getfield 365, .invokevirtual 185, .ifCond .eq 27, .goto_w 18]) := rfl
theorem k186_18 : xM186.2.2.2.2.2[18]? = some ([0], [.aload 0, .iconst 0, .putfield 368, .goto_w 19]) := rfl
theorem k186_19 : xM186.2.2.2.2.2[19]? = some ([0], [.aload 0, .aload 0, .getfield 365, .invokevirtual 185, .ifCond .eq 23, .goto_w 20]) := rfl
theorem k186_20 : xM186.2.2.2.2.2[20]? = some ([0], [.aload 0, .getfield 365, .aload 0, .getfield 366, .isub, .iconst 4, .if_icmp .ge 22, .goto_w 21]) := rfl
theorem k186_21 : xM186.2.2.2.2.2[21]? = some ([0], [.aload 0, .iconst 10, .aload 0, .getfield 368, .imul, .aload 0, .getfield 360, .aload 0, .getfield 365, .baload, .iadd, .iconst 48, .isub, .putfield 368, .goto_w 22]) := rfl
theorem k186_22 : xM186.2.2.2.2.2[22]? = some ([0], [.aload 0, .dup, .getfield 365, .iconst 1, .iadd, .putfield 365, .goto 19]) := rfl
theorem k186_23 : xM186.2.2.2.2.2[23]? = some ([0], [.aload 0, .aload 0, .getfield 365, .aload 0, .getfield 366, .isub, .iconst 4, .if_icmp .gt 25, .goto_w 24]) := rfl
theorem k186_24 : xM186.2.2.2.2.2[24]? = some ([], [.iconst 3, .goto 26]) := rfl
theorem k186_25 : xM186.2.2.2.2.2[25]? = some ([], [.iconst 0, .goto_w 26]) := rfl
theorem k186_26 : xM186.2.2.2.2.2[26]? = some ([], [.putfield 367, .return_]) := rfl
theorem k186_27 : xM186.2.2.2.2.2[27]? = some ([0], [.aload 0, .getfield 360, .aload 0, .getfield 365, .baload, .iconst 59, .if_icmp .ne 29, .goto_w 28]) := rfl
theorem k186_28 : xM186.2.2.2.2.2[28]? = some ([0], [.aload 0, .iconst 4, .putfield 367, .goto_w 29]) := rfl
theorem k186_29 : xM186.2.2.2.2.2[29]? = some ([0], [.aload 0, .dup, .getfield 365, .iconst 1, .iadd, .putfield 365, .return_]) := rfl
theorem k187_0 : xM187.2.2.2.2.2[0]? = some ([0, 1], [.aload 0, .getfield 362, .ifCond .le 2, .goto_w 1]) := rfl
theorem k187_1 : xM187.2.2.2.2.2[1]? = some ([], [.return_]) := rfl
theorem k187_2 : xM187.2.2.2.2.2[2]? = some ([0, 1], [.aload 0, .iload 1, .putfield 362, .aload 0, .aload 0, .getfield 366, .putfield 363, .return_]) := rfl
theorem k188_0 : xM188.2.2.2.2.2[0]? = some ([0, 1], [.aload 0, .getfield 362, .ifCond .ne 3, .goto_w 1]) := rfl
theorem k188_1 : xM188.2.2.2.2.2[1]? = some ([0, 1], [.aload 0, .getfield 367, .iload 1, .if_icmp .ne 3, .goto_w 2]) := rfl
theorem k188_2 : xM188.2.2.2.2.2[2]? = some ([], [.iconst 1, .goto 4]) := rfl
theorem k188_3 : xM188.2.2.2.2.2[3]? = some ([], [.iconst 0, .goto_w 4]) := rfl
theorem k188_4 : xM188.2.2.2.2.2[4]? = some ([], [.ireturn]) := rfl
theorem k189_0 : xM189.2.2.2.2.2[0]? = some ([0, 1], [.aload 0, .iconst 2, .invokevirtual 188, .ifCond .eq 2, .goto_w 1]) := rfl
theorem k189_1 : xM189.2.2.2.2.2[1]? = some ([0, 1], [.aload 0, .getfield 365, .aload 0, .getfield 366, .isub, .aload 1, .invokevirtual 391, .if_icmp .eq 3, .goto_w 2]) := rfl
theorem k189_2 : xM189.2.2.2.2.2[2]? = some ([], [.iconst 0, .ireturn]) := rfl
theorem k189_3 : xM189.2.2.2.2.2[3]? = some ([0, 1], [.iconst 0, .istore 2, .goto_w 4]) := rfl
theorem k189_4 : xM189.2.2.2.2.2[4]? = some ([0, 1, 2], [.iload 2, .aload 1, .invokevirtual 391, .if_icmp .ge 8, .goto_w 5]) := rfl
theorem k189_5 : xM189.2.2.2.2.2[5]? = some ([0, 1, 2], [.aload 0, .getfield 360, .aload 0, .getfield 366, .iload 2, .iadd, .baload, .aload 1, .iload 2, .invokevirtual 392, .if_icmp .eq 7, .goto_w 6]) := rfl
theorem k189_6 : xM189.2.2.2.2.2[6]? = some ([], [.iconst 0, .ireturn]) := rfl
theorem k189_7 : xM189.2.2.2.2.2[7]? = some ([0, 1, 2], [.iinc 2 1, .goto 4]) := rfl
theorem k189_8 : xM189.2.2.2.2.2[8]? = some ([], [.iconst 1, .ireturn]) := rfl
theorem k190_0 : xM190.2.2.2.2.2[0]? = some ([0, 1], [.aload 0, .aload 1, .invokevirtual 189, .ifCond .ne 2, .goto_w 1]) := rfl
theorem k190_1 : xM190.2.2.2.2.2[1]? = some ([0], [.aload 0, .iconst 1, .invokevirtual 187, .goto_w 2]) := rfl
theorem k190_2 : xM190.2.2.2.2.2[2]? = some ([0], [.aload 0, .invokevirtual 186, .return_]) := rfl
theorem k191_0 : xM191.2.2.2.2.2[0]? = some ([0, 1, 2], [.aload 0, .iconst 3, .invokevirtual 188, .ifCond .ne 2, .goto_w 1]) := rfl
theorem k191_1 : xM191.2.2.2.2.2[1]? = some ([0, 1], [.aload 0, .iconst 1, .invokevirtual 187, .goto 4]) := rfl
theorem k191_2 : xM191.2.2.2.2.2[2]? = some ([0, 1, 2], [.aload 0, .getfield 368, .iload 1, .iload 2, .invokestatic 175, .ifCond .ne 4, .goto_w 3]) := rfl
theorem k191_3 : xM191.2.2.2.2.2[3]? = some ([0, 1], [.aload 0, .iconst 2, .invokevirtual 187, .goto_w 4]) := rfl
theorem k191_4 : xM191.2.2.2.2.2[4]? = some ([0, 1], [.aload 0, .getfield 368, .istore 3, .aload 0, .invokevirtual 186, .aload 0, .getfield 362, .ifCond .le 6, .goto_w 5]) := rfl
theorem k191_5 : xM191.2.2.2.2.2[5]? = some ([1], [.iload 1, .goto 7]) := rfl
theorem k191_6 : xM191.2.2.2.2.2[6]? = some ([3], [.iload 3, .goto_w 7]) := rfl
theorem k191_7 : xM191.2.2.2.2.2[7]? = some ([], [.ireturn]) := rfl
theorem k192_0 : xM192.2.2.2.2.2[0]? = some ([0], [.iload 0, .ifCond .eq 3, .goto_w 1]) := rfl
theorem k192_1 : xM192.2.2.2.2.2[1]? = some ([0], [.iload 0, .iconst 2, .if_icmp .eq 3, .goto_w 2]) := rfl
theorem k192_2 : xM192.2.2.2.2.2[2]? = some ([0], [.iload 0, .iconst 4, .if_icmp .ne 4, .goto_w 3]) := rfl
theorem k192_3 : xM192.2.2.2.2.2[3]? = some ([], [.iconst 1, .goto 5]) := rfl
theorem k192_4 : xM192.2.2.2.2.2[4]? = some ([], [.iconst 0, .goto_w 5]) := rfl
theorem k192_5 : xM192.2.2.2.2.2[5]? = some ([], [.ireturn]) := rfl
theorem k193_0 : xM193.2.2.2.2.2[0]? = some ([0], [.iload 0, .tableswitch 4 0 4 #[1, 4, 4, 2, 3]]) := rfl
theorem k193_1 : xM193.2.2.2.2.2[1]? = some ([], [.iconst 999, .ireturn]) := rfl
theorem k193_2 : xM193.2.2.2.2.2[2]? = some ([], [.iconst 50, .ireturn]) := rfl
theorem k193_3 : xM193.2.2.2.2.2[3]? = some ([], [.iconst 100, .ireturn]) := rfl
theorem k193_4 : xM193.2.2.2.2.2[4]? = some ([], [.iconst 9999, .ireturn]) := rfl
theorem k194_0 : xM194.2.2.2.2.2[0]? = some ([0, 1, 2], [.aload 0, .getfield 353, .iload 1, .iaload, .iload 2, .if_icmp .ne 2, .goto_w 1]) := rfl
theorem k194_1 : xM194.2.2.2.2.2[1]? = some ([0], [.aload 0, .iconst 4, .invokevirtual 187, .goto_w 2]) := rfl
theorem k194_2 : xM194.2.2.2.2.2[2]? = some ([0], [.aload 0, .invokevirtual 186, .aload 0, .getfield 362, .ifCond .ne 4, .goto_w 3]) := rfl
theorem k194_3 : xM194.2.2.2.2.2[3]? = some ([], [.iconst 1, .goto 5]) := rfl
theorem k194_4 : xM194.2.2.2.2.2[4]? = some ([], [.iconst 0, .goto_w 5]) := rfl
theorem k194_5 : xM194.2.2.2.2.2[5]? = some ([], [.ireturn]) := rfl
theorem k195_0 : xM195.2.2.2.2.2[0]? = some ([0], [.aload 0, .iconst 2, .invokevirtual 188, .ifCond .eq 2, .goto_w 1]) := rfl
theorem k195_1 : xM195.2.2.2.2.2[1]? = some ([0], [.aload 0, .getfield 365, .aload 0, .getfield 366, .isub, .iconst 1, .if_icmp .eq 3, .goto_w 2]) := rfl
theorem k195_2 : xM195.2.2.2.2.2[2]? = some ([0], [.aload 0, .iconst 1, .invokevirtual 187, .goto_w 3]) := rfl
theorem k195_3 : xM195.2.2.2.2.2[3]? = some ([0], [.aload 0, .getfield 362, .ifCond .le 5, .goto_w 4]) := rfl
theorem k195_4 : xM195.2.2.2.2.2[4]? = some ([0], [.iconst 1, .goto 6]) := rfl
theorem k195_5 : xM195.2.2.2.2.2[5]? = some ([0], [.aload 0, .getfield 360, .aload 0, .getfield 366, .baload, .iconst 97, .isub, .iconst 1, .iadd, .goto_w 6]) := rfl
theorem k195_6 : xM195.2.2.2.2.2[6]? = some ([0], [.istore 1, .aload 0, .invokevirtual 186, .iload 1, .ireturn]) := rfl
theorem k196_0 : xM196.2.2.2.2.2[0]? = some ([0], [.aload 0, .iconst 6, .iconst 12, .invokevirtual 194, .ifCond .ne 2, .goto_w 1]) := rfl
theorem k196_1 : xM196.2.2.2.2.2[1]? = some ([], [.return_]) := rfl
theorem k196_2 : xM196.2.2.2.2.2[2]? = some ([0], [.aload 0, .getfield 353, .iconst 6, .iaload, .istore 1, .aload 0, .invokevirtual 195, .istore 2, .aload 0, .iload 1, .iconst 6, .iload 2, .invokevirtual 203, .aload 0, .iload 1, .iconst 0, .iload 2, .invokevirtual 203, .aload 0, .iload 1, .iconst 2, .aload 0, .iconst 1, .iconst 200, .invokevirtual 191, .invokevirtual 203, .aload 0, .iload 1, .iconst 3, .aload 0, .iconst 0, .iconst 20, .invokevirtual 191, .invokevirtual 203, .aload 0, .iload 1, .iconst 4, .iconst 100, .invokevirtual 203, .aload 0, .iload 1, .iconst 1, .aload 0, .getfield 353, .iconst 0, .iaload, .ineg, .iload 1, .imul, .invokevirtual 203, .aload 0, .getfield 353, .iconst 6, .dup2, .iaload, .iconst 1, .iadd, .iastore, .return_]) := rfl
theorem k197_0 : xM197.2.2.2.2.2[0]? = some ([0], [.aload 0, .iconst 7, .iconst 6, .invokevirtual 194, .ifCond .ne 2, .goto_w 1]) := rfl
theorem k197_1 : xM197.2.2.2.2.2[1]? = some ([], [.return_]) := rfl
theorem k197_2 : xM197.2.2.2.2.2[2]? = some ([0], [.aload 0, .getfield 353, .iconst 7, .iaload, .istore 1, .aload 0, .ldc 15, .invokevirtual 189, .istore 2, .iload 2, .ifCond .ne 5, .goto_w 3]) := rfl
theorem k197_3 : xM197.2.2.2.2.2[3]? = some ([0, 1, 2], [.aload 0, .ldc 16, .invokevirtual 189, .ifCond .ne 5, .goto_w 4]) := rfl
theorem k197_4 : xM197.2.2.2.2.2[4]? = some ([0, 1, 2], [.aload 0, .iconst 1, .invokevirtual 187, .goto_w 5]) := rfl
theorem k197_5 : xM197.2.2.2.2.2[5]? = some ([0, 1, 2], [.aload 0, .invokevirtual 186, .aload 0, .iload 1, .iconst 0, .iload 2, .ifCond .eq 7, .goto_w 6]) := rfl
theorem k197_6 : xM197.2.2.2.2.2[6]? = some ([0, 1], [.iconst 1, .goto 8]) := rfl
theorem k197_7 : xM197.2.2.2.2.2[7]? = some ([0, 1], [.iconst 0, .goto_w 8]) := rfl
theorem k197_8 : xM197.2.2.2.2.2[8]? = some ([0, 1], [.invokevirtual 205, .aload 0, .iload 1, .iconst 1, .aload 0, .iconst 0, .iconst 9999, .invokevirtual 191, .invokevirtual 205, .aload 0, .iload 1, .iconst 3, .iconst (-1), .invokevirtual 205, .aload 0, .iconst 2, .invokevirtual 188, .ifCond .ne 10, .goto_w 9]) := rfl
theorem k197_9 : xM197.2.2.2.2.2[9]? = some ([0, 1], [.aload 0, .iconst 1, .invokevirtual 187, .goto_w 10]) := rfl
theorem k197_10 : xM197.2.2.2.2.2[10]? = some ([0, 1], [.aload 0, .getfield 362, .ifCond .le 12, .goto_w 11]) := rfl
theorem k197_11 : xM197.2.2.2.2.2[11]? = some ([], [.return_]) := rfl
theorem k197_12 : xM197.2.2.2.2.2[12]? = some ([0, 1], [.aload 0, .iload 1, .iconst 2, .aload 0, .getfield 365, .aload 0, .getfield 366, .isub, .invokevirtual 205, .aload 0, .getfield 366, .istore 3, .goto_w 13]) := rfl
theorem k197_13 : xM197.2.2.2.2.2[13]? = some ([0, 1, 3], [.iload 3, .aload 0, .getfield 365, .if_icmp .ge 15, .goto_w 14]) := rfl
theorem k197_14 : xM197.2.2.2.2.2[14]? = some ([0, 1, 3], [.aload 0, .iload 1, .iconst 4, .iload 3, .iadd, .aload 0, .getfield 366, .isub, .aload 0, .getfield 360, .iload 3, .baload, .invokevirtual 205, .iinc 3 1, .goto 13]) := rfl
theorem k197_15 : xM197.2.2.2.2.2[15]? = some ([0], [.aload 0, .invokevirtual 186, .aload 0, .getfield 353, .iconst 7, .dup2, .iaload, .iconst 1, .iadd, .iastore, .return_]) := rfl
theorem k198_0 : xM198.2.2.2.2.2[0]? = some ([0], [.aload 0, .iconst 8, .iconst 12, .invokevirtual 194, .ifCond .ne 2, .goto_w 1]) := rfl
theorem k198_1 : xM198.2.2.2.2.2[1]? = some ([], [.return_]) := rfl
theorem k198_2 : xM198.2.2.2.2.2[2]? = some ([0], [.aload 0, .iconst 1, .iconst 5000, .invokevirtual 191, .istore 1, .aload 0, .iconst 0, .aload 0, .getfield 353, .iconst 6, .iaload, .iconst 2, .isub, .invokevirtual 191, .istore 2, .aload 0, .iload 1, .iload 2, .invokevirtual 199, .return_]) := rfl
theorem k199_0 : xM199.2.2.2.2.2[0]? = some ([0, 1, 2], [.iconst 171, .iconst 3, .aload 0, .getfield 353, .iconst 8, .iaload, .imul, .iadd, .istore 3, .aload 0, .getfield 353, .iload 3, .iload 1, .iastore, .aload 0, .getfield 353, .iload 3, .iconst 1, .iadd, .iload 2, .iastore, .aload 0, .getfield 353, .iload 3, .iconst 2, .iadd, .iconst 0, .iastore, .aload 0, .getfield 353, .iconst 8, .dup2, .iaload, .iconst 1, .iadd, .iastore, .return_]) := rfl
theorem k200_0 : xM200.2.2.2.2.2[0]? = some ([0], [.aload 0, .invokevirtual 186, .aload 0, .ldc 12, .invokevirtual 190, .iconst 0, .istore 1, .goto_w 1]) := rfl
theorem k200_1 : xM200.2.2.2.2.2[1]? = some ([0, 1], [.iload 1, .iconst 6, .if_icmp .ge 3, .goto_w 2]) := rfl
theorem k200_2 : xM200.2.2.2.2.2[2]? = some ([0, 1], [.aload 0, .getfield 353, .iload 1, .aload 0, .iload 1, .invokestatic 192, .iload 1, .invokestatic 193, .invokevirtual 191, .iastore, .iinc 1 1, .goto 1]) := rfl
theorem k200_3 : xM200.2.2.2.2.2[3]? = some ([0], [.aload 0, .iconst 4, .invokevirtual 188, .ifCond .eq 11, .goto_w 4]) := rfl
theorem k200_4 : xM200.2.2.2.2.2[4]? = some ([0], [.aload 0, .invokevirtual 186, .aload 0, .ldc 13, .invokevirtual 189, .ifCond .eq 6, .goto_w 5]) := rfl
theorem k200_5 : xM200.2.2.2.2.2[5]? = some ([0], [.aload 0, .invokevirtual 196, .goto 3]) := rfl
theorem k200_6 : xM200.2.2.2.2.2[6]? = some ([0], [.aload 0, .ldc 14, .invokevirtual 189, .ifCond .eq 8, .goto_w 7]) := rfl
theorem k200_7 : xM200.2.2.2.2.2[7]? = some ([0], [.aload 0, .invokevirtual 197, .goto 3]) := rfl
theorem k200_8 : xM200.2.2.2.2.2[8]? = some ([0], [.aload 0, .ldc 17, .invokevirtual 189, .ifCond .eq 10, .goto_w 9]) := rfl
theorem k200_9 : xM200.2.2.2.2.2[9]? = some ([0], [.aload 0, .invokevirtual 198, .goto 3]) := rfl
theorem k200_10 : xM200.2.2.2.2.2[10]? = some ([0], [.aload 0, .iconst 1, .invokevirtual 187, .goto 3]) := rfl
theorem k200_11 : xM200.2.2.2.2.2[11]? = some ([0], [.aload 0, .iconst 1, .invokevirtual 188, .ifCond .ne 13, .goto_w 12]) := rfl
theorem k200_12 : xM200.2.2.2.2.2[12]? = some ([0], [.aload 0, .iconst 1, .invokevirtual 187, .goto_w 13]) := rfl
theorem k200_13 : xM200.2.2.2.2.2[13]? = some ([], [.return_]) := rfl
theorem k201_0 : xM201.2.2.2.2.2[0]? = some ([0, 1], [.aload 0, .iload 1, .iconst 0, .aload 0, .getfield 361, .invokestatic 175, .iconst 1, .iconst 1, .invokevirtual 176, .ifCond .ne 2, .goto_w 1]) := rfl
theorem k201_1 : xM201.2.2.2.2.2[1]? = some ([], [.iconst 0, .ireturn]) := rfl
theorem k201_2 : xM201.2.2.2.2.2[2]? = some ([0, 1], [.aload 0, .iload 1, .putfield 364, .aload 0, .iconst 0, .putfield 365, .aload 0, .iconst 0, .putfield 361, .aload 0, .iconst 0, .putfield 362, .aload 0, .iconst (-1), .putfield 363, .aload 0, .getfield 353, .iconst 0, .aload 0, .getfield 354, .iconst 0, .invokestatic 178, .iconst 0, .istore 2, .goto_w 3]) := rfl
theorem k201_3 : xM201.2.2.2.2.2[3]? = some ([0, 2], [.iload 2, .iconst 243, .if_icmp .ge 5, .goto_w 4]) := rfl
theorem k201_4 : xM201.2.2.2.2.2[4]? = some ([0, 2], [.aload 0, .getfield 353, .iload 2, .iconst 0, .iastore, .iinc 2 1, .goto 3]) := rfl
theorem k201_5 : xM201.2.2.2.2.2[5]? = some ([0], [.aload 0, .invokevirtual 200, .aload 0, .getfield 362, .ifCond .le 7, .goto_w 6]) := rfl
theorem k201_6 : xM201.2.2.2.2.2[6]? = some ([0], [.aload 0, .getfield 354, .iconst 0, .aload 0, .getfield 353, .iconst 0, .invokestatic 178, .aload 0, .iconst 2, .putfield 352, .iconst 0, .ireturn]) := rfl
theorem k201_7 : xM201.2.2.2.2.2[7]? = some ([0], [.aload 0, .iconst 1, .putfield 358, .aload 0, .iconst 0, .putfield 359, .aload 0, .getfield 357, .iconst 0, .iconst 0, .bastore, .aload 0, .getfield 357, .iconst 1, .iconst 0, .bastore, .aload 0, .getfield 353, .iconst 6, .iaload, .ireturn]) := rfl
theorem k202_0 : xM202.2.2.2.2.2[0]? = some ([0, 1, 2], [.aload 0, .getfield 353, .iconst 15, .iconst 7, .iload 1, .imul, .iadd, .iload 2, .iadd, .iaload, .ireturn]) := rfl
theorem k203_0 : xM203.2.2.2.2.2[0]? = some ([0, 1, 2, 3], [.aload 0, .getfield 353, .iconst 15, .iconst 7, .iload 1, .imul, .iadd, .iload 2, .iadd, .iload 3, .iastore, .return_]) := rfl
theorem k204_0 : xM204.2.2.2.2.2[0]? = some ([0, 1, 2], [.aload 0, .getfield 353, .iconst 99, .iconst 12, .iload 1, .imul, .iadd, .iload 2, .iadd, .iaload, .ireturn]) := rfl
theorem k205_0 : xM205.2.2.2.2.2[0]? = some ([0, 1, 2, 3], [.aload 0, .getfield 353, .iconst 99, .iconst 12, .iload 1, .imul, .iadd, .iload 2, .iadd, .iload 3, .iastore, .return_]) := rfl
theorem k206_0 : xM206.2.2.2.2.2[0]? = some ([0, 1, 2], [.aload 0, .getfield 353, .iconst 171, .iconst 3, .iload 1, .imul, .iadd, .iload 2, .iadd, .iaload, .ireturn]) := rfl
theorem k207_0 : xM207.2.2.2.2.2[0]? = some ([0, 1, 2], [.aload 0, .getfield 353, .iconst 207, .iconst 3, .iload 1, .imul, .iadd, .iload 2, .iadd, .iaload, .ireturn]) := rfl
theorem k208_0 : xM208.2.2.2.2.2[0]? = some ([0, 1], [.iload 1, .iconst 0, .aload 0, .getfield 353, .iconst 6, .iaload, .iconst 1, .isub, .invokestatic 175, .ireturn]) := rfl
theorem k209_0 : xM209.2.2.2.2.2[0]? = some ([0, 1], [.iload 1, .iconst 0, .aload 0, .getfield 353, .iconst 7, .iaload, .iconst 1, .isub, .invokestatic 175, .ireturn]) := rfl
theorem k210_0 : xM210.2.2.2.2.2[0]? = some ([0, 1], [.aload 0, .iload 1, .iconst 2, .invokevirtual 202, .i2f, .aload 0, .iload 1, .iconst 4, .invokevirtual 202, .i2f, .fmul, .ldc_w 1120403456, .fdiv, .f2i, .ireturn]) := rfl
theorem k211_0 : xM211.2.2.2.2.2[0]? = some ([0, 1], [.aload 0, .iload 1, .iconst 1, .isub, .iconst 1, .invokevirtual 202, .aload 0, .iload 1, .iconst 1, .invokevirtual 202, .isub, .ireturn]) := rfl
theorem k212_0 : xM212.2.2.2.2.2[0]? = some ([0, 1, 2], [.aload 0, .iload 1, .iconst 4, .iconst 0, .iconst 100, .aload 0, .iload 1, .iconst 4, .invokevirtual 202, .iload 2, .iadd, .invokestatic 386, .invokestatic 385, .invokevirtual 203, .return_]) := rfl
theorem k213_0 : xM213.2.2.2.2.2[0]? = some ([0, 1], [.iconst 207, .iconst 3, .aload 0, .getfield 353, .iconst 10, .iaload, .imul, .iadd, .istore 2, .aload 0, .getfield 353, .iload 2, .aload 0, .iload 1, .iconst 0, .invokevirtual 202, .iastore, .aload 0, .getfield 353, .iload 2, .iconst 1, .iadd, .aload 0, .iload 1, .iconst 1, .invokevirtual 202, .iastore, .aload 0, .getfield 353, .iload 2, .iconst 2, .iadd, .aload 0, .getfield 353, .iconst 9, .iaload, .iastore, .aload 0, .getfield 353, .iconst 10, .dup2, .iaload, .iconst 1, .iadd, .iastore, .aload 0, .getfield 353, .iconst 13, .dup2, .iaload, .iconst 1, .iadd, .iastore, .aload 0, .iload 1, .iconst 0, .iconst 0, .invokevirtual 203, .return_]) := rfl
theorem k214_0 : xM214.2.2.2.2.2[0]? = some ([0, 1, 2], [.aload 0, .iload 1, .iconst 0, .aload 0, .iload 2, .iconst 0, .invokevirtual 207, .invokevirtual 203, .aload 0, .getfield 353, .iconst 10, .dup2, .iaload, .iconst 1, .isub, .iastore, .iconst 207, .iconst 3, .iload 2, .imul, .iadd, .istore 3, .goto_w 1]) := rfl
theorem k214_1 : xM214.2.2.2.2.2[1]? = some ([0, 3], [.iload 3, .iconst 207, .iconst 3, .aload 0, .getfield 353, .iconst 10, .iaload, .imul, .iadd, .if_icmp .ge 3, .goto_w 2]) := rfl
theorem k214_2 : xM214.2.2.2.2.2[2]? = some ([0, 3], [.aload 0, .getfield 353, .iload 3, .aload 0, .getfield 353, .iload 3, .iconst 3, .iadd, .iaload, .iastore, .iinc 3 1, .goto 1]) := rfl
theorem k214_3 : xM214.2.2.2.2.2[3]? = some ([0], [.aload 0, .getfield 353, .iconst 14, .dup2, .iaload, .iconst 1, .iadd, .iastore, .return_]) := rfl
theorem k215_0 : xM215.2.2.2.2.2[0]? = some ([0, 1, 2], [.iconst (-1), .istore 3, .iconst 0, .istore 4, .goto_w 1]) := rfl
theorem k215_1 : xM215.2.2.2.2.2[1]? = some ([0, 1, 2, 3, 4], [.iload 4, .aload 0, .getfield 353, .iconst 10, .iaload, .if_icmp .ge 7, .goto_w 2]) := rfl
theorem k215_2 : xM215.2.2.2.2.2[2]? = some ([0, 1, 2, 3, 4], [.aload 0, .iload 4, .iconst 1, .invokevirtual 207, .iload 1, .iload 2, .invokestatic 175, .ifCond .eq 6, .goto_w 3]) := rfl
theorem k215_3 : xM215.2.2.2.2.2[3]? = some ([0, 1, 2, 3, 4], [.iload 3, .iconst (-1), .if_icmp .eq 5, .goto_w 4]) := rfl
theorem k215_4 : xM215.2.2.2.2.2[4]? = some ([0, 1, 2, 3, 4], [.aload 0, .iload 4, .iconst 1, .invokevirtual 207, .aload 0, .iload 3, .iconst 1, .invokevirtual 207, .if_icmp .le 6, .goto_w 5]) := rfl
theorem k215_5 : xM215.2.2.2.2.2[5]? = some ([0, 1, 2, 4], [.iload 4, .istore 3, .goto_w 6]) := rfl
theorem k215_6 : xM215.2.2.2.2.2[6]? = some ([0, 1, 2, 3, 4], [.iinc 4 1, .goto 1]) := rfl
theorem k215_7 : xM215.2.2.2.2.2[7]? = some ([3], [.iload 3, .ireturn]) := rfl
theorem k216_0 : xM216.2.2.2.2.2[0]? = some ([0, 1], [.aload 0, .iload 1, .invokevirtual 208, .ifCond .eq 3, .goto_w 1]) := rfl
theorem k216_1 : xM216.2.2.2.2.2[1]? = some ([0, 1], [.aload 0, .iload 1, .iconst 1, .iadd, .invokevirtual 208, .ifCond .eq 3, .goto_w 2]) := rfl
theorem k216_2 : xM216.2.2.2.2.2[2]? = some ([0, 1], [.iconst 1, .goto 4]) := rfl
theorem k216_3 : xM216.2.2.2.2.2[3]? = some ([0, 1], [.iconst 0, .goto_w 4]) := rfl
theorem k216_4 : xM216.2.2.2.2.2[4]? = some ([0, 1], [.istore 2, .iload 2, .ifCond .eq 9, .goto_w 5]) := rfl
theorem k216_5 : xM216.2.2.2.2.2[5]? = some ([0, 1], [.aload 0, .iload 1, .iconst 1, .iadd, .invokevirtual 211, .aload 0, .getfield 353, .iconst 5, .iaload, .if_icmp .gt 9, .goto_w 6]) := rfl
theorem k216_6 : xM216.2.2.2.2.2[6]? = some ([0, 1], [.aload 0, .iload 1, .iconst 4, .invokevirtual 202, .ifCond .le 9, .goto_w 7]) := rfl
theorem k216_7 : xM216.2.2.2.2.2[7]? = some ([0, 1], [.aload 0, .iload 1, .iconst 1, .iadd, .iconst 4, .invokevirtual 202, .ifCond .le 9, .goto_w 8]) := rfl
theorem k216_8 : xM216.2.2.2.2.2[8]? = some ([], [.iconst 1, .goto 10]) := rfl
theorem k216_9 : xM216.2.2.2.2.2[9]? = some ([], [.iconst 0, .goto_w 10]) := rfl
theorem k216_10 : xM216.2.2.2.2.2[10]? = some ([], [.ireturn]) := rfl
theorem k217_0 : xM217.2.2.2.2.2[0]? = some ([0, 1], [.aload 0, .iload 1, .iconst 0, .invokevirtual 202, .istore 2, .aload 0, .iload 1, .iconst 0, .aload 0, .iload 1, .iconst 1, .iadd, .iconst 0, .invokevirtual 202, .invokevirtual 203, .aload 0, .iload 1, .iconst 1, .iadd, .iconst 0, .iload 2, .invokevirtual 203, .return_]) := rfl
theorem k218_0 : xM218.2.2.2.2.2[0]? = some ([0, 1], [.aload 0, .iload 1, .invokevirtual 217, .aload 0, .iload 1, .iconst (-2), .invokevirtual 212, .aload 0, .iload 1, .iconst 1, .iadd, .iconst (-2), .invokevirtual 212, .aload 0, .getfield 353, .iconst 11, .dup2, .iaload, .iconst 1, .iadd, .iastore, .return_]) := rfl
theorem k219_0 : xM219.2.2.2.2.2[0]? = some ([0, 1, 2], [.aload 0, .iload 2, .iconst 0, .invokevirtual 202, .ifCond .le 3, .goto_w 1]) := rfl
theorem k219_1 : xM219.2.2.2.2.2[1]? = some ([0, 1, 2], [.aload 0, .iload 2, .iconst 1, .invokevirtual 202, .aload 0, .iload 1, .iconst 1, .invokevirtual 204, .isub, .invokestatic 384, .aload 0, .getfield 353, .iconst 1, .iaload, .if_icmp .gt 3, .goto_w 2]) := rfl
theorem k219_2 : xM219.2.2.2.2.2[2]? = some ([], [.iconst 1, .goto 4]) := rfl
theorem k219_3 : xM219.2.2.2.2.2[3]? = some ([], [.iconst 0, .goto_w 4]) := rfl
theorem k219_4 : xM219.2.2.2.2.2[4]? = some ([], [.ireturn]) := rfl
theorem k220_0 : xM220.2.2.2.2.2[0]? = some ([0, 1], [.aload 0, .iconst 0, .putfield 370, .aload 0, .getfield 353, .iconst 6, .iaload, .istore 2, .iconst (-1), .istore 3, .iconst 0, .istore 4, .goto_w 1]) := rfl
theorem k220_1 : xM220.2.2.2.2.2[1]? = some ([0, 1, 2, 3, 4], [.iload 4, .iload 2, .if_icmp .ge 12, .goto_w 2]) := rfl
theorem k220_2 : xM220.2.2.2.2.2[2]? = some ([0, 1, 2, 3, 4], [.aload 0, .iload 1, .iconst 0, .invokevirtual 204, .ifCond .ne 4, .goto_w 3]) := rfl
theorem k220_3 : xM220.2.2.2.2.2[3]? = some ([0, 1, 2, 3, 4], [.iload 4, .goto 5]) := rfl
theorem k220_4 : xM220.2.2.2.2.2[4]? = some ([0, 1, 2, 3, 4], [.iload 2, .iconst 1, .isub, .iload 4, .isub, .goto_w 5]) := rfl
theorem k220_5 : xM220.2.2.2.2.2[5]? = some ([0, 1, 2, 3, 4], [.istore 5, .aload 0, .iload 1, .iload 5, .invokevirtual 219, .ifCond .ne 7, .goto_w 6]) := rfl
theorem k220_6 : xM220.2.2.2.2.2[6]? = some ([0, 1, 2, 3, 4], [.goto 11]) := rfl
theorem k220_7 : xM220.2.2.2.2.2[7]? = some ([0, 1, 2, 3, 4, 5], [.iload 3, .iconst (-1), .if_icmp .eq 10, .goto_w 8]) := rfl
theorem k220_8 : xM220.2.2.2.2.2[8]? = some ([0, 1, 2, 3, 4, 5], [.aload 0, .iload 3, .iconst 1, .invokevirtual 202, .aload 0, .iload 5, .iconst 1, .invokevirtual 202, .isub, .invokestatic 384, .aload 0, .getfield 353, .iconst 2, .iaload, .if_icmp .le 10, .goto_w 9]) := rfl
theorem k220_9 : xM220.2.2.2.2.2[9]? = some ([0, 1, 2, 4, 5], [.aload 0, .iconst 32, .invokevirtual 221, .goto_w 10]) := rfl
theorem k220_10 : xM220.2.2.2.2.2[10]? = some ([0, 1, 2, 4, 5], [.aload 0, .iconst 96, .aload 0, .iload 5, .iconst 0, .invokevirtual 202, .iadd, .invokevirtual 221, .iload 5, .istore 3, .goto_w 11]) := rfl
theorem k220_11 : xM220.2.2.2.2.2[11]? = some ([0, 1, 2, 3, 4], [.iinc 4 1, .goto 1]) := rfl
theorem k220_12 : xM220.2.2.2.2.2[12]? = some ([], [.return_]) := rfl
theorem k221_0 : xM221.2.2.2.2.2[0]? = some ([0, 1], [.aload 0, .getfield 369, .aload 0, .getfield 370, .iload 1, .iastore, .aload 0, .dup, .getfield 370, .iconst 1, .iadd, .putfield 370, .return_]) := rfl
theorem k222_0 : xM222.2.2.2.2.2[0]? = some ([0, 1], [.aload 0, .iload 1, .invokevirtual 220, .iconst 0, .istore 2, .iconst 0, .istore 3, .goto_w 1]) := rfl
theorem k222_1 : xM222.2.2.2.2.2[1]? = some ([0, 1, 2, 3], [.iload 3, .aload 0, .getfield 370, .if_icmp .ge 7, .goto_w 2]) := rfl
theorem k222_2 : xM222.2.2.2.2.2[2]? = some ([0, 1, 2, 3], [.iload 3, .aload 0, .iload 1, .iconst 2, .invokevirtual 204, .if_icmp .ge 7, .goto_w 3]) := rfl
theorem k222_3 : xM222.2.2.2.2.2[3]? = some ([0, 1, 2, 3], [.iload 2, .aload 0, .getfield 369, .iload 3, .iaload, .aload 0, .iload 1, .iconst 4, .iload 3, .iadd, .invokevirtual 204, .if_icmp .ne 5, .goto_w 4]) := rfl
theorem k222_4 : xM222.2.2.2.2.2[4]? = some ([0, 1, 3], [.iconst 1, .goto 6]) := rfl
theorem k222_5 : xM222.2.2.2.2.2[5]? = some ([0, 1, 3], [.iconst 0, .goto_w 6]) := rfl
theorem k222_6 : xM222.2.2.2.2.2[6]? = some ([0, 1, 3], [.iadd, .istore 2, .iinc 3 1, .goto 1]) := rfl
theorem k222_7 : xM222.2.2.2.2.2[7]? = some ([2], [.iload 2, .ireturn]) := rfl
theorem k223_0 : xM223.2.2.2.2.2[0]? = some ([0, 1], [.aload 0, .iload 1, .invokevirtual 222, .aload 0, .iload 1, .iconst 2, .invokevirtual 204, .if_icmp .ne 3, .goto_w 1]) := rfl
theorem k223_1 : xM223.2.2.2.2.2[1]? = some ([0, 1], [.aload 0, .getfield 370, .aload 0, .iload 1, .iconst 2, .invokevirtual 204, .if_icmp .ne 3, .goto_w 2]) := rfl
theorem k223_2 : xM223.2.2.2.2.2[2]? = some ([], [.iconst 1, .goto 4]) := rfl
theorem k223_3 : xM223.2.2.2.2.2[3]? = some ([], [.iconst 0, .goto_w 4]) := rfl
theorem k223_4 : xM223.2.2.2.2.2[4]? = some ([], [.ireturn]) := rfl
theorem k224_0 : xM224.2.2.2.2.2[0]? = some ([0, 1], [.aload 0, .iload 1, .invokevirtual 222, .istore 2, .iload 2, .i2f, .aload 0, .getfield 370, .aload 0, .iload 1, .iconst 2, .invokevirtual 204, .invokestatic 385, .i2f, .fdiv, .freturn]) := rfl
theorem k225_0 : xM225.2.2.2.2.2[0]? = some ([0], [.iconst 0, .istore 1, .goto_w 1]) := rfl
theorem k225_1 : xM225.2.2.2.2.2[1]? = some ([0, 1], [.iload 1, .aload 0, .getfield 353, .iconst 8, .iaload, .if_icmp .ge 13, .goto_w 2]) := rfl
theorem k225_2 : xM225.2.2.2.2.2[2]? = some ([0, 1], [.aload 0, .iload 1, .iconst 0, .invokevirtual 206, .aload 0, .getfield 353, .iconst 9, .iaload, .if_icmp .ne 12, .goto_w 3]) := rfl
theorem k225_3 : xM225.2.2.2.2.2[3]? = some ([0, 1], [.aload 0, .iload 1, .iconst 2, .invokevirtual 206, .ifCond .eq 5, .goto_w 4]) := rfl
theorem k225_4 : xM225.2.2.2.2.2[4]? = some ([0, 1], [.goto 12]) := rfl
theorem k225_5 : xM225.2.2.2.2.2[5]? = some ([0, 1], [.aload 0, .aload 0, .iload 1, .iconst 1, .invokevirtual 206, .invokevirtual 216, .istore 2, .iload 2, .ifCond .eq 7, .goto_w 6]) := rfl
theorem k225_6 : xM225.2.2.2.2.2[6]? = some ([0, 1, 2], [.aload 0, .aload 0, .iload 1, .iconst 1, .invokevirtual 206, .invokevirtual 218, .goto 8]) := rfl
theorem k225_7 : xM225.2.2.2.2.2[7]? = some ([0, 1, 2], [.aload 0, .getfield 353, .iconst 12, .dup2, .iaload, .iconst 1, .iadd, .iastore, .goto_w 8]) := rfl
theorem k225_8 : xM225.2.2.2.2.2[8]? = some ([0, 1, 2], [.aload 0, .getfield 353, .iconst 171, .iconst 3, .iload 1, .imul, .iadd, .iconst 2, .iadd, .iload 2, .ifCond .eq 10, .goto_w 9]) := rfl
theorem k225_9 : xM225.2.2.2.2.2[9]? = some ([0, 1], [.iconst 1, .goto 11]) := rfl
theorem k225_10 : xM225.2.2.2.2.2[10]? = some ([0, 1], [.iconst 2, .goto_w 11]) := rfl
theorem k225_11 : xM225.2.2.2.2.2[11]? = some ([0, 1], [.iastore, .goto_w 12]) := rfl
theorem k225_12 : xM225.2.2.2.2.2[12]? = some ([0, 1], [.iinc 1 1, .goto 1]) := rfl
theorem k225_13 : xM225.2.2.2.2.2[13]? = some ([], [.return_]) := rfl
theorem k226_0 : xM226.2.2.2.2.2[0]? = some ([0, 1], [.aload 0, .iload 1, .iconst 1, .invokevirtual 202, .istore 2, .aload 0, .getfield 371, .iload 1, .iload 2, .iastore, .iload 2, .aload 0, .iload 1, .invokevirtual 210, .iadd, .istore 3, .iload 1, .ifCond .le 2, .goto_w 1]) := rfl
theorem k226_1 : xM226.2.2.2.2.2[1]? = some ([0, 1, 2, 3], [.iload 3, .aload 0, .iload 1, .iconst 1, .isub, .iconst 1, .invokevirtual 202, .aload 0, .getfield 353, .iconst 0, .iaload, .isub, .invokestatic 386, .istore 3, .goto_w 2]) := rfl
theorem k226_2 : xM226.2.2.2.2.2[2]? = some ([0, 1, 2, 3], [.iload 3, .iload 2, .if_icmp .le 4, .goto_w 3]) := rfl
theorem k226_3 : xM226.2.2.2.2.2[3]? = some ([0, 1, 3], [.iconst 1, .goto 5]) := rfl
theorem k226_4 : xM226.2.2.2.2.2[4]? = some ([0, 1, 3], [.iconst 0, .goto_w 5]) := rfl
theorem k226_5 : xM226.2.2.2.2.2[5]? = some ([0, 1, 3], [.istore 4, .iload 4, .ifCond .eq 7, .goto_w 6]) := rfl
theorem k226_6 : xM226.2.2.2.2.2[6]? = some ([0, 1, 3, 4], [.aload 0, .iload 1, .iconst 1, .iload 3, .invokevirtual 203, .goto_w 7]) := rfl
theorem k226_7 : xM226.2.2.2.2.2[7]? = some ([0, 1, 4], [.aload 0, .iload 1, .iload 4, .ifCond .eq 9, .goto_w 8]) := rfl
theorem k226_8 : xM226.2.2.2.2.2[8]? = some ([0, 1, 4], [.aload 0, .iload 1, .iconst 3, .invokevirtual 202, .ineg, .goto 10]) := rfl
theorem k226_9 : xM226.2.2.2.2.2[9]? = some ([0, 1, 4], [.aload 0, .getfield 353, .iconst 3, .iaload, .goto_w 10]) := rfl
theorem k226_10 : xM226.2.2.2.2.2[10]? = some ([0, 1, 4], [.invokevirtual 212, .aload 0, .iload 1, .iconst 5, .aload 0, .iload 1, .iconst 5, .invokevirtual 202, .iload 4, .ifCond .eq 12, .goto_w 11]) := rfl
theorem k226_11 : xM226.2.2.2.2.2[11]? = some ([], [.iconst 1, .goto 13]) := rfl
theorem k226_12 : xM226.2.2.2.2.2[12]? = some ([], [.iconst 0, .goto_w 13]) := rfl
theorem k226_13 : xM226.2.2.2.2.2[13]? = some ([], [.iadd, .invokevirtual 203, .return_]) := rfl
theorem k227_0 : xM227.2.2.2.2.2[0]? = some ([0, 1], [.aload 0, .iload 1, .iconst 0, .invokevirtual 202, .ifCond .gt 2, .goto_w 1]) := rfl
theorem k227_1 : xM227.2.2.2.2.2[1]? = some ([0, 1], [.aload 0, .iload 1, .iconst 4, .invokevirtual 202, .aload 0, .getfield 353, .iconst 4, .iaload, .if_icmp .ge 3, .goto_w 2]) := rfl
theorem k227_2 : xM227.2.2.2.2.2[2]? = some ([], [.return_]) := rfl
theorem k227_3 : xM227.2.2.2.2.2[3]? = some ([0, 1], [.aload 0, .aload 0, .getfield 371, .iload 1, .iaload, .aload 0, .iload 1, .iconst 1, .invokevirtual 202, .invokevirtual 215, .istore 2, .iload 2, .iconst (-1), .if_icmp .eq 5, .goto_w 4]) := rfl
theorem k227_4 : xM227.2.2.2.2.2[4]? = some ([0, 1, 2], [.aload 0, .iload 1, .iload 2, .invokevirtual 214, .goto_w 5]) := rfl
theorem k227_5 : xM227.2.2.2.2.2[5]? = some ([], [.return_]) := rfl
theorem k228_0 : xM228.2.2.2.2.2[0]? = some ([0], [.aload 0, .getfield 353, .iconst 9, .dup2, .iaload, .iconst 1, .iadd, .iastore, .aload 0, .invokevirtual 225, .iconst 0, .istore 1, .goto_w 1]) := rfl
theorem k228_1 : xM228.2.2.2.2.2[1]? = some ([0, 1], [.iload 1, .aload 0, .getfield 353, .iconst 6, .iaload, .if_icmp .ge 3, .goto_w 2]) := rfl
theorem k228_2 : xM228.2.2.2.2.2[2]? = some ([0, 1], [.aload 0, .iload 1, .invokevirtual 226, .iinc 1 1, .goto 1]) := rfl
theorem k228_3 : xM228.2.2.2.2.2[3]? = some ([0], [.iconst 0, .istore 1, .goto_w 4]) := rfl
theorem k228_4 : xM228.2.2.2.2.2[4]? = some ([0, 1], [.iload 1, .aload 0, .getfield 353, .iconst 6, .iaload, .if_icmp .ge 9, .goto_w 5]) := rfl
theorem k228_5 : xM228.2.2.2.2.2[5]? = some ([0, 1], [.aload 0, .iload 1, .iconst 0, .invokevirtual 202, .ifCond .le 8, .goto_w 6]) := rfl
theorem k228_6 : xM228.2.2.2.2.2[6]? = some ([0, 1], [.aload 0, .iload 1, .iconst 4, .invokevirtual 202, .ifCond .ne 8, .goto_w 7]) := rfl
theorem k228_7 : xM228.2.2.2.2.2[7]? = some ([0, 1], [.aload 0, .iload 1, .invokevirtual 213, .goto_w 8]) := rfl
theorem k228_8 : xM228.2.2.2.2.2[8]? = some ([0, 1], [.iinc 1 1, .goto 4]) := rfl
theorem k228_9 : xM228.2.2.2.2.2[9]? = some ([0], [.iconst 0, .istore 1, .goto_w 10]) := rfl
theorem k228_10 : xM228.2.2.2.2.2[10]? = some ([0, 1], [.iload 1, .aload 0, .getfield 353, .iconst 6, .iaload, .if_icmp .ge 12, .goto_w 11]) := rfl
theorem k228_11 : xM228.2.2.2.2.2[11]? = some ([0, 1], [.aload 0, .iload 1, .invokevirtual 227, .iinc 1 1, .goto 10]) := rfl
theorem k228_12 : xM228.2.2.2.2.2[12]? = some ([0], [.iconst 0, .istore 1, .goto_w 13]) := rfl
theorem k228_13 : xM228.2.2.2.2.2[13]? = some ([0, 1], [.iload 1, .aload 0, .getfield 353, .iconst 7, .iaload, .if_icmp .ge 18, .goto_w 14]) := rfl
theorem k228_14 : xM228.2.2.2.2.2[14]? = some ([0, 1], [.aload 0, .iload 1, .iconst 3, .invokevirtual 204, .iconst (-1), .if_icmp .ne 17, .goto_w 15]) := rfl
theorem k228_15 : xM228.2.2.2.2.2[15]? = some ([0, 1], [.aload 0, .iload 1, .invokevirtual 223, .ifCond .eq 17, .goto_w 16]) := rfl
theorem k228_16 : xM228.2.2.2.2.2[16]? = some ([0, 1], [.aload 0, .iload 1, .iconst 3, .aload 0, .getfield 353, .iconst 9, .iaload, .invokevirtual 205, .goto_w 17]) := rfl
theorem k228_17 : xM228.2.2.2.2.2[17]? = some ([0, 1], [.iinc 1 1, .goto 13]) := rfl
theorem k228_18 : xM228.2.2.2.2.2[18]? = some ([], [.return_]) := rfl
theorem k229_0 : xM229.2.2.2.2.2[0]? = some ([0, 1], [.iconst 0, .istore 2, .goto_w 1]) := rfl
theorem k229_1 : xM229.2.2.2.2.2[1]? = some ([0, 1, 2], [.iload 2, .iload 1, .if_icmp .ge 3, .goto_w 2]) := rfl
theorem k229_2 : xM229.2.2.2.2.2[2]? = some ([0, 1, 2], [.aload 0, .invokevirtual 228, .iinc 2 1, .goto 1]) := rfl
theorem k229_3 : xM229.2.2.2.2.2[3]? = some ([], [.return_]) := rfl
theorem k230_0 : xM230.2.2.2.2.2[0]? = some ([0], [.iconst 0, .istore 1, .iconst 0, .istore 2, .goto_w 1]) := rfl
theorem k230_1 : xM230.2.2.2.2.2[1]? = some ([0, 1, 2], [.iload 2, .aload 0, .getfield 353, .iconst 6, .iaload, .if_icmp .ge 6, .goto_w 2]) := rfl
theorem k230_2 : xM230.2.2.2.2.2[2]? = some ([0, 1, 2], [.iload 1, .aload 0, .iload 2, .iconst 0, .invokevirtual 202, .ifCond .le 4, .goto_w 3]) := rfl
theorem k230_3 : xM230.2.2.2.2.2[3]? = some ([0, 2], [.iconst 1, .goto 5]) := rfl
theorem k230_4 : xM230.2.2.2.2.2[4]? = some ([0, 2], [.iconst 0, .goto_w 5]) := rfl
theorem k230_5 : xM230.2.2.2.2.2[5]? = some ([0, 2], [.iadd, .istore 1, .iinc 2 1, .goto 1]) := rfl
theorem k230_6 : xM230.2.2.2.2.2[6]? = some ([1], [.iload 1, .ireturn]) := rfl
theorem k231_0 : xM231.2.2.2.2.2[0]? = some ([0], [.iconst 0, .istore 1, .iconst 0, .istore 2, .goto_w 1]) := rfl
theorem k231_1 : xM231.2.2.2.2.2[1]? = some ([0, 1, 2], [.iload 2, .aload 0, .getfield 353, .iconst 7, .iaload, .if_icmp .ge 6, .goto_w 2]) := rfl
theorem k231_2 : xM231.2.2.2.2.2[2]? = some ([0, 1, 2], [.iload 1, .aload 0, .iload 2, .iconst 3, .invokevirtual 204, .iconst (-1), .if_icmp .eq 4, .goto_w 3]) := rfl
theorem k231_3 : xM231.2.2.2.2.2[3]? = some ([0, 2], [.iconst 1, .iload 2, .ishl, .goto 5]) := rfl
theorem k231_4 : xM231.2.2.2.2.2[4]? = some ([0, 2], [.iconst 0, .goto_w 5]) := rfl
theorem k231_5 : xM231.2.2.2.2.2[5]? = some ([0, 2], [.ior, .istore 1, .iinc 2 1, .goto 1]) := rfl
theorem k231_6 : xM231.2.2.2.2.2[6]? = some ([1], [.iload 1, .ireturn]) := rfl
theorem k232_0 : xM232.2.2.2.2.2[0]? = some ([0], [.iconst 0, .istore 1, .iconst 0, .istore 2, .goto_w 1]) := rfl
theorem k232_1 : xM232.2.2.2.2.2[1]? = some ([0, 1, 2], [.iload 2, .aload 0, .getfield 353, .iconst 7, .iaload, .if_icmp .ge 6, .goto_w 2]) := rfl
theorem k232_2 : xM232.2.2.2.2.2[2]? = some ([0, 1, 2], [.iload 1, .aload 0, .iload 2, .iconst 3, .invokevirtual 204, .iconst (-1), .if_icmp .eq 4, .goto_w 3]) := rfl
theorem k232_3 : xM232.2.2.2.2.2[3]? = some ([0, 2], [.iconst 1, .goto 5]) := rfl
theorem k232_4 : xM232.2.2.2.2.2[4]? = some ([0, 2], [.iconst 0, .goto_w 5]) := rfl
theorem k232_5 : xM232.2.2.2.2.2[5]? = some ([0, 2], [.iadd, .istore 1, .iinc 2 1, .goto 1]) := rfl
theorem k232_6 : xM232.2.2.2.2.2[6]? = some ([1], [.iload 1, .ireturn]) := rfl
theorem k233_0 : xM233.2.2.2.2.2[0]? = some ([0], [.iconst 0, .istore 1, .iconst 0, .istore 2, .goto_w 1]) := rfl
theorem k233_1 : xM233.2.2.2.2.2[1]? = some ([0, 1, 2], [.iload 2, .aload 0, .getfield 353, .iconst 8, .iaload, .if_icmp .ge 6, .goto_w 2]) := rfl
theorem k233_2 : xM233.2.2.2.2.2[2]? = some ([0, 1, 2], [.iload 1, .aload 0, .iload 2, .iconst 2, .invokevirtual 206, .ifCond .ne 4, .goto_w 3]) := rfl
theorem k233_3 : xM233.2.2.2.2.2[3]? = some ([0, 2], [.iconst 1, .goto 5]) := rfl
theorem k233_4 : xM233.2.2.2.2.2[4]? = some ([0, 2], [.iconst 0, .goto_w 5]) := rfl
theorem k233_5 : xM233.2.2.2.2.2[5]? = some ([0, 2], [.iadd, .istore 1, .iinc 2 1, .goto 1]) := rfl
theorem k233_6 : xM233.2.2.2.2.2[6]? = some ([1], [.iload 1, .ireturn]) := rfl
theorem k234_0 : xM234.2.2.2.2.2[0]? = some ([0], [.iconst 0, .istore 1, .iconst 0, .istore 2, .goto_w 1]) := rfl
theorem k234_1 : xM234.2.2.2.2.2[1]? = some ([0, 1, 2], [.iload 2, .aload 0, .getfield 353, .iconst 6, .iaload, .if_icmp .ge 6, .goto_w 2]) := rfl
theorem k234_2 : xM234.2.2.2.2.2[2]? = some ([0, 1, 2], [.iload 1, .aload 0, .iload 2, .iconst 4, .invokevirtual 202, .ifCond .ne 4, .goto_w 3]) := rfl
theorem k234_3 : xM234.2.2.2.2.2[3]? = some ([0, 2], [.iconst 1, .goto 5]) := rfl
theorem k234_4 : xM234.2.2.2.2.2[4]? = some ([0, 2], [.iconst 0, .goto_w 5]) := rfl
theorem k234_5 : xM234.2.2.2.2.2[5]? = some ([0, 2], [.iadd, .istore 1, .iinc 2 1, .goto 1]) := rfl
theorem k234_6 : xM234.2.2.2.2.2[6]? = some ([1], [.iload 1, .ireturn]) := rfl
theorem k235_0 : xM235.2.2.2.2.2[0]? = some ([0], [.iconst 0, .istore 1, .iconst 0, .istore 2, .goto_w 1]) := rfl
theorem k235_1 : xM235.2.2.2.2.2[1]? = some ([0, 1, 2], [.iload 2, .aload 0, .getfield 353, .iconst 6, .iaload, .if_icmp .ge 6, .goto_w 2]) := rfl
theorem k235_2 : xM235.2.2.2.2.2[2]? = some ([0, 1, 2], [.iload 1, .aload 0, .iload 2, .iconst 0, .invokevirtual 202, .aload 0, .iload 2, .iconst 6, .invokevirtual 202, .if_icmp .ne 4, .goto_w 3]) := rfl
theorem k235_3 : xM235.2.2.2.2.2[3]? = some ([0, 2], [.iconst 1, .goto 5]) := rfl
theorem k235_4 : xM235.2.2.2.2.2[4]? = some ([0, 2], [.iconst 0, .goto_w 5]) := rfl
theorem k235_5 : xM235.2.2.2.2.2[5]? = some ([0, 2], [.iadd, .istore 1, .iinc 2 1, .goto 1]) := rfl
theorem k235_6 : xM235.2.2.2.2.2[6]? = some ([1], [.iload 1, .ireturn]) := rfl
theorem k236_0 : xM236.2.2.2.2.2[0]? = some ([0], [.iconst 0, .istore 1, .iconst 1, .istore 2, .goto_w 1]) := rfl
theorem k236_1 : xM236.2.2.2.2.2[1]? = some ([0, 1, 2], [.iload 2, .aload 0, .getfield 353, .iconst 6, .iaload, .if_icmp .ge 6, .goto_w 2]) := rfl
theorem k236_2 : xM236.2.2.2.2.2[2]? = some ([0, 1, 2], [.iload 1, .aload 0, .iload 2, .invokevirtual 211, .aload 0, .getfield 353, .iconst 0, .iaload, .if_icmp .gt 4, .goto_w 3]) := rfl
theorem k236_3 : xM236.2.2.2.2.2[3]? = some ([0, 2], [.iconst 1, .goto 5]) := rfl
theorem k236_4 : xM236.2.2.2.2.2[4]? = some ([0, 2], [.iconst 0, .goto_w 5]) := rfl
theorem k236_5 : xM236.2.2.2.2.2[5]? = some ([0, 2], [.iadd, .istore 1, .iinc 2 1, .goto 1]) := rfl
theorem k236_6 : xM236.2.2.2.2.2[6]? = some ([1], [.iload 1, .ireturn]) := rfl
theorem k237_0 : xM237.2.2.2.2.2[0]? = some ([0], [.iconst 0, .istore 1, .iconst 0, .istore 2, .goto_w 1]) := rfl
theorem k237_1 : xM237.2.2.2.2.2[1]? = some ([0, 1, 2], [.iload 2, .aload 0, .getfield 353, .iconst 6, .iaload, .if_icmp .ge 3, .goto_w 2]) := rfl
theorem k237_2 : xM237.2.2.2.2.2[2]? = some ([0, 1, 2], [.iload 1, .aload 0, .iload 2, .invokevirtual 210, .iadd, .istore 1, .iinc 2 1, .goto 1]) := rfl
theorem k237_3 : xM237.2.2.2.2.2[3]? = some ([1], [.iload 1, .ireturn]) := rfl
theorem k238_0 : xM238.2.2.2.2.2[0]? = some ([0], [.iconst 0, .istore 1, .iconst 0, .istore 2, .goto_w 1]) := rfl
theorem k238_1 : xM238.2.2.2.2.2[1]? = some ([0, 1, 2], [.iload 2, .aload 0, .getfield 353, .iconst 7, .iaload, .if_icmp .ge 6, .goto_w 2]) := rfl
theorem k238_2 : xM238.2.2.2.2.2[2]? = some ([0, 1, 2], [.iload 1, .aload 0, .iload 2, .invokevirtual 247, .ifCond .eq 4, .goto_w 3]) := rfl
theorem k238_3 : xM238.2.2.2.2.2[3]? = some ([0, 2], [.iconst 1, .goto 5]) := rfl
theorem k238_4 : xM238.2.2.2.2.2[4]? = some ([0, 2], [.iconst 0, .goto_w 5]) := rfl
theorem k238_5 : xM238.2.2.2.2.2[5]? = some ([0, 2], [.iadd, .istore 1, .iinc 2 1, .goto 1]) := rfl
theorem k238_6 : xM238.2.2.2.2.2[6]? = some ([1], [.iload 1, .ireturn]) := rfl
theorem k239_0 : xM239.2.2.2.2.2[0]? = some ([0, 1], [.aload 0, .aload 0, .getfield 358, .iload 1, .iconst 0, .iconst 16, .invokestatic 175, .invokevirtual 177, .ifCond .ne 2, .goto_w 1]) := rfl
theorem k239_1 : xM239.2.2.2.2.2[1]? = some ([], [.iconst 0, .ireturn]) := rfl
theorem k239_2 : xM239.2.2.2.2.2[2]? = some ([0, 1], [.iload 1, .tableswitch 19 0 15 #[3, 4, 5, 6, 7, 8, 9, 10, 11, 12, 13, 14, 15, 16, 17, 18]]) := rfl
theorem k239_3 : xM239.2.2.2.2.2[3]? = some ([0], [.aload 0, .getfield 353, .iconst 6, .iaload, .ireturn]) := rfl
theorem k239_4 : xM239.2.2.2.2.2[4]? = some ([0], [.aload 0, .getfield 353, .iconst 7, .iaload, .ireturn]) := rfl
theorem k239_5 : xM239.2.2.2.2.2[5]? = some ([0], [.aload 0, .getfield 353, .iconst 8, .iaload, .ireturn]) := rfl
theorem k239_6 : xM239.2.2.2.2.2[6]? = some ([0], [.aload 0, .getfield 353, .iconst 9, .iaload, .ireturn]) := rfl
theorem k239_7 : xM239.2.2.2.2.2[7]? = some ([0], [.aload 0, .invokevirtual 230, .ireturn]) := rfl
theorem k239_8 : xM239.2.2.2.2.2[8]? = some ([0], [.aload 0, .getfield 353, .iconst 10, .iaload, .ireturn]) := rfl
theorem k239_9 : xM239.2.2.2.2.2[9]? = some ([0], [.aload 0, .getfield 353, .iconst 11, .iaload, .ireturn]) := rfl
theorem k239_10 : xM239.2.2.2.2.2[10]? = some ([0], [.aload 0, .getfield 353, .iconst 12, .iaload, .ireturn]) := rfl
theorem k239_11 : xM239.2.2.2.2.2[11]? = some ([0], [.aload 0, .getfield 353, .iconst 13, .iaload, .ireturn]) := rfl
theorem k239_12 : xM239.2.2.2.2.2[12]? = some ([0], [.aload 0, .getfield 353, .iconst 14, .iaload, .ireturn]) := rfl
theorem k239_13 : xM239.2.2.2.2.2[13]? = some ([0], [.aload 0, .invokevirtual 232, .ireturn]) := rfl
theorem k239_14 : xM239.2.2.2.2.2[14]? = some ([0], [.aload 0, .invokevirtual 233, .ireturn]) := rfl
theorem k239_15 : xM239.2.2.2.2.2[15]? = some ([0], [.aload 0, .invokevirtual 234, .ireturn]) := rfl
theorem k239_16 : xM239.2.2.2.2.2[16]? = some ([0], [.aload 0, .invokevirtual 235, .ireturn]) := rfl
theorem k239_17 : xM239.2.2.2.2.2[17]? = some ([0], [.aload 0, .invokevirtual 236, .ireturn]) := rfl
theorem k239_18 : xM239.2.2.2.2.2[18]? = some ([0], [.aload 0, .invokevirtual 237, .ireturn]) := rfl
theorem k239_19 : xM239.2.2.2.2.2[19]? = some ([0], [.aload 0, .invokevirtual 238, .ireturn]) := rfl
theorem k240_0 : xM240.2.2.2.2.2[0]? = some ([0, 1], [.aload 0, .aload 0, .getfield 358, .iload 1, .iconst 0, .iconst 5, .invokestatic 175, .invokevirtual 177, .ifCond .eq 2, .goto_w 1]) := rfl
theorem k240_1 : xM240.2.2.2.2.2[1]? = some ([0, 1], [.aload 0, .getfield 353, .iload 1, .iaload, .goto 3]) := rfl
theorem k240_2 : xM240.2.2.2.2.2[2]? = some ([], [.iconst 0, .goto_w 3]) := rfl
theorem k240_3 : xM240.2.2.2.2.2[3]? = some ([], [.ireturn]) := rfl
theorem k241_0 : xM241.2.2.2.2.2[0]? = some ([0, 1], [.aload 0, .aload 0, .getfield 358, .aload 0, .iload 1, .invokevirtual 208, .invokevirtual 177, .ireturn]) := rfl
theorem k242_0 : xM242.2.2.2.2.2[0]? = some ([0, 1], [.aload 0, .aload 0, .getfield 358, .aload 0, .iload 1, .invokevirtual 209, .invokevirtual 177, .ireturn]) := rfl
theorem k243_0 : xM243.2.2.2.2.2[0]? = some ([0, 1, 2], [.aload 0, .aload 0, .getfield 358, .aload 0, .iload 1, .invokevirtual 208, .iload 2, .invokevirtual 176, .ireturn]) := rfl
theorem k244_0 : xM244.2.2.2.2.2[0]? = some ([0, 1], [.iconst 0, .istore 2, .iconst 0, .istore 3, .goto_w 1]) := rfl
theorem k244_1 : xM244.2.2.2.2.2[1]? = some ([0, 1, 2, 3], [.iload 3, .aload 0, .getfield 353, .iconst 7, .iaload, .if_icmp .ge 6, .goto_w 2]) := rfl
theorem k244_2 : xM244.2.2.2.2.2[2]? = some ([0, 1, 2, 3], [.iload 2, .aload 0, .iload 3, .iload 1, .invokevirtual 219, .ifCond .eq 4, .goto_w 3]) := rfl
theorem k244_3 : xM244.2.2.2.2.2[3]? = some ([0, 1, 3], [.iconst 1, .goto 5]) := rfl
theorem k244_4 : xM244.2.2.2.2.2[4]? = some ([0, 1, 3], [.iconst 0, .goto_w 5]) := rfl
theorem k244_5 : xM244.2.2.2.2.2[5]? = some ([0, 1, 3], [.iadd, .istore 2, .iinc 3 1, .goto 1]) := rfl
theorem k244_6 : xM244.2.2.2.2.2[6]? = some ([2], [.iload 2, .ireturn]) := rfl
theorem k245_0 : xM245.2.2.2.2.2[0]? = some ([0, 1], [.iconst 0, .istore 2, .iconst 0, .istore 3, .goto_w 1]) := rfl
theorem k245_1 : xM245.2.2.2.2.2[1]? = some ([0, 1, 2, 3], [.iload 3, .aload 0, .getfield 353, .iconst 6, .iaload, .if_icmp .ge 6, .goto_w 2]) := rfl
theorem k245_2 : xM245.2.2.2.2.2[2]? = some ([0, 1, 2, 3], [.iload 2, .aload 0, .iload 3, .iconst 4, .invokevirtual 202, .aload 0, .iload 1, .iconst 4, .invokevirtual 202, .if_icmp .ge 4, .goto_w 3]) := rfl
theorem k245_3 : xM245.2.2.2.2.2[3]? = some ([0, 1, 3], [.iconst 1, .goto 5]) := rfl
theorem k245_4 : xM245.2.2.2.2.2[4]? = some ([0, 1, 3], [.iconst 0, .goto_w 5]) := rfl
theorem k245_5 : xM245.2.2.2.2.2[5]? = some ([0, 1, 3], [.iadd, .istore 2, .iinc 3 1, .goto 1]) := rfl
theorem k245_6 : xM245.2.2.2.2.2[6]? = some ([2], [.iload 2, .ireturn]) := rfl
theorem k246_0 : xM246.2.2.2.2.2[0]? = some ([0, 1, 2], [.aload 0, .iload 1, .iload 2, .iconst 0, .iconst 12, .invokestatic 175, .invokevirtual 243, .ifCond .ne 2, .goto_w 1]) := rfl
theorem k246_1 : xM246.2.2.2.2.2[1]? = some ([], [.iconst 0, .ireturn]) := rfl
theorem k246_2 : xM246.2.2.2.2.2[2]? = some ([0, 1, 2], [.iload 2, .tableswitch 17 5 12 #[3, 4, 8, 9, 10, 11, 12, 13]]) := rfl
theorem k246_3 : xM246.2.2.2.2.2[3]? = some ([0, 1], [.aload 0, .iload 1, .invokevirtual 210, .ireturn]) := rfl
theorem k246_4 : xM246.2.2.2.2.2[4]? = some ([0, 1], [.iload 1, .ifCond .ne 6, .goto_w 5]) := rfl
theorem k246_5 : xM246.2.2.2.2.2[5]? = some ([], [.iconst (-1), .goto 7]) := rfl
theorem k246_6 : xM246.2.2.2.2.2[6]? = some ([0, 1], [.aload 0, .iload 1, .invokevirtual 211, .goto_w 7]) := rfl
theorem k246_7 : xM246.2.2.2.2.2[7]? = some ([], [.ireturn]) := rfl
theorem k246_8 : xM246.2.2.2.2.2[8]? = some ([0, 1], [.aload 0, .iload 1, .iconst 5, .invokevirtual 202, .ireturn]) := rfl
theorem k246_9 : xM246.2.2.2.2.2[9]? = some ([0, 1], [.aload 0, .iload 1, .iconst 6, .invokevirtual 202, .ireturn]) := rfl
theorem k246_10 : xM246.2.2.2.2.2[10]? = some ([0, 1], [.aload 0, .iload 1, .invokevirtual 244, .ireturn]) := rfl
theorem k246_11 : xM246.2.2.2.2.2[11]? = some ([0, 1], [.aload 0, .iconst 0, .iconst 1, .invokevirtual 202, .aload 0, .iload 1, .iconst 1, .invokevirtual 202, .isub, .ireturn]) := rfl
theorem k246_12 : xM246.2.2.2.2.2[12]? = some ([0, 1], [.aload 0, .iload 1, .invokevirtual 245, .ireturn]) := rfl
theorem k246_13 : xM246.2.2.2.2.2[13]? = some ([0, 1], [.aload 0, .aload 0, .iload 1, .iconst 1, .invokevirtual 202, .aload 0, .iload 1, .iconst 1, .invokevirtual 202, .invokevirtual 215, .iconst (-1), .if_icmp .ne 15, .goto_w 14]) := rfl
theorem k246_14 : xM246.2.2.2.2.2[14]? = some ([], [.iconst 0, .goto 16]) := rfl
theorem k246_15 : xM246.2.2.2.2.2[15]? = some ([], [.iconst 1, .goto_w 16]) := rfl
theorem k246_16 : xM246.2.2.2.2.2[16]? = some ([], [.ireturn]) := rfl
theorem k246_17 : xM246.2.2.2.2.2[17]? = some ([0, 1, 2], [.aload 0, .iload 1, .iload 2, .invokevirtual 202, .ireturn]) := rfl
theorem k247_0 : xM247.2.2.2.2.2[0]? = some ([0, 1], [.iconst 0, .istore 2, .iconst 0, .istore 3, .goto_w 1]) := rfl
theorem k247_1 : xM247.2.2.2.2.2[1]? = some ([0, 1, 2, 3], [.iload 3, .aload 0, .getfield 353, .iconst 6, .iaload, .if_icmp .ge 6, .goto_w 2]) := rfl
theorem k247_2 : xM247.2.2.2.2.2[2]? = some ([0, 1, 2, 3], [.iload 2, .aload 0, .iload 1, .iload 3, .invokevirtual 219, .ifCond .eq 4, .goto_w 3]) := rfl
theorem k247_3 : xM247.2.2.2.2.2[3]? = some ([0, 1, 3], [.iconst 1, .iload 3, .ishl, .goto 5]) := rfl
theorem k247_4 : xM247.2.2.2.2.2[4]? = some ([0, 1, 3], [.iconst 0, .goto_w 5]) := rfl
theorem k247_5 : xM247.2.2.2.2.2[5]? = some ([0, 1, 3], [.ior, .istore 2, .iinc 3 1, .goto 1]) := rfl
theorem k247_6 : xM247.2.2.2.2.2[6]? = some ([2], [.iload 2, .ireturn]) := rfl
theorem k248_0 : xM248.2.2.2.2.2[0]? = some ([0], [.iconst 0, .istore 1, .iconst 0, .istore 2, .goto_w 1]) := rfl
theorem k248_1 : xM248.2.2.2.2.2[1]? = some ([0, 1, 2], [.iload 2, .iconst 12, .if_icmp .ge 3, .goto_w 2]) := rfl
theorem k248_2 : xM248.2.2.2.2.2[2]? = some ([0, 1, 2], [.iload 1, .iload 0, .iload 2, .ishr, .iconst 1, .iand, .iadd, .istore 1, .iinc 2 1, .goto 1]) := rfl
theorem k248_3 : xM248.2.2.2.2.2[3]? = some ([1], [.iload 1, .ireturn]) := rfl
theorem k249_0 : xM249.2.2.2.2.2[0]? = some ([0, 1], [.aload 0, .iload 1, .invokevirtual 220, .aload 0, .getfield 370, .ireturn]) := rfl
theorem k250_0 : xM250.2.2.2.2.2[0]? = some ([0, 1], [.iconst (-1), .istore 2, .iconst 0, .istore 3, .goto_w 1]) := rfl
theorem k250_1 : xM250.2.2.2.2.2[1]? = some ([0, 1, 2, 3], [.iload 3, .aload 0, .getfield 353, .iconst 6, .iaload, .if_icmp .ge 6, .goto_w 2]) := rfl
theorem k250_2 : xM250.2.2.2.2.2[2]? = some ([0, 1, 2, 3], [.aload 0, .iload 3, .iconst 1, .invokevirtual 202, .aload 0, .iload 1, .iconst 1, .invokevirtual 204, .isub, .invokestatic 384, .istore 4, .iload 2, .iconst (-1), .if_icmp .ne 4, .goto_w 3]) := rfl
theorem k250_3 : xM250.2.2.2.2.2[3]? = some ([0, 1, 3, 4], [.iload 4, .goto 5]) := rfl
theorem k250_4 : xM250.2.2.2.2.2[4]? = some ([0, 1, 2, 3, 4], [.iload 2, .iload 4, .invokestatic 386, .goto_w 5]) := rfl
theorem k250_5 : xM250.2.2.2.2.2[5]? = some ([0, 1, 3], [.istore 2, .iinc 3 1, .goto 1]) := rfl
theorem k250_6 : xM250.2.2.2.2.2[6]? = some ([2], [.iload 2, .ireturn]) := rfl
theorem k251_0 : xM251.2.2.2.2.2[0]? = some ([0, 1], [.iconst 0, .istore 2, .iconst 0, .istore 3, .goto_w 1]) := rfl
theorem k251_1 : xM251.2.2.2.2.2[1]? = some ([0, 1, 2, 3], [.iload 3, .aload 0, .getfield 353, .iconst 6, .iaload, .if_icmp .ge 6, .goto_w 2]) := rfl
theorem k251_2 : xM251.2.2.2.2.2[2]? = some ([0, 1, 2, 3], [.iload 2, .aload 0, .iload 3, .iconst 1, .invokevirtual 202, .aload 0, .iload 1, .iconst 1, .invokevirtual 204, .aload 0, .getfield 353, .iconst 1, .iaload, .iadd, .if_icmp .le 4, .goto_w 3]) := rfl
theorem k251_3 : xM251.2.2.2.2.2[3]? = some ([0, 1, 3], [.iconst 1, .goto 5]) := rfl
theorem k251_4 : xM251.2.2.2.2.2[4]? = some ([0, 1, 3], [.iconst 0, .goto_w 5]) := rfl
theorem k251_5 : xM251.2.2.2.2.2[5]? = some ([0, 1, 3], [.iadd, .istore 2, .iinc 3 1, .goto 1]) := rfl
theorem k251_6 : xM251.2.2.2.2.2[6]? = some ([2], [.iload 2, .ireturn]) := rfl
theorem k252_0 : xM252.2.2.2.2.2[0]? = some ([0, 1], [.iconst 0, .istore 2, .iconst 0, .istore 3, .goto_w 1]) := rfl
theorem k252_1 : xM252.2.2.2.2.2[1]? = some ([0, 1, 2, 3], [.iload 3, .aload 0, .getfield 353, .iconst 6, .iaload, .if_icmp .ge 6, .goto_w 2]) := rfl
theorem k252_2 : xM252.2.2.2.2.2[2]? = some ([0, 1, 2, 3], [.iload 2, .aload 0, .iload 3, .iconst 1, .invokevirtual 202, .aload 0, .iload 1, .iconst 1, .invokevirtual 204, .aload 0, .getfield 353, .iconst 1, .iaload, .isub, .if_icmp .ge 4, .goto_w 3]) := rfl
theorem k252_3 : xM252.2.2.2.2.2[3]? = some ([0, 1, 3], [.iconst 1, .goto 5]) := rfl
theorem k252_4 : xM252.2.2.2.2.2[4]? = some ([0, 1, 3], [.iconst 0, .goto_w 5]) := rfl
theorem k252_5 : xM252.2.2.2.2.2[5]? = some ([0, 1, 3], [.iadd, .istore 2, .iinc 3 1, .goto 1]) := rfl
theorem k252_6 : xM252.2.2.2.2.2[6]? = some ([2], [.iload 2, .ireturn]) := rfl
theorem k253_0 : xM253.2.2.2.2.2[0]? = some ([0, 1, 2], [.aload 0, .aload 0, .getfield 358, .aload 0, .iload 1, .invokevirtual 209, .iload 2, .iconst 0, .iconst 8, .invokestatic 175, .invokevirtual 176, .ifCond .ne 2, .goto_w 1]) := rfl
theorem k253_1 : xM253.2.2.2.2.2[1]? = some ([], [.iconst 0, .ireturn]) := rfl
theorem k253_2 : xM253.2.2.2.2.2[2]? = some ([0, 1, 2], [.iload 2, .tableswitch 8 4 8 #[3, 4, 5, 6, 7]]) := rfl
theorem k253_3 : xM253.2.2.2.2.2[3]? = some ([0, 1], [.aload 0, .iload 1, .invokevirtual 247, .invokestatic 248, .ireturn]) := rfl
theorem k253_4 : xM253.2.2.2.2.2[4]? = some ([0, 1], [.aload 0, .iload 1, .invokevirtual 249, .ireturn]) := rfl
theorem k253_5 : xM253.2.2.2.2.2[5]? = some ([0, 1], [.aload 0, .iload 1, .invokevirtual 250, .ireturn]) := rfl
theorem k253_6 : xM253.2.2.2.2.2[6]? = some ([0, 1], [.aload 0, .iload 1, .invokevirtual 251, .ireturn]) := rfl
theorem k253_7 : xM253.2.2.2.2.2[7]? = some ([0, 1], [.aload 0, .iload 1, .invokevirtual 252, .ireturn]) := rfl
theorem k253_8 : xM253.2.2.2.2.2[8]? = some ([0, 1, 2], [.aload 0, .iload 1, .iload 2, .invokevirtual 204, .ireturn]) := rfl
theorem k254_0 : xM254.2.2.2.2.2[0]? = some ([0, 1, 2], [.aload 0, .aload 0, .getfield 358, .iload 1, .iconst 0, .aload 0, .getfield 353, .iconst 8, .iaload, .iconst 1, .isub, .invokestatic 175, .iload 2, .iconst 0, .iconst 3, .invokestatic 175, .invokevirtual 176, .ifCond .ne 2, .goto_w 1]) := rfl
theorem k254_1 : xM254.2.2.2.2.2[1]? = some ([], [.iconst 0, .ireturn]) := rfl
theorem k254_2 : xM254.2.2.2.2.2[2]? = some ([0, 1, 2], [.iload 2, .iconst 3, .if_icmp .ge 4, .goto_w 3]) := rfl
theorem k254_3 : xM254.2.2.2.2.2[3]? = some ([0, 1, 2], [.aload 0, .iload 1, .iload 2, .invokevirtual 206, .ireturn]) := rfl
theorem k254_4 : xM254.2.2.2.2.2[4]? = some ([0, 1], [.aload 0, .iload 1, .iconst 2, .invokevirtual 206, .ifCond .ne 6, .goto_w 5]) := rfl
theorem k254_5 : xM254.2.2.2.2.2[5]? = some ([0, 1], [.aload 0, .iload 1, .iconst 0, .invokevirtual 206, .aload 0, .getfield 353, .iconst 9, .iaload, .isub, .goto 7]) := rfl
theorem k254_6 : xM254.2.2.2.2.2[6]? = some ([], [.iconst (-1), .goto_w 7]) := rfl
theorem k254_7 : xM254.2.2.2.2.2[7]? = some ([], [.ireturn]) := rfl
theorem k255_0 : xM255.2.2.2.2.2[0]? = some ([0, 1, 2], [.aload 0, .aload 0, .getfield 358, .iload 1, .iconst 0, .aload 0, .getfield 353, .iconst 10, .iaload, .iconst 1, .isub, .invokestatic 175, .iload 2, .iconst 0, .iconst 2, .invokestatic 175, .invokevirtual 176, .ifCond .eq 2, .goto_w 1]) := rfl
theorem k255_1 : xM255.2.2.2.2.2[1]? = some ([0, 1, 2], [.aload 0, .iload 1, .iload 2, .invokevirtual 207, .goto 3]) := rfl
theorem k255_2 : xM255.2.2.2.2.2[2]? = some ([], [.iconst 0, .goto_w 3]) := rfl
theorem k255_3 : xM255.2.2.2.2.2[3]? = some ([], [.ireturn]) := rfl
theorem k256_0 : xM256.2.2.2.2.2[0]? = some ([0, 1, 2], [.aload 0, .iload 1, .invokevirtual 242, .ifCond .ne 2, .goto_w 1]) := rfl
theorem k256_1 : xM256.2.2.2.2.2[1]? = some ([], [.iconst 0, .ireturn]) := rfl
theorem k256_2 : xM256.2.2.2.2.2[2]? = some ([0, 1, 2], [.iload 2, .iconst 0, .aload 0, .iload 1, .iconst 2, .invokevirtual 204, .iconst 1, .isub, .invokestatic 175, .ifCond .eq 4, .goto_w 3]) := rfl
theorem k256_3 : xM256.2.2.2.2.2[3]? = some ([0, 1, 2], [.aload 0, .iload 1, .iconst 4, .iload 2, .iadd, .invokevirtual 204, .goto 5]) := rfl
theorem k256_4 : xM256.2.2.2.2.2[4]? = some ([], [.iconst (-1), .goto_w 5]) := rfl
theorem k256_5 : xM256.2.2.2.2.2[5]? = some ([], [.ireturn]) := rfl
theorem k257_0 : xM257.2.2.2.2.2[0]? = some ([0, 1, 2], [.aload 0, .iload 1, .invokevirtual 242, .ifCond .ne 2, .goto_w 1]) := rfl
theorem k257_1 : xM257.2.2.2.2.2[1]? = some ([], [.iconst 0, .ireturn]) := rfl
theorem k257_2 : xM257.2.2.2.2.2[2]? = some ([0, 1, 2], [.aload 0, .iload 1, .invokevirtual 220, .iload 2, .iconst 0, .aload 0, .getfield 370, .iconst 1, .isub, .invokestatic 175, .ifCond .eq 4, .goto_w 3]) := rfl
theorem k257_3 : xM257.2.2.2.2.2[3]? = some ([0, 2], [.aload 0, .getfield 369, .iload 2, .iaload, .goto 5]) := rfl
theorem k257_4 : xM257.2.2.2.2.2[4]? = some ([], [.iconst (-1), .goto_w 5]) := rfl
theorem k257_5 : xM257.2.2.2.2.2[5]? = some ([], [.ireturn]) := rfl
theorem k258_0 : xM258.2.2.2.2.2[0]? = some ([0, 1], [.aload 0, .iload 1, .invokevirtual 242, .ifCond .eq 2, .goto_w 1]) := rfl
theorem k258_1 : xM258.2.2.2.2.2[1]? = some ([0, 1], [.aload 0, .iload 1, .invokevirtual 247, .goto 3]) := rfl
theorem k258_2 : xM258.2.2.2.2.2[2]? = some ([], [.iconst 0, .goto_w 3]) := rfl
theorem k258_3 : xM258.2.2.2.2.2[3]? = some ([], [.ireturn]) := rfl
theorem k259_0 : xM259.2.2.2.2.2[0]? = some ([0, 1], [.aload 0, .iload 1, .invokevirtual 242, .ifCond .eq 2, .goto_w 1]) := rfl
theorem k259_1 : xM259.2.2.2.2.2[1]? = some ([0, 1], [.aload 0, .iload 1, .invokevirtual 222, .goto 3]) := rfl
theorem k259_2 : xM259.2.2.2.2.2[2]? = some ([], [.iconst 0, .goto_w 3]) := rfl
theorem k259_3 : xM259.2.2.2.2.2[3]? = some ([], [.ireturn]) := rfl
theorem k260_0 : xM260.2.2.2.2.2[0]? = some ([0, 1], [.aload 0, .iload 1, .invokevirtual 242, .ifCond .eq 3, .goto_w 1]) := rfl
theorem k260_1 : xM260.2.2.2.2.2[1]? = some ([0, 1], [.aload 0, .iload 1, .invokevirtual 223, .ifCond .eq 3, .goto_w 2]) := rfl
theorem k260_2 : xM260.2.2.2.2.2[2]? = some ([], [.iconst 1, .goto 4]) := rfl
theorem k260_3 : xM260.2.2.2.2.2[3]? = some ([], [.iconst 0, .goto_w 4]) := rfl
theorem k260_4 : xM260.2.2.2.2.2[4]? = some ([], [.ireturn]) := rfl
theorem k261_0 : xM261.2.2.2.2.2[0]? = some ([0, 1, 2], [.iload 2, .istore 3, .iconst 0, .istore 4, .goto_w 1]) := rfl
theorem k261_1 : xM261.2.2.2.2.2[1]? = some ([0, 1, 3, 4], [.iload 4, .aload 0, .getfield 353, .iconst 6, .iaload, .if_icmp .ge 11, .goto_w 2]) := rfl
theorem k261_2 : xM261.2.2.2.2.2[2]? = some ([0, 1, 3, 4], [.aload 0, .iload 1, .iconst 0, .invokevirtual 204, .ifCond .ne 4, .goto_w 3]) := rfl
theorem k261_3 : xM261.2.2.2.2.2[3]? = some ([0, 1, 3, 4], [.iload 4, .goto 5]) := rfl
theorem k261_4 : xM261.2.2.2.2.2[4]? = some ([0, 1, 3, 4], [.aload 0, .getfield 353, .iconst 6, .iaload, .iconst 1, .isub, .iload 4, .isub, .goto_w 5]) := rfl
theorem k261_5 : xM261.2.2.2.2.2[5]? = some ([0, 1, 3, 4], [.istore 5, .aload 0, .iload 1, .iload 5, .invokevirtual 219, .ifCond .ne 7, .goto_w 6]) := rfl
theorem k261_6 : xM261.2.2.2.2.2[6]? = some ([0, 1, 3, 4], [.goto 10]) := rfl
theorem k261_7 : xM261.2.2.2.2.2[7]? = some ([0, 1, 3, 4, 5], [.iload 3, .ifCond .ne 9, .goto_w 8]) := rfl
theorem k261_8 : xM261.2.2.2.2.2[8]? = some ([5], [.iload 5, .ireturn]) := rfl
theorem k261_9 : xM261.2.2.2.2.2[9]? = some ([0, 1, 3, 4], [.iinc 3 (-1), .goto_w 10]) := rfl
theorem k261_10 : xM261.2.2.2.2.2[10]? = some ([0, 1, 3, 4], [.iinc 4 1, .goto 1]) := rfl
theorem k261_11 : xM261.2.2.2.2.2[11]? = some ([], [.iconst (-1), .ireturn]) := rfl
theorem k262_0 : xM262.2.2.2.2.2[0]? = some ([0, 1, 2], [.aload 0, .iload 1, .invokevirtual 242, .ifCond .ne 2, .goto_w 1]) := rfl
theorem k262_1 : xM262.2.2.2.2.2[1]? = some ([], [.iconst 0, .ireturn]) := rfl
theorem k262_2 : xM262.2.2.2.2.2[2]? = some ([0, 1, 2], [.iload 2, .ifCond .ge 4, .goto_w 3]) := rfl
theorem k262_3 : xM262.2.2.2.2.2[3]? = some ([], [.iconst (-1), .goto 5]) := rfl
theorem k262_4 : xM262.2.2.2.2.2[4]? = some ([0, 1, 2], [.aload 0, .iload 1, .iload 2, .invokevirtual 261, .goto_w 5]) := rfl
theorem k262_5 : xM262.2.2.2.2.2[5]? = some ([], [.ireturn]) := rfl
theorem k263_0 : xM263.2.2.2.2.2[0]? = some ([0, 1], [.aload 0, .iload 1, .invokevirtual 242, .ifCond .ne 2, .goto_w 1]) := rfl
theorem k263_1 : xM263.2.2.2.2.2[1]? = some ([], [.iconst 0, .ireturn]) := rfl
theorem k263_2 : xM263.2.2.2.2.2[2]? = some ([0, 1], [.aload 0, .iload 1, .invokevirtual 220, .iconst 0, .istore 2, .iconst 0, .istore 3, .goto_w 3]) := rfl
theorem k263_3 : xM263.2.2.2.2.2[3]? = some ([0, 2, 3], [.iload 3, .aload 0, .getfield 370, .if_icmp .ge 8, .goto_w 4]) := rfl
theorem k263_4 : xM263.2.2.2.2.2[4]? = some ([0, 2, 3], [.iload 2, .aload 0, .getfield 369, .iload 3, .iaload, .iconst 32, .if_icmp .ne 6, .goto_w 5]) := rfl
theorem k263_5 : xM263.2.2.2.2.2[5]? = some ([0, 3], [.iconst 1, .goto 7]) := rfl
theorem k263_6 : xM263.2.2.2.2.2[6]? = some ([0, 3], [.iconst 0, .goto_w 7]) := rfl
theorem k263_7 : xM263.2.2.2.2.2[7]? = some ([0, 3], [.iadd, .istore 2, .iinc 3 1, .goto 3]) := rfl
theorem k263_8 : xM263.2.2.2.2.2[8]? = some ([2], [.iload 2, .ireturn]) := rfl
theorem k264_0 : xM264.2.2.2.2.2[0]? = some ([0, 1], [.aload 0, .iload 1, .invokevirtual 242, .ifCond .ne 2, .goto_w 1]) := rfl
theorem k264_1 : xM264.2.2.2.2.2[1]? = some ([], [.iconst 0, .ireturn]) := rfl
theorem k264_2 : xM264.2.2.2.2.2[2]? = some ([0, 1], [.aload 0, .iload 1, .invokevirtual 220, .iconst 0, .istore 2, .goto_w 3]) := rfl
theorem k264_3 : xM264.2.2.2.2.2[3]? = some ([0, 1, 2], [.iload 2, .aload 0, .getfield 370, .if_icmp .ge 7, .goto_w 4]) := rfl
theorem k264_4 : xM264.2.2.2.2.2[4]? = some ([0, 1, 2], [.iload 2, .aload 0, .iload 1, .iconst 2, .invokevirtual 204, .if_icmp .ge 7, .goto_w 5]) := rfl
theorem k264_5 : xM264.2.2.2.2.2[5]? = some ([0, 1, 2], [.aload 0, .getfield 369, .iload 2, .iaload, .aload 0, .iload 1, .iconst 4, .iload 2, .iadd, .invokevirtual 204, .if_icmp .ne 7, .goto_w 6]) := rfl
theorem k264_6 : xM264.2.2.2.2.2[6]? = some ([0, 1, 2], [.iinc 2 1, .goto 3]) := rfl
theorem k264_7 : xM264.2.2.2.2.2[7]? = some ([2], [.iload 2, .ireturn]) := rfl
theorem k265_0 : xM265.2.2.2.2.2[0]? = some ([0, 1], [.aload 0, .aload 0, .getfield 358, .iload 1, .iconst 1, .iconst 26, .invokestatic 175, .invokevirtual 177, .ireturn]) := rfl
theorem k266_0 : xM266.2.2.2.2.2[0]? = some ([0, 1], [.aload 0, .iload 1, .invokevirtual 265, .ifCond .ne 2, .goto_w 1]) := rfl
theorem k266_1 : xM266.2.2.2.2.2[1]? = some ([], [.iconst 0, .ireturn]) := rfl
theorem k266_2 : xM266.2.2.2.2.2[2]? = some ([0, 1], [.iconst 0, .istore 2, .goto_w 3]) := rfl
theorem k266_3 : xM266.2.2.2.2.2[3]? = some ([0, 1, 2], [.iload 2, .aload 0, .getfield 353, .iconst 6, .iaload, .if_icmp .ge 7, .goto_w 4]) := rfl
theorem k266_4 : xM266.2.2.2.2.2[4]? = some ([0, 1, 2], [.aload 0, .iload 2, .iconst 0, .invokevirtual 202, .iload 1, .if_icmp .ne 6, .goto_w 5]) := rfl
theorem k266_5 : xM266.2.2.2.2.2[5]? = some ([2], [.iload 2, .ireturn]) := rfl
theorem k266_6 : xM266.2.2.2.2.2[6]? = some ([0, 1, 2], [.iinc 2 1, .goto 3]) := rfl
theorem k266_7 : xM266.2.2.2.2.2[7]? = some ([], [.iconst (-1), .ireturn]) := rfl
theorem k267_0 : xM267.2.2.2.2.2[0]? = some ([0, 1], [.aload 0, .iload 1, .invokevirtual 265, .ifCond .ne 2, .goto_w 1]) := rfl
theorem k267_1 : xM267.2.2.2.2.2[1]? = some ([], [.iconst 0, .ireturn]) := rfl
theorem k267_2 : xM267.2.2.2.2.2[2]? = some ([0, 1], [.iconst 0, .istore 2, .iconst 0, .istore 3, .goto_w 3]) := rfl
theorem k267_3 : xM267.2.2.2.2.2[3]? = some ([0, 1, 2, 3], [.iload 3, .aload 0, .getfield 353, .iconst 6, .iaload, .if_icmp .ge 8, .goto_w 4]) := rfl
theorem k267_4 : xM267.2.2.2.2.2[4]? = some ([0, 1, 2, 3], [.iload 2, .aload 0, .iload 3, .iconst 0, .invokevirtual 202, .iload 1, .if_icmp .ne 6, .goto_w 5]) := rfl
theorem k267_5 : xM267.2.2.2.2.2[5]? = some ([0, 1, 3], [.iconst 1, .goto 7]) := rfl
theorem k267_6 : xM267.2.2.2.2.2[6]? = some ([0, 1, 3], [.iconst 0, .goto_w 7]) := rfl
theorem k267_7 : xM267.2.2.2.2.2[7]? = some ([0, 1, 3], [.iadd, .istore 2, .iinc 3 1, .goto 3]) := rfl
theorem k267_8 : xM267.2.2.2.2.2[8]? = some ([0, 1, 2], [.iconst 0, .istore 3, .goto_w 9]) := rfl
theorem k267_9 : xM267.2.2.2.2.2[9]? = some ([0, 1, 2, 3], [.iload 3, .aload 0, .getfield 353, .iconst 10, .iaload, .if_icmp .ge 14, .goto_w 10]) := rfl
theorem k267_10 : xM267.2.2.2.2.2[10]? = some ([0, 1, 2, 3], [.iload 2, .aload 0, .iload 3, .iconst 0, .invokevirtual 207, .iload 1, .if_icmp .ne 12, .goto_w 11]) := rfl
theorem k267_11 : xM267.2.2.2.2.2[11]? = some ([0, 1, 3], [.iconst 1, .goto 13]) := rfl
theorem k267_12 : xM267.2.2.2.2.2[12]? = some ([0, 1, 3], [.iconst 0, .goto_w 13]) := rfl
theorem k267_13 : xM267.2.2.2.2.2[13]? = some ([0, 1, 3], [.iadd, .istore 2, .iinc 3 1, .goto 9]) := rfl
theorem k267_14 : xM267.2.2.2.2.2[14]? = some ([2], [.iload 2, .ireturn]) := rfl
theorem k268_0 : xM268.2.2.2.2.2[0]? = some ([0, 1], [.aload 0, .aload 0, .getfield 358, .iload 1, .iconst 0, .iconst 100, .invokestatic 175, .invokevirtual 177, .ifCond .ne 2, .goto_w 1]) := rfl
theorem k268_1 : xM268.2.2.2.2.2[1]? = some ([], [.iconst 0, .ireturn]) := rfl
theorem k268_2 : xM268.2.2.2.2.2[2]? = some ([0, 1], [.iconst 0, .istore 2, .iconst 0, .istore 3, .goto_w 3]) := rfl
theorem k268_3 : xM268.2.2.2.2.2[3]? = some ([0, 1, 2, 3], [.iload 3, .aload 0, .getfield 353, .iconst 6, .iaload, .if_icmp .ge 8, .goto_w 4]) := rfl
theorem k268_4 : xM268.2.2.2.2.2[4]? = some ([0, 1, 2, 3], [.iload 2, .aload 0, .iload 3, .iconst 4, .invokevirtual 202, .iload 1, .if_icmp .gt 6, .goto_w 5]) := rfl
theorem k268_5 : xM268.2.2.2.2.2[5]? = some ([0, 1, 3], [.iconst 1, .iload 3, .ishl, .goto 7]) := rfl
theorem k268_6 : xM268.2.2.2.2.2[6]? = some ([0, 1, 3], [.iconst 0, .goto_w 7]) := rfl
theorem k268_7 : xM268.2.2.2.2.2[7]? = some ([0, 1, 3], [.ior, .istore 2, .iinc 3 1, .goto 3]) := rfl
theorem k268_8 : xM268.2.2.2.2.2[8]? = some ([2], [.iload 2, .ireturn]) := rfl
theorem k269_0 : xM269.2.2.2.2.2[0]? = some ([0], [.aload 0, .invokevirtual 275, .ifCond .ne 2, .goto_w 1]) := rfl
theorem k269_1 : xM269.2.2.2.2.2[1]? = some ([], [.iconst 0, .ireturn]) := rfl
theorem k269_2 : xM269.2.2.2.2.2[2]? = some ([0], [.iconst 0, .istore 1, .iconst 0, .istore 2, .goto_w 3]) := rfl
theorem k269_3 : xM269.2.2.2.2.2[3]? = some ([0, 1, 2], [.iload 2, .aload 0, .getfield 353, .iconst 6, .iaload, .if_icmp .ge 8, .goto_w 4]) := rfl
theorem k269_4 : xM269.2.2.2.2.2[4]? = some ([0, 1, 2], [.iload 1, .aload 0, .iload 2, .invokevirtual 216, .ifCond .eq 6, .goto_w 5]) := rfl
theorem k269_5 : xM269.2.2.2.2.2[5]? = some ([0, 2], [.iconst 1, .iload 2, .ishl, .goto 7]) := rfl
theorem k269_6 : xM269.2.2.2.2.2[6]? = some ([0, 2], [.iconst 0, .goto_w 7]) := rfl
theorem k269_7 : xM269.2.2.2.2.2[7]? = some ([0, 2], [.ior, .istore 1, .iinc 2 1, .goto 3]) := rfl
theorem k269_8 : xM269.2.2.2.2.2[8]? = some ([1], [.iload 1, .ireturn]) := rfl
theorem k270_0 : xM270.2.2.2.2.2[0]? = some ([0], [.aload 0, .invokevirtual 275, .ifCond .ne 2, .goto_w 1]) := rfl
theorem k270_1 : xM270.2.2.2.2.2[1]? = some ([], [.iconst 0, .ireturn]) := rfl
theorem k270_2 : xM270.2.2.2.2.2[2]? = some ([0], [.iconst (-1), .istore 1, .iconst 0, .istore 2, .goto_w 3]) := rfl
theorem k270_3 : xM270.2.2.2.2.2[3]? = some ([0, 1, 2], [.iload 2, .aload 0, .getfield 353, .iconst 8, .iaload, .if_icmp .ge 9, .goto_w 4]) := rfl
theorem k270_4 : xM270.2.2.2.2.2[4]? = some ([0, 1, 2], [.aload 0, .iload 2, .iconst 2, .invokevirtual 206, .ifCond .ne 8, .goto_w 5]) := rfl
theorem k270_5 : xM270.2.2.2.2.2[5]? = some ([0, 1, 2], [.iload 1, .iconst (-1), .if_icmp .eq 7, .goto_w 6]) := rfl
theorem k270_6 : xM270.2.2.2.2.2[6]? = some ([0, 1, 2], [.aload 0, .iload 2, .iconst 0, .invokevirtual 206, .aload 0, .iload 1, .iconst 0, .invokevirtual 206, .if_icmp .ge 8, .goto_w 7]) := rfl
theorem k270_7 : xM270.2.2.2.2.2[7]? = some ([0, 2], [.iload 2, .istore 1, .goto_w 8]) := rfl
theorem k270_8 : xM270.2.2.2.2.2[8]? = some ([0, 1, 2], [.iinc 2 1, .goto 3]) := rfl
theorem k270_9 : xM270.2.2.2.2.2[9]? = some ([1], [.iload 1, .ireturn]) := rfl
theorem k271_0 : xM271.2.2.2.2.2[0]? = some ([0, 1, 2], [.aload 0, .invokevirtual 275, .ifCond .ne 2, .goto_w 1]) := rfl
theorem k271_1 : xM271.2.2.2.2.2[1]? = some ([], [.iconst 0, .ireturn]) := rfl
theorem k271_2 : xM271.2.2.2.2.2[2]? = some ([0, 1, 2], [.iconst 0, .istore 3, .iconst 0, .istore 4, .goto_w 3]) := rfl
theorem k271_3 : xM271.2.2.2.2.2[3]? = some ([0, 1, 2, 3, 4], [.iload 4, .aload 0, .getfield 353, .iconst 10, .iaload, .if_icmp .ge 8, .goto_w 4]) := rfl
theorem k271_4 : xM271.2.2.2.2.2[4]? = some ([0, 1, 2, 3, 4], [.iload 3, .aload 0, .iload 4, .iconst 1, .invokevirtual 207, .iload 1, .iload 2, .invokestatic 175, .ifCond .eq 6, .goto_w 5]) := rfl
theorem k271_5 : xM271.2.2.2.2.2[5]? = some ([0, 1, 2, 4], [.iconst 1, .goto 7]) := rfl
theorem k271_6 : xM271.2.2.2.2.2[6]? = some ([0, 1, 2, 4], [.iconst 0, .goto_w 7]) := rfl
theorem k271_7 : xM271.2.2.2.2.2[7]? = some ([0, 1, 2, 4], [.iadd, .istore 3, .iinc 4 1, .goto 3]) := rfl
theorem k271_8 : xM271.2.2.2.2.2[8]? = some ([3], [.iload 3, .ireturn]) := rfl
theorem k272_0 : xM272.2.2.2.2.2[0]? = some ([0, 1], [.aload 0, .iload 1, .invokevirtual 242, .ifCond .eq 2, .goto_w 1]) := rfl
theorem k272_1 : xM272.2.2.2.2.2[1]? = some ([0, 1], [.aload 0, .iload 1, .invokevirtual 224, .goto 3]) := rfl
theorem k272_2 : xM272.2.2.2.2.2[2]? = some ([], [.fconst 0, .goto_w 3]) := rfl
theorem k272_3 : xM272.2.2.2.2.2[3]? = some ([], [.freturn]) := rfl
theorem k273_0 : xM273.2.2.2.2.2[0]? = some ([0, 1], [.aload 0, .iload 1, .invokevirtual 242, .ifCond .eq 2, .goto_w 1]) := rfl
theorem k273_1 : xM273.2.2.2.2.2[1]? = some ([0, 1], [.aload 0, .iload 1, .invokevirtual 224, .invokestatic 388, .goto 3]) := rfl
theorem k273_2 : xM273.2.2.2.2.2[2]? = some ([], [.iconst 0, .goto_w 3]) := rfl
theorem k273_3 : xM273.2.2.2.2.2[3]? = some ([], [.ireturn]) := rfl
theorem k274_0 : xM274.2.2.2.2.2[0]? = some ([0, 1], [.aload 0, .iload 1, .invokevirtual 242, .ifCond .ne 2, .goto_w 1]) := rfl
theorem k274_1 : xM274.2.2.2.2.2[1]? = some ([], [.iconst 0, .ireturn]) := rfl
theorem k274_2 : xM274.2.2.2.2.2[2]? = some ([0, 1], [.iconst 0, .istore 2, .iconst 1, .istore 3, .goto_w 3]) := rfl
theorem k274_3 : xM274.2.2.2.2.2[3]? = some ([0, 1, 2, 3], [.iload 3, .iconst 26, .if_icmp .gt 17, .goto_w 4]) := rfl
theorem k274_4 : xM274.2.2.2.2.2[4]? = some ([0, 1, 2, 3], [.iconst 0, .istore 4, .iconst 0, .istore 5, .goto_w 5]) := rfl
theorem k274_5 : xM274.2.2.2.2.2[5]? = some ([0, 1, 2, 3, 4, 5], [.iload 5, .aload 0, .iload 1, .iconst 2, .invokevirtual 204, .if_icmp .ge 10, .goto_w 6]) := rfl
theorem k274_6 : xM274.2.2.2.2.2[6]? = some ([0, 1, 2, 3, 4, 5], [.iload 4, .aload 0, .iload 1, .iconst 4, .iload 5, .iadd, .invokevirtual 204, .iconst 96, .iload 3, .iadd, .if_icmp .ne 8, .goto_w 7]) := rfl
theorem k274_7 : xM274.2.2.2.2.2[7]? = some ([0, 1, 2, 3, 5], [.iconst 1, .goto 9]) := rfl
theorem k274_8 : xM274.2.2.2.2.2[8]? = some ([0, 1, 2, 3, 5], [.iconst 0, .goto_w 9]) := rfl
theorem k274_9 : xM274.2.2.2.2.2[9]? = some ([0, 1, 2, 3, 5], [.iadd, .istore 4, .iinc 5 1, .goto 5]) := rfl
theorem k274_10 : xM274.2.2.2.2.2[10]? = some ([0, 1, 2, 3, 4], [.iconst 0, .istore 5, .goto_w 11]) := rfl
theorem k274_11 : xM274.2.2.2.2.2[11]? = some ([0, 1, 2, 3, 4, 5], [.iload 5, .aload 0, .getfield 353, .iconst 6, .iaload, .if_icmp .ge 16, .goto_w 12]) := rfl
theorem k274_12 : xM274.2.2.2.2.2[12]? = some ([0, 1, 2, 3, 4, 5], [.iload 4, .aload 0, .iload 5, .iconst 0, .invokevirtual 202, .iload 3, .if_icmp .ne 14, .goto_w 13]) := rfl
theorem k274_13 : xM274.2.2.2.2.2[13]? = some ([0, 1, 2, 3, 5], [.iconst 1, .goto 15]) := rfl
theorem k274_14 : xM274.2.2.2.2.2[14]? = some ([0, 1, 2, 3, 5], [.iconst 0, .goto_w 15]) := rfl
theorem k274_15 : xM274.2.2.2.2.2[15]? = some ([0, 1, 2, 3, 5], [.isub, .istore 4, .iinc 5 1, .goto 11]) := rfl
theorem k274_16 : xM274.2.2.2.2.2[16]? = some ([0, 1, 2, 3, 4], [.iload 2, .iconst 0, .iload 4, .invokestatic 385, .iadd, .istore 2, .iinc 3 1, .goto 3]) := rfl
theorem k274_17 : xM274.2.2.2.2.2[17]? = some ([2], [.iload 2, .ireturn]) := rfl
theorem k275_0 : xM275.2.2.2.2.2[0]? = some ([0], [.aload 0, .aload 0, .getfield 358, .iconst 1, .iconst 1, .invokevirtual 176, .ireturn]) := rfl
theorem k276_0 : xM276.2.2.2.2.2[0]? = some ([0], [.aload 0, .invokevirtual 275, .ifCond .ne 2, .goto_w 1]) := rfl
theorem k276_1 : xM276.2.2.2.2.2[1]? = some ([], [.iconst 0, .ireturn]) := rfl
theorem k276_2 : xM276.2.2.2.2.2[2]? = some ([0], [.iconst (-1), .istore 1, .iconst 0, .istore 2, .goto_w 3]) := rfl
theorem k276_3 : xM276.2.2.2.2.2[3]? = some ([0, 1, 2], [.iload 2, .aload 0, .getfield 353, .iconst 7, .iaload, .if_icmp .ge 8, .goto_w 4]) := rfl
theorem k276_4 : xM276.2.2.2.2.2[4]? = some ([0, 1, 2], [.iload 1, .iconst (-1), .if_icmp .eq 6, .goto_w 5]) := rfl
theorem k276_5 : xM276.2.2.2.2.2[5]? = some ([0, 1, 2], [.aload 0, .iload 2, .invokevirtual 224, .aload 0, .iload 1, .invokevirtual 224, .fcmp .l, .ifCond .le 7, .goto_w 6]) := rfl
theorem k276_6 : xM276.2.2.2.2.2[6]? = some ([0, 2], [.iload 2, .istore 1, .goto_w 7]) := rfl
theorem k276_7 : xM276.2.2.2.2.2[7]? = some ([0, 1, 2], [.iinc 2 1, .goto 3]) := rfl
theorem k276_8 : xM276.2.2.2.2.2[8]? = some ([1], [.iload 1, .ireturn]) := rfl
theorem k277_0 : xM277.2.2.2.2.2[0]? = some ([0], [.aload 0, .invokevirtual 275, .ifCond .eq 2, .goto_w 1]) := rfl
theorem k277_1 : xM277.2.2.2.2.2[1]? = some ([0], [.aload 0, .invokevirtual 231, .goto 3]) := rfl
theorem k277_2 : xM277.2.2.2.2.2[2]? = some ([], [.iconst 0, .goto_w 3]) := rfl
theorem k277_3 : xM277.2.2.2.2.2[3]? = some ([], [.ireturn]) := rfl
theorem k278_0 : xM278.2.2.2.2.2[0]? = some ([0], [.aload 0, .invokevirtual 275, .ifCond .ne 2, .goto_w 1]) := rfl
theorem k278_1 : xM278.2.2.2.2.2[1]? = some ([], [.iconst 0, .ireturn]) := rfl
theorem k278_2 : xM278.2.2.2.2.2[2]? = some ([0], [.iconst (-1), .istore 1, .iconst 0, .istore 2, .goto_w 3]) := rfl
theorem k278_3 : xM278.2.2.2.2.2[3]? = some ([0, 1, 2], [.iload 2, .aload 0, .getfield 353, .iconst 6, .iaload, .if_icmp .ge 8, .goto_w 4]) := rfl
theorem k278_4 : xM278.2.2.2.2.2[4]? = some ([0, 1, 2], [.iload 1, .iconst (-1), .if_icmp .eq 6, .goto_w 5]) := rfl
theorem k278_5 : xM278.2.2.2.2.2[5]? = some ([0, 1, 2], [.aload 0, .iload 2, .iconst 4, .invokevirtual 202, .aload 0, .iload 1, .iconst 4, .invokevirtual 202, .if_icmp .ge 7, .goto_w 6]) := rfl
theorem k278_6 : xM278.2.2.2.2.2[6]? = some ([0, 2], [.iload 2, .istore 1, .goto_w 7]) := rfl
theorem k278_7 : xM278.2.2.2.2.2[7]? = some ([0, 1, 2], [.iinc 2 1, .goto 3]) := rfl
theorem k278_8 : xM278.2.2.2.2.2[8]? = some ([1], [.iload 1, .ireturn]) := rfl
theorem k279_0 : xM279.2.2.2.2.2[0]? = some ([0], [.aload 0, .invokevirtual 275, .ifCond .ne 2, .goto_w 1]) := rfl
theorem k279_1 : xM279.2.2.2.2.2[1]? = some ([], [.iconst 0, .ireturn]) := rfl
theorem k279_2 : xM279.2.2.2.2.2[2]? = some ([0], [.iconst (-1), .istore 1, .iconst 1, .istore 2, .goto_w 3]) := rfl
theorem k279_3 : xM279.2.2.2.2.2[3]? = some ([0, 1, 2], [.iload 2, .aload 0, .getfield 353, .iconst 6, .iaload, .if_icmp .ge 8, .goto_w 4]) := rfl
theorem k279_4 : xM279.2.2.2.2.2[4]? = some ([0, 1, 2], [.iload 1, .iconst (-1), .if_icmp .eq 6, .goto_w 5]) := rfl
theorem k279_5 : xM279.2.2.2.2.2[5]? = some ([0, 1, 2], [.aload 0, .iload 2, .invokevirtual 211, .aload 0, .iload 1, .invokevirtual 211, .if_icmp .le 7, .goto_w 6]) := rfl
theorem k279_6 : xM279.2.2.2.2.2[6]? = some ([0, 2], [.iload 2, .istore 1, .goto_w 7]) := rfl
theorem k279_7 : xM279.2.2.2.2.2[7]? = some ([0, 1, 2], [.iinc 2 1, .goto 3]) := rfl
theorem k279_8 : xM279.2.2.2.2.2[8]? = some ([1], [.iload 1, .ireturn]) := rfl
theorem k280_0 : xM280.2.2.2.2.2[0]? = some ([0], [.aload 0, .invokevirtual 275, .ifCond .eq 2, .goto_w 1]) := rfl
theorem k280_1 : xM280.2.2.2.2.2[1]? = some ([0], [.aload 0, .getfield 353, .iconst 6, .iaload, .iconst 2, .if_icmp .ge 3, .goto_w 2]) := rfl
theorem k280_2 : xM280.2.2.2.2.2[2]? = some ([], [.iconst 0, .ireturn]) := rfl
theorem k280_3 : xM280.2.2.2.2.2[3]? = some ([0], [.aload 0, .iconst 0, .iconst 1, .invokevirtual 202, .aload 0, .aload 0, .getfield 353, .iconst 6, .iaload, .iconst 1, .isub, .iconst 1, .invokevirtual 202, .isub, .ireturn]) := rfl
theorem k281_0 : xM281.2.2.2.2.2[0]? = some ([0], [.iconst 0, .istore 1, .iconst 0, .istore 2, .goto_w 1]) := rfl
theorem k281_1 : xM281.2.2.2.2.2[1]? = some ([0, 1, 2], [.iload 2, .aload 0, .getfield 353, .iconst 6, .iaload, .if_icmp .ge 3, .goto_w 2]) := rfl
theorem k281_2 : xM281.2.2.2.2.2[2]? = some ([0, 1, 2], [.iload 1, .aload 0, .iload 2, .iconst 4, .invokevirtual 202, .iadd, .istore 1, .iinc 2 1, .goto 1]) := rfl
theorem k281_3 : xM281.2.2.2.2.2[3]? = some ([0, 1], [.aload 0, .getfield 353, .iconst 6, .iaload, .ifCond .ne 5, .goto_w 4]) := rfl
theorem k281_4 : xM281.2.2.2.2.2[4]? = some ([], [.dconst 0, .goto 6]) := rfl
theorem k281_5 : xM281.2.2.2.2.2[5]? = some ([0, 1], [.iload 1, .i2d, .aload 0, .getfield 353, .iconst 6, .iaload, .i2d, .ddiv, .goto_w 6]) := rfl
theorem k281_6 : xM281.2.2.2.2.2[6]? = some ([], [.dreturn]) := rfl
theorem k282_0 : xM282.2.2.2.2.2[0]? = some ([0], [.aload 0, .invokevirtual 275, .ifCond .eq 2, .goto_w 1]) := rfl
theorem k282_1 : xM282.2.2.2.2.2[1]? = some ([0], [.aload 0, .invokevirtual 281, .goto 3]) := rfl
theorem k282_2 : xM282.2.2.2.2.2[2]? = some ([], [.dconst 0, .goto_w 3]) := rfl
theorem k282_3 : xM282.2.2.2.2.2[3]? = some ([], [.dreturn]) := rfl
theorem k283_0 : xM283.2.2.2.2.2[0]? = some ([0], [.aload 0, .invokevirtual 275, .ifCond .eq 2, .goto_w 1]) := rfl
theorem k283_1 : xM283.2.2.2.2.2[1]? = some ([0], [.aload 0, .invokevirtual 281, .invokestatic 390, .goto 3]) := rfl
theorem k283_2 : xM283.2.2.2.2.2[2]? = some ([], [.lconst 0, .goto_w 3]) := rfl
theorem k283_3 : xM283.2.2.2.2.2[3]? = some ([], [.lreturn]) := rfl
theorem k284_0 : xM284.2.2.2.2.2[0]? = some ([0], [.aload 0, .getfield 353, .iconst 0, .aload 0, .getfield 354, .iconst 0, .invokestatic 178, .return_]) := rfl
theorem k285_0 : xM285.2.2.2.2.2[0]? = some ([0, 1], [.aload 0, .getfield 354, .iconst 0, .aload 0, .getfield 353, .iconst 0, .invokestatic 178, .iload 1, .ireturn]) := rfl
theorem k286_0 : xM286.2.2.2.2.2[0]? = some ([0, 1], [.aload 0, .getfield 354, .iconst 0, .aload 0, .getfield 353, .iconst 0, .invokestatic 178, .fload 1, .freturn]) := rfl
theorem k287_0 : xM287.2.2.2.2.2[0]? = some ([0, 1], [.aload 0, .iload 1, .invokevirtual 242, .ifCond .ne 2, .goto_w 1]) := rfl
theorem k287_1 : xM287.2.2.2.2.2[1]? = some ([], [.iconst 0, .ireturn]) := rfl
theorem k287_2 : xM287.2.2.2.2.2[2]? = some ([0, 1], [.aload 0, .invokevirtual 284, .iconst 0, .istore 2, .goto_w 3]) := rfl
theorem k287_3 : xM287.2.2.2.2.2[3]? = some ([0, 1, 2], [.iload 2, .iconst 300, .if_icmp .gt 7, .goto_w 4]) := rfl
theorem k287_4 : xM287.2.2.2.2.2[4]? = some ([0, 1, 2], [.aload 0, .iload 1, .invokevirtual 223, .ifCond .eq 6, .goto_w 5]) := rfl
theorem k287_5 : xM287.2.2.2.2.2[5]? = some ([0, 2], [.aload 0, .iload 2, .invokevirtual 285, .ireturn]) := rfl
theorem k287_6 : xM287.2.2.2.2.2[6]? = some ([0, 1, 2], [.aload 0, .invokevirtual 228, .iinc 2 1, .goto 3]) := rfl
theorem k287_7 : xM287.2.2.2.2.2[7]? = some ([0], [.aload 0, .iconst (-1), .invokevirtual 285, .ireturn]) := rfl
theorem k288_0 : xM288.2.2.2.2.2[0]? = some ([0, 1], [.iconst 1, .istore 2, .iconst 0, .istore 3, .goto_w 1]) := rfl
theorem k288_1 : xM288.2.2.2.2.2[1]? = some ([0, 1, 2, 3], [.iload 3, .aload 0, .getfield 353, .iconst 6, .iaload, .if_icmp .ge 6, .goto_w 2]) := rfl
theorem k288_2 : xM288.2.2.2.2.2[2]? = some ([0, 1, 2, 3], [.iload 2, .aload 0, .iload 3, .iconst 1, .invokevirtual 202, .aload 0, .iload 1, .iconst 1, .invokevirtual 204, .aload 0, .getfield 353, .iconst 1, .iaload, .iadd, .if_icmp .le 4, .goto_w 3]) := rfl
theorem k288_3 : xM288.2.2.2.2.2[3]? = some ([0, 1, 3], [.iconst 1, .goto 5]) := rfl
theorem k288_4 : xM288.2.2.2.2.2[4]? = some ([0, 1, 3], [.iconst 0, .goto_w 5]) := rfl
theorem k288_5 : xM288.2.2.2.2.2[5]? = some ([0, 1, 3], [.iand, .istore 2, .iinc 3 1, .goto 1]) := rfl
theorem k288_6 : xM288.2.2.2.2.2[6]? = some ([2], [.iload 2, .ireturn]) := rfl
theorem k289_0 : xM289.2.2.2.2.2[0]? = some ([0, 1], [.aload 0, .iload 1, .invokevirtual 242, .ifCond .ne 2, .goto_w 1]) := rfl
theorem k289_1 : xM289.2.2.2.2.2[1]? = some ([], [.iconst 0, .ireturn]) := rfl
theorem k289_2 : xM289.2.2.2.2.2[2]? = some ([0, 1], [.aload 0, .invokevirtual 284, .iconst 0, .istore 2, .goto_w 3]) := rfl
theorem k289_3 : xM289.2.2.2.2.2[3]? = some ([0, 1, 2], [.iload 2, .iconst 300, .if_icmp .gt 7, .goto_w 4]) := rfl
theorem k289_4 : xM289.2.2.2.2.2[4]? = some ([0, 1, 2], [.aload 0, .iload 1, .invokevirtual 288, .ifCond .eq 6, .goto_w 5]) := rfl
theorem k289_5 : xM289.2.2.2.2.2[5]? = some ([0, 2], [.aload 0, .iload 2, .invokevirtual 285, .ireturn]) := rfl
theorem k289_6 : xM289.2.2.2.2.2[6]? = some ([0, 1, 2], [.aload 0, .invokevirtual 228, .iinc 2 1, .goto 3]) := rfl
theorem k289_7 : xM289.2.2.2.2.2[7]? = some ([0], [.aload 0, .iconst (-1), .invokevirtual 285, .ireturn]) := rfl
theorem k290_0 : xM290.2.2.2.2.2[0]? = some ([0], [.iload 0, .iconst 0, .iconst 300, .invokestatic 175, .ireturn]) := rfl
theorem k291_0 : xM291.2.2.2.2.2[0]? = some ([0, 1, 2, 3], [.aload 0, .iload 1, .iload 2, .invokestatic 290, .invokevirtual 243, .ifCond .ne 2, .goto_w 1]) := rfl
theorem k291_1 : xM291.2.2.2.2.2[1]? = some ([], [.iconst 0, .ireturn]) := rfl
theorem k291_2 : xM291.2.2.2.2.2[2]? = some ([0, 1, 2, 3], [.aload 0, .invokevirtual 284, .aload 0, .iload 2, .invokevirtual 229, .aload 0, .aload 0, .iload 1, .iload 3, .invokevirtual 202, .invokevirtual 285, .ireturn]) := rfl
theorem k292_0 : xM292.2.2.2.2.2[0]? = some ([0, 1, 2], [.aload 0, .iload 1, .iload 2, .iconst 1, .invokevirtual 291, .ireturn]) := rfl
theorem k293_0 : xM293.2.2.2.2.2[0]? = some ([0, 1, 2], [.aload 0, .iload 1, .iload 2, .iconst 4, .invokevirtual 291, .ireturn]) := rfl
theorem k294_0 : xM294.2.2.2.2.2[0]? = some ([0, 1, 2], [.aload 0, .iload 1, .iload 2, .iconst 0, .invokevirtual 291, .ireturn]) := rfl
theorem k295_0 : xM295.2.2.2.2.2[0]? = some ([0, 1], [.aload 0, .aload 0, .getfield 358, .iload 1, .invokestatic 290, .invokevirtual 177, .ifCond .ne 2, .goto_w 1]) := rfl
theorem k295_1 : xM295.2.2.2.2.2[1]? = some ([], [.iconst 0, .ireturn]) := rfl
theorem k295_2 : xM295.2.2.2.2.2[2]? = some ([0, 1], [.aload 0, .invokevirtual 284, .aload 0, .iload 1, .invokevirtual 229, .aload 0, .aload 0, .getfield 353, .iconst 13, .iaload, .aload 0, .getfield 354, .iconst 13, .iaload, .isub, .invokevirtual 285, .ireturn]) := rfl
theorem k296_0 : xM296.2.2.2.2.2[0]? = some ([0], [.aload 0, .invokevirtual 275, .ifCond .ne 2, .goto_w 1]) := rfl
theorem k296_1 : xM296.2.2.2.2.2[1]? = some ([], [.iconst 0, .ireturn]) := rfl
theorem k296_2 : xM296.2.2.2.2.2[2]? = some ([0], [.aload 0, .invokevirtual 284, .iconst 1, .istore 1, .goto_w 3]) := rfl
theorem k296_3 : xM296.2.2.2.2.2[3]? = some ([0, 1], [.iload 1, .iconst 300, .if_icmp .gt 7, .goto_w 4]) := rfl
theorem k296_4 : xM296.2.2.2.2.2[4]? = some ([0, 1], [.aload 0, .invokevirtual 228, .aload 0, .getfield 353, .iconst 13, .iaload, .aload 0, .getfield 354, .iconst 13, .iaload, .if_icmp .le 6, .goto_w 5]) := rfl
theorem k296_5 : xM296.2.2.2.2.2[5]? = some ([0, 1], [.aload 0, .iload 1, .invokevirtual 285, .ireturn]) := rfl
theorem k296_6 : xM296.2.2.2.2.2[6]? = some ([0, 1], [.iinc 1 1, .goto 3]) := rfl
theorem k296_7 : xM296.2.2.2.2.2[7]? = some ([0], [.aload 0, .iconst (-1), .invokevirtual 285, .ireturn]) := rfl
theorem k297_0 : xM297.2.2.2.2.2[0]? = some ([0, 1, 2], [.aload 0, .aload 0, .getfield 358, .aload 0, .iload 1, .invokevirtual 209, .iload 2, .invokestatic 290, .invokevirtual 176, .ireturn]) := rfl
theorem k298_0 : xM298.2.2.2.2.2[0]? = some ([0, 1, 2], [.aload 0, .iload 1, .iload 2, .invokevirtual 297, .ifCond .ne 2, .goto_w 1]) := rfl
theorem k298_1 : xM298.2.2.2.2.2[1]? = some ([], [.fconst 0, .freturn]) := rfl
theorem k298_2 : xM298.2.2.2.2.2[2]? = some ([0, 1, 2], [.aload 0, .invokevirtual 284, .aload 0, .iload 2, .invokevirtual 229, .aload 0, .aload 0, .iload 1, .invokevirtual 224, .invokevirtual 286, .freturn]) := rfl
theorem k299_0 : xM299.2.2.2.2.2[0]? = some ([0, 1, 2], [.aload 0, .iload 1, .iload 2, .invokevirtual 297, .ifCond .ne 2, .goto_w 1]) := rfl
theorem k299_1 : xM299.2.2.2.2.2[1]? = some ([], [.fconst 0, .freturn]) := rfl
theorem k299_2 : xM299.2.2.2.2.2[2]? = some ([0, 1, 2], [.aload 0, .invokevirtual 284, .aload 0, .iload 1, .invokevirtual 224, .fstore 3, .iconst 0, .istore 4, .goto_w 3]) := rfl
theorem k299_3 : xM299.2.2.2.2.2[3]? = some ([0, 1, 2, 3, 4], [.iload 4, .iload 2, .if_icmp .ge 5, .goto_w 4]) := rfl
theorem k299_4 : xM299.2.2.2.2.2[4]? = some ([0, 1, 2, 3, 4], [.aload 0, .invokevirtual 228, .fload 3, .aload 0, .iload 1, .invokevirtual 224, .frem, .fstore 3, .iinc 4 1, .goto 3]) := rfl
theorem k299_5 : xM299.2.2.2.2.2[5]? = some ([0, 3], [.aload 0, .fload 3, .invokevirtual 286, .freturn]) := rfl
theorem k300_0 : xM300.2.2.2.2.2[0]? = some ([0, 1], [.aload 0, .iload 1, .invokevirtual 242, .ifCond .ne 2, .goto_w 1]) := rfl
theorem k300_1 : xM300.2.2.2.2.2[1]? = some ([], [.iconst 0, .ireturn]) := rfl
theorem k300_2 : xM300.2.2.2.2.2[2]? = some ([0, 1], [.aload 0, .iload 1, .invokevirtual 224, .fstore 2, .iconst (-1), .istore 3, .iconst 0, .istore 4, .goto_w 3]) := rfl
theorem k300_3 : xM300.2.2.2.2.2[3]? = some ([0, 1, 2, 3, 4], [.iload 4, .iconst 1, .iadd, .aload 0, .getfield 353, .iconst 6, .iaload, .if_icmp .ge 8, .goto_w 4]) := rfl
theorem k300_4 : xM300.2.2.2.2.2[4]? = some ([0, 1, 2, 3, 4], [.aload 0, .iload 4, .invokevirtual 217, .aload 0, .iload 1, .invokevirtual 224, .fstore 5, .aload 0, .iload 4, .invokevirtual 217, .fload 5, .fload 2, .fcmp .g, .ifCond .gt 6, .goto_w 5]) := rfl
theorem k300_5 : xM300.2.2.2.2.2[5]? = some ([0, 1, 2, 3, 4], [.goto 7]) := rfl
theorem k300_6 : xM300.2.2.2.2.2[6]? = some ([0, 1, 4, 5], [.iload 4, .istore 3, .fload 5, .fstore 2, .goto_w 7]) := rfl
theorem k300_7 : xM300.2.2.2.2.2[7]? = some ([0, 1, 2, 3, 4], [.iinc 4 1, .goto 3]) := rfl
theorem k300_8 : xM300.2.2.2.2.2[8]? = some ([3], [.iload 3, .ireturn]) := rfl
theorem k301_0 : xM301.2.2.2.2.2[0]? = some ([0, 1], [.aload 0, .iload 1, .invokevirtual 241, .ifCond .eq 2, .goto_w 1]) := rfl
theorem k301_1 : xM301.2.2.2.2.2[1]? = some ([0, 1], [.iload 1, .ifCond .ne 6, .goto_w 2]) := rfl
theorem k301_2 : xM301.2.2.2.2.2[2]? = some ([0], [.aload 0, .getfield 352, .ifCond .le 4, .goto_w 3]) := rfl
theorem k301_3 : xM301.2.2.2.2.2[3]? = some ([], [.iconst 0, .goto 5]) := rfl
theorem k301_4 : xM301.2.2.2.2.2[4]? = some ([], [.iconst (-1), .goto_w 5]) := rfl
theorem k301_5 : xM301.2.2.2.2.2[5]? = some ([], [.ireturn]) := rfl
theorem k301_6 : xM301.2.2.2.2.2[6]? = some ([0, 1], [.aload 0, .invokevirtual 284, .iconst 0, .istore 2, .goto_w 7]) := rfl
theorem k301_7 : xM301.2.2.2.2.2[7]? = some ([0, 1, 2], [.iload 2, .iconst 300, .if_icmp .gt 11, .goto_w 8]) := rfl
theorem k301_8 : xM301.2.2.2.2.2[8]? = some ([0, 1, 2], [.aload 0, .iload 1, .invokevirtual 211, .aload 0, .getfield 353, .iconst 0, .iaload, .if_icmp .ne 10, .goto_w 9]) := rfl
theorem k301_9 : xM301.2.2.2.2.2[9]? = some ([0, 2], [.aload 0, .iload 2, .invokevirtual 285, .ireturn]) := rfl
theorem k301_10 : xM301.2.2.2.2.2[10]? = some ([0, 1, 2], [.aload 0, .invokevirtual 228, .iinc 2 1, .goto 7]) := rfl
theorem k301_11 : xM301.2.2.2.2.2[11]? = some ([0], [.aload 0, .iconst (-1), .invokevirtual 285, .ireturn]) := rfl
theorem k302_0 : xM302.2.2.2.2.2[0]? = some ([0], [.aload 0, .invokevirtual 275, .ifCond .ne 2, .goto_w 1]) := rfl
theorem k302_1 : xM302.2.2.2.2.2[1]? = some ([], [.iconst 0, .ireturn]) := rfl
theorem k302_2 : xM302.2.2.2.2.2[2]? = some ([0], [.aload 0, .invokevirtual 284, .iconst 0, .istore 1, .goto_w 3]) := rfl
theorem k302_3 : xM302.2.2.2.2.2[3]? = some ([0, 1], [.iload 1, .iconst 50, .if_icmp .gt 10, .goto_w 4]) := rfl
theorem k302_4 : xM302.2.2.2.2.2[4]? = some ([0, 1], [.aload 0, .getfield 353, .iconst 3, .iload 1, .iastore, .aload 0, .iconst 100, .invokevirtual 229, .aload 0, .getfield 353, .iconst 13, .iaload, .aload 0, .getfield 354, .iconst 13, .iaload, .if_icmp .ne 6, .goto_w 5]) := rfl
theorem k302_5 : xM302.2.2.2.2.2[5]? = some ([0, 1], [.iconst 1, .goto 7]) := rfl
theorem k302_6 : xM302.2.2.2.2.2[6]? = some ([0, 1], [.iconst 0, .goto_w 7]) := rfl
theorem k302_7 : xM302.2.2.2.2.2[7]? = some ([0, 1], [.istore 2, .aload 0, .iconst 0, .invokevirtual 285, .istore 3, .iload 2, .ifCond .eq 9, .goto_w 8]) := rfl
theorem k302_8 : xM302.2.2.2.2.2[8]? = some ([1], [.iload 1, .ireturn]) := rfl
theorem k302_9 : xM302.2.2.2.2.2[9]? = some ([0, 1], [.iinc 1 1, .goto 3]) := rfl
theorem k302_10 : xM302.2.2.2.2.2[10]? = some ([], [.iconst (-1), .ireturn]) := rfl
theorem k303_0 : xM303.2.2.2.2.2[0]? = some ([0, 1], [.aload 0, .getfield 372, .aload 0, .getfield 373, .iload 1, .i2b, .bastore, .aload 0, .dup, .getfield 373, .iconst 1, .iadd, .putfield 373, .return_]) := rfl
theorem k304_0 : xM304.2.2.2.2.2[0]? = some ([0, 1], [.iload 1, .iconst 9, .if_icmp .le 2, .goto_w 1]) := rfl
theorem k304_1 : xM304.2.2.2.2.2[1]? = some ([0, 1], [.aload 0, .iload 1, .iconst 10, .idiv, .invokevirtual 304, .goto_w 2]) := rfl
theorem k304_2 : xM304.2.2.2.2.2[2]? = some ([0, 1], [.aload 0, .iconst 48, .iload 1, .iconst 10, .irem, .iadd, .invokevirtual 303, .return_]) := rfl
theorem k305_0 : xM305.2.2.2.2.2[0]? = some ([0, 1], [.aload 0, .iload 1, .invokevirtual 242, .ifCond .ne 2, .goto_w 1]) := rfl
theorem k305_1 : xM305.2.2.2.2.2[1]? = some ([], [.iconst 0, .ireturn]) := rfl
theorem k305_2 : xM305.2.2.2.2.2[2]? = some ([0, 1], [.aload 0, .iload 1, .invokevirtual 220, .aload 0, .iconst 0, .putfield 373, .iconst 0, .istore 2, .goto_w 3]) := rfl
theorem k305_3 : xM305.2.2.2.2.2[3]? = some ([0, 2], [.iload 2, .aload 0, .getfield 370, .if_icmp .ge 5, .goto_w 4]) := rfl
theorem k305_4 : xM305.2.2.2.2.2[4]? = some ([0, 2], [.aload 0, .aload 0, .getfield 369, .iload 2, .iaload, .invokevirtual 303, .iinc 2 1, .goto 3]) := rfl
theorem k305_5 : xM305.2.2.2.2.2[5]? = some ([0], [.aload 0, .getfield 373, .ireturn]) := rfl
theorem k306_0 : xM306.2.2.2.2.2[0]? = some ([0], [.aload 0, .invokevirtual 275, .ifCond .ne 2, .goto_w 1]) := rfl
theorem k306_1 : xM306.2.2.2.2.2[1]? = some ([], [.iconst 0, .ireturn]) := rfl
theorem k306_2 : xM306.2.2.2.2.2[2]? = some ([0], [.aload 0, .iconst 0, .putfield 373, .iconst 0, .istore 1, .goto_w 3]) := rfl
theorem k306_3 : xM306.2.2.2.2.2[3]? = some ([0, 1], [.iload 1, .aload 0, .getfield 353, .iconst 6, .iaload, .if_icmp .ge 8, .goto_w 4]) := rfl
theorem k306_4 : xM306.2.2.2.2.2[4]? = some ([0, 1], [.aload 0, .aload 0, .iload 1, .iconst 0, .invokevirtual 202, .ifCond .le 6, .goto_w 5]) := rfl
theorem k306_5 : xM306.2.2.2.2.2[5]? = some ([0, 1], [.iconst 96, .aload 0, .iload 1, .iconst 0, .invokevirtual 202, .iadd, .goto 7]) := rfl
theorem k306_6 : xM306.2.2.2.2.2[6]? = some ([0, 1], [.iconst 45, .goto_w 7]) := rfl
theorem k306_7 : xM306.2.2.2.2.2[7]? = some ([0, 1], [.invokevirtual 303, .iinc 1 1, .goto 3]) := rfl
theorem k306_8 : xM306.2.2.2.2.2[8]? = some ([0], [.aload 0, .getfield 373, .ireturn]) := rfl
theorem k307_0 : xM307.2.2.2.2.2[0]? = some ([0], [.aload 0, .invokevirtual 275, .ifCond .ne 2, .goto_w 1]) := rfl
theorem k307_1 : xM307.2.2.2.2.2[1]? = some ([], [.iconst 0, .ireturn]) := rfl
theorem k307_2 : xM307.2.2.2.2.2[2]? = some ([0], [.aload 0, .iconst 0, .putfield 373, .iconst 0, .istore 1, .goto_w 3]) := rfl
theorem k307_3 : xM307.2.2.2.2.2[3]? = some ([0, 1], [.iload 1, .aload 0, .getfield 353, .iconst 6, .iaload, .if_icmp .ge 9, .goto_w 4]) := rfl
theorem k307_4 : xM307.2.2.2.2.2[4]? = some ([0, 1], [.iload 1, .ifCond .le 6, .goto_w 5]) := rfl
theorem k307_5 : xM307.2.2.2.2.2[5]? = some ([0, 1], [.aload 0, .iconst 44, .invokevirtual 303, .goto_w 6]) := rfl
theorem k307_6 : xM307.2.2.2.2.2[6]? = some ([0, 1], [.aload 0, .iload 1, .iconst 1, .invokevirtual 202, .ifCond .ge 8, .goto_w 7]) := rfl
theorem k307_7 : xM307.2.2.2.2.2[7]? = some ([0, 1], [.aload 0, .iconst 45, .invokevirtual 303, .goto_w 8]) := rfl
theorem k307_8 : xM307.2.2.2.2.2[8]? = some ([0, 1], [.aload 0, .aload 0, .iload 1, .iconst 1, .invokevirtual 202, .invokestatic 384, .invokevirtual 304, .iinc 1 1, .goto 3]) := rfl
theorem k307_9 : xM307.2.2.2.2.2[9]? = some ([0], [.aload 0, .getfield 373, .ireturn]) := rfl
theorem k308_0 : xM308.2.2.2.2.2[0]? = some ([0, 1], [.aload 0, .iload 1, .iconst 0, .aload 0, .getfield 373, .iconst 1, .isub, .invokestatic 175, .iconst 1, .iconst 1, .invokevirtual 176, .ifCond .eq 2, .goto_w 1]) := rfl
theorem k308_1 : xM308.2.2.2.2.2[1]? = some ([0, 1], [.aload 0, .getfield 372, .iload 1, .baload, .goto 3]) := rfl
theorem k308_2 : xM308.2.2.2.2.2[2]? = some ([], [.iconst 0, .goto_w 3]) := rfl
theorem k308_3 : xM308.2.2.2.2.2[3]? = some ([], [.ireturn]) := rfl
theorem k309_0 : xM309.2.2.2.2.2[0]? = some ([0], [.aload 0, .getfield 359, .iconst 8, .if_icmp .ne 5, .goto_w 1]) := rfl
theorem k309_1 : xM309.2.2.2.2.2[1]? = some ([0], [.iconst 0, .istore 1, .goto_w 2]) := rfl
theorem k309_2 : xM309.2.2.2.2.2[2]? = some ([0, 1], [.iload 1, .iconst 1701, .if_icmp .ge 4, .goto_w 3]) := rfl
theorem k309_3 : xM309.2.2.2.2.2[3]? = some ([0, 1], [.aload 0, .getfield 355, .iload 1, .aload 0, .getfield 355, .iload 1, .iconst 243, .iadd, .iaload, .iastore, .iinc 1 1, .goto 2]) := rfl
theorem k309_4 : xM309.2.2.2.2.2[4]? = some ([0], [.aload 0, .dup, .getfield 359, .iconst 1, .isub, .putfield 359, .goto_w 5]) := rfl
theorem k309_5 : xM309.2.2.2.2.2[5]? = some ([0], [.aload 0, .getfield 353, .iconst 0, .aload 0, .getfield 355, .aload 0, .getfield 359, .iconst 243, .imul, .invokestatic 178, .aload 0, .dup, .getfield 359, .iconst 1, .iadd, .putfield 359, .return_]) := rfl
theorem k310_0 : xM310.2.2.2.2.2[0]? = some ([0, 1], [.aload 0, .aload 0, .getfield 358, .iload 1, .iconst 1, .iconst 100, .invokestatic 175, .ifCond .eq 3, .goto_w 1]) := rfl
theorem k310_1 : xM310.2.2.2.2.2[1]? = some ([0, 1], [.aload 0, .getfield 353, .iconst 9, .iaload, .iload 1, .iadd, .iconst 5000, .if_icmp .gt 3, .goto_w 2]) := rfl
theorem k310_2 : xM310.2.2.2.2.2[2]? = some ([0, 1], [.iconst 1, .goto 4]) := rfl
theorem k310_3 : xM310.2.2.2.2.2[3]? = some ([0, 1], [.iconst 0, .goto_w 4]) := rfl
theorem k310_4 : xM310.2.2.2.2.2[4]? = some ([0, 1], [.invokevirtual 177, .ifCond .ne 6, .goto_w 5]) := rfl
theorem k310_5 : xM310.2.2.2.2.2[5]? = some ([], [.iconst 0, .ireturn]) := rfl
theorem k310_6 : xM310.2.2.2.2.2[6]? = some ([0, 1], [.aload 0, .invokevirtual 309, .aload 0, .invokevirtual 232, .istore 2, .aload 0, .iload 1, .invokevirtual 229, .aload 0, .invokevirtual 232, .iload 2, .isub, .ireturn]) := rfl
theorem k311_0 : xM311.2.2.2.2.2[0]? = some ([0, 1], [.aload 0, .getfield 358, .ifCond .eq 3, .goto_w 1]) := rfl
theorem k311_1 : xM311.2.2.2.2.2[1]? = some ([0, 1], [.aload 0, .iload 1, .invokevirtual 208, .ifCond .eq 3, .goto_w 2]) := rfl
theorem k311_2 : xM311.2.2.2.2.2[2]? = some ([0, 1], [.iconst 1, .goto 4]) := rfl
theorem k311_3 : xM311.2.2.2.2.2[3]? = some ([0, 1], [.iconst 0, .goto_w 4]) := rfl
theorem k311_4 : xM311.2.2.2.2.2[4]? = some ([0, 1], [.istore 2, .aload 0, .aload 0, .getfield 358, .iload 2, .iload 2, .ifCond .eq 7, .goto_w 5]) := rfl
theorem k311_5 : xM311.2.2.2.2.2[5]? = some ([0, 1], [.aload 0, .iload 1, .invokevirtual 216, .ifCond .eq 7, .goto_w 6]) := rfl
theorem k311_6 : xM311.2.2.2.2.2[6]? = some ([0, 1], [.iconst 1, .goto 8]) := rfl
theorem k311_7 : xM311.2.2.2.2.2[7]? = some ([0, 1], [.iconst 0, .goto_w 8]) := rfl
theorem k311_8 : xM311.2.2.2.2.2[8]? = some ([0, 1], [.invokevirtual 176, .ifCond .ne 10, .goto_w 9]) := rfl
theorem k311_9 : xM311.2.2.2.2.2[9]? = some ([], [.iconst 0, .ireturn]) := rfl
theorem k311_10 : xM311.2.2.2.2.2[10]? = some ([0, 1], [.aload 0, .invokevirtual 309, .aload 0, .iload 1, .invokevirtual 218, .aload 0, .iload 1, .iconst 0, .invokevirtual 202, .ireturn]) := rfl
theorem k312_0 : xM312.2.2.2.2.2[0]? = some ([0, 1], [.aload 0, .getfield 358, .ifCond .eq 3, .goto_w 1]) := rfl
theorem k312_1 : xM312.2.2.2.2.2[1]? = some ([0, 1], [.aload 0, .iload 1, .invokevirtual 208, .ifCond .eq 3, .goto_w 2]) := rfl
theorem k312_2 : xM312.2.2.2.2.2[2]? = some ([0, 1], [.iconst 1, .goto 4]) := rfl
theorem k312_3 : xM312.2.2.2.2.2[3]? = some ([0, 1], [.iconst 0, .goto_w 4]) := rfl
theorem k312_4 : xM312.2.2.2.2.2[4]? = some ([0, 1], [.istore 2, .aload 0, .aload 0, .getfield 358, .iload 2, .iload 2, .ifCond .eq 7, .goto_w 5]) := rfl
theorem k312_5 : xM312.2.2.2.2.2[5]? = some ([0, 1], [.aload 0, .iload 1, .iconst 0, .invokevirtual 202, .ifCond .le 7, .goto_w 6]) := rfl
theorem k312_6 : xM312.2.2.2.2.2[6]? = some ([0, 1], [.iconst 1, .goto 8]) := rfl
theorem k312_7 : xM312.2.2.2.2.2[7]? = some ([0, 1], [.iconst 0, .goto_w 8]) := rfl
theorem k312_8 : xM312.2.2.2.2.2[8]? = some ([0, 1], [.invokevirtual 176, .ifCond .ne 10, .goto_w 9]) := rfl
theorem k312_9 : xM312.2.2.2.2.2[9]? = some ([], [.iconst 0, .ireturn]) := rfl
theorem k312_10 : xM312.2.2.2.2.2[10]? = some ([0, 1], [.aload 0, .invokevirtual 309, .aload 0, .iload 1, .invokevirtual 213, .aload 0, .getfield 353, .iconst 10, .iaload, .ireturn]) := rfl
theorem k313_0 : xM313.2.2.2.2.2[0]? = some ([0, 1], [.aload 0, .getfield 358, .ifCond .eq 3, .goto_w 1]) := rfl
theorem k313_1 : xM313.2.2.2.2.2[1]? = some ([0, 1], [.aload 0, .iload 1, .invokevirtual 208, .ifCond .eq 3, .goto_w 2]) := rfl
theorem k313_2 : xM313.2.2.2.2.2[2]? = some ([0, 1], [.iconst 1, .goto 4]) := rfl
theorem k313_3 : xM313.2.2.2.2.2[3]? = some ([0, 1], [.iconst 0, .goto_w 4]) := rfl
theorem k313_4 : xM313.2.2.2.2.2[4]? = some ([0, 1], [.istore 2, .iload 2, .ifCond .eq 6, .goto_w 5]) := rfl
theorem k313_5 : xM313.2.2.2.2.2[5]? = some ([0, 1, 2], [.aload 0, .aload 0, .iload 1, .iconst 1, .invokevirtual 202, .aload 0, .iload 1, .iconst 1, .invokevirtual 202, .invokevirtual 215, .goto 7]) := rfl
theorem k313_6 : xM313.2.2.2.2.2[6]? = some ([0, 1, 2], [.iconst (-1), .goto_w 7]) := rfl
theorem k313_7 : xM313.2.2.2.2.2[7]? = some ([0, 1, 2], [.istore 3, .aload 0, .aload 0, .getfield 358, .iload 2, .iload 2, .ifCond .eq 12, .goto_w 8]) := rfl
theorem k313_8 : xM313.2.2.2.2.2[8]? = some ([0, 1, 3], [.aload 0, .iload 1, .iconst 0, .invokevirtual 202, .ifCond .ne 12, .goto_w 9]) := rfl
theorem k313_9 : xM313.2.2.2.2.2[9]? = some ([0, 1, 3], [.aload 0, .iload 1, .iconst 4, .invokevirtual 202, .aload 0, .getfield 353, .iconst 4, .iaload, .if_icmp .lt 12, .goto_w 10]) := rfl
theorem k313_10 : xM313.2.2.2.2.2[10]? = some ([0, 1, 3], [.iload 3, .iconst (-1), .if_icmp .eq 12, .goto_w 11]) := rfl
theorem k313_11 : xM313.2.2.2.2.2[11]? = some ([0, 1, 3], [.iconst 1, .goto 13]) := rfl
theorem k313_12 : xM313.2.2.2.2.2[12]? = some ([0, 1, 3], [.iconst 0, .goto_w 13]) := rfl
theorem k313_13 : xM313.2.2.2.2.2[13]? = some ([0, 1, 3], [.invokevirtual 176, .ifCond .ne 15, .goto_w 14]) := rfl
theorem k313_14 : xM313.2.2.2.2.2[14]? = some ([], [.iconst 0, .ireturn]) := rfl
theorem k313_15 : xM313.2.2.2.2.2[15]? = some ([0, 1, 3], [.aload 0, .invokevirtual 309, .aload 0, .iload 1, .iload 3, .invokevirtual 214, .aload 0, .iload 1, .iconst 0, .invokevirtual 202, .ireturn]) := rfl
theorem k314_0 : xM314.2.2.2.2.2[0]? = some ([0, 1, 2], [.aload 0, .iload 1, .iload 2, .iconst (-100), .iconst 100, .invokestatic 175, .invokevirtual 243, .ifCond .ne 2, .goto_w 1]) := rfl
theorem k314_1 : xM314.2.2.2.2.2[1]? = some ([], [.iconst 0, .ireturn]) := rfl
theorem k314_2 : xM314.2.2.2.2.2[2]? = some ([0, 1, 2], [.aload 0, .invokevirtual 309, .aload 0, .iload 1, .iload 2, .invokevirtual 212, .aload 0, .iload 1, .iconst 4, .invokevirtual 202, .ireturn]) := rfl
theorem k315_0 : xM315.2.2.2.2.2[0]? = some ([0, 1], [.aload 0, .aload 0, .getfield 358, .iload 1, .iconst 1, .iconst 100, .invokestatic 175, .invokevirtual 177, .ifCond .ne 2, .goto_w 1]) := rfl
theorem k315_1 : xM315.2.2.2.2.2[1]? = some ([], [.iconst 0, .ireturn]) := rfl
theorem k315_2 : xM315.2.2.2.2.2[2]? = some ([0, 1], [.aload 0, .invokevirtual 309, .iconst 0, .istore 2, .iconst 0, .istore 3, .goto_w 3]) := rfl
theorem k315_3 : xM315.2.2.2.2.2[3]? = some ([0, 1, 2, 3], [.iload 3, .aload 0, .getfield 353, .iconst 6, .iaload, .if_icmp .ge 5, .goto_w 4]) := rfl
theorem k315_4 : xM315.2.2.2.2.2[4]? = some ([0, 1, 2, 3], [.aload 0, .iload 3, .iload 1, .invokevirtual 212, .iload 2, .aload 0, .iload 3, .iconst 4, .invokevirtual 202, .iadd, .istore 2, .iinc 3 1, .goto 3]) := rfl
theorem k315_5 : xM315.2.2.2.2.2[5]? = some ([2], [.iload 2, .ireturn]) := rfl
theorem k316_0 : xM316.2.2.2.2.2[0]? = some ([0, 1, 2], [.aload 0, .iload 1, .iload 2, .iconst 1, .iconst 200, .invokestatic 175, .invokevirtual 243, .ifCond .ne 2, .goto_w 1]) := rfl
theorem k316_1 : xM316.2.2.2.2.2[1]? = some ([], [.iconst 0, .ireturn]) := rfl
theorem k316_2 : xM316.2.2.2.2.2[2]? = some ([0, 1, 2], [.aload 0, .invokevirtual 309, .aload 0, .iload 1, .iconst 2, .invokevirtual 202, .istore 3, .aload 0, .iload 1, .iconst 2, .iload 2, .invokevirtual 203, .iload 3, .ireturn]) := rfl
theorem k317_0 : xM317.2.2.2.2.2[0]? = some ([0, 1, 2], [.aload 0, .iload 2, .iload 1, .aload 0, .getfield 353, .iconst 9, .iaload, .if_icmp .le 5, .goto_w 1]) := rfl
theorem k317_1 : xM317.2.2.2.2.2[1]? = some ([0, 1, 2], [.iload 1, .iconst 5000, .if_icmp .gt 5, .goto_w 2]) := rfl
theorem k317_2 : xM317.2.2.2.2.2[2]? = some ([0, 1, 2], [.iload 2, .aload 0, .getfield 353, .iconst 6, .iaload, .iconst 1, .isub, .if_icmp .ge 5, .goto_w 3]) := rfl
theorem k317_3 : xM317.2.2.2.2.2[3]? = some ([0, 1, 2], [.aload 0, .getfield 353, .iconst 8, .iaload, .iconst 12, .if_icmp .ge 5, .goto_w 4]) := rfl
theorem k317_4 : xM317.2.2.2.2.2[4]? = some ([0, 1, 2], [.iconst 1, .goto 6]) := rfl
theorem k317_5 : xM317.2.2.2.2.2[5]? = some ([0, 1, 2], [.iconst 0, .goto_w 6]) := rfl
theorem k317_6 : xM317.2.2.2.2.2[6]? = some ([0, 1, 2], [.invokevirtual 243, .ifCond .ne 8, .goto_w 7]) := rfl
theorem k317_7 : xM317.2.2.2.2.2[7]? = some ([], [.iconst 0, .ireturn]) := rfl
theorem k317_8 : xM317.2.2.2.2.2[8]? = some ([0, 1, 2], [.aload 0, .invokevirtual 309, .aload 0, .iload 1, .iload 2, .invokevirtual 199, .aload 0, .getfield 353, .iconst 8, .iaload, .iconst 1, .isub, .ireturn]) := rfl
theorem k318_0 : xM318.2.2.2.2.2[0]? = some ([0, 1, 2], [.aload 0, .aload 0, .getfield 358, .iload 1, .iconst 0, .iconst 5, .invokestatic 175, .ifCond .eq 3, .goto_w 1]) := rfl
theorem k318_1 : xM318.2.2.2.2.2[1]? = some ([0, 1, 2], [.iload 2, .iload 1, .invokestatic 192, .iload 1, .invokestatic 193, .invokestatic 175, .ifCond .eq 3, .goto_w 2]) := rfl
theorem k318_2 : xM318.2.2.2.2.2[2]? = some ([0, 1, 2], [.iconst 1, .goto 4]) := rfl
theorem k318_3 : xM318.2.2.2.2.2[3]? = some ([0, 1, 2], [.iconst 0, .goto_w 4]) := rfl
theorem k318_4 : xM318.2.2.2.2.2[4]? = some ([0, 1, 2], [.invokevirtual 177, .ifCond .ne 6, .goto_w 5]) := rfl
theorem k318_5 : xM318.2.2.2.2.2[5]? = some ([], [.iconst 0, .ireturn]) := rfl
theorem k318_6 : xM318.2.2.2.2.2[6]? = some ([0, 1, 2], [.aload 0, .invokevirtual 309, .aload 0, .getfield 353, .iload 1, .iaload, .istore 3, .aload 0, .getfield 353, .iload 1, .iload 2, .iastore, .iload 3, .ireturn]) := rfl
theorem k319_0 : xM319.2.2.2.2.2[0]? = some ([0], [.aload 0, .aload 0, .getfield 359, .ifCond .le 2, .goto_w 1]) := rfl
theorem k319_1 : xM319.2.2.2.2.2[1]? = some ([0], [.iconst 1, .goto 3]) := rfl
theorem k319_2 : xM319.2.2.2.2.2[2]? = some ([0], [.iconst 0, .goto_w 3]) := rfl
theorem k319_3 : xM319.2.2.2.2.2[3]? = some ([0], [.iconst 1, .iconst 1, .invokevirtual 176, .ifCond .ne 5, .goto_w 4]) := rfl
theorem k319_4 : xM319.2.2.2.2.2[4]? = some ([], [.iconst 0, .ireturn]) := rfl
theorem k319_5 : xM319.2.2.2.2.2[5]? = some ([0], [.aload 0, .dup, .getfield 359, .iconst 1, .isub, .putfield 359, .aload 0, .getfield 355, .aload 0, .getfield 359, .iconst 243, .imul, .aload 0, .getfield 353, .iconst 0, .invokestatic 178, .aload 0, .getfield 359, .ireturn]) := rfl
theorem k320_0 : xM320.2.2.2.2.2[0]? = some ([0], [.aload 0, .iconst 0, .putfield 352, .aload 0, .getfield 359, .ireturn]) := rfl
theorem k321_0 : xM321.2.2.2.2.2[0]? = some ([0, 1], [.aload 0, .aload 0, .getfield 358, .iload 1, .iconst 0, .iconst 1, .invokestatic 175, .invokevirtual 177, .ifCond .ne 2, .goto_w 1]) := rfl
theorem k321_1 : xM321.2.2.2.2.2[1]? = some ([], [.iconst 0, .ireturn]) := rfl
theorem k321_2 : xM321.2.2.2.2.2[2]? = some ([0, 1], [.aload 0, .getfield 353, .iconst 0, .aload 0, .getfield 356, .iload 1, .iconst 243, .imul, .invokestatic 178, .aload 0, .getfield 357, .iload 1, .iconst 1, .bastore, .aload 0, .getfield 353, .iconst 9, .iaload, .ireturn]) := rfl
theorem k322_0 : xM322.2.2.2.2.2[0]? = some ([0, 1], [.iload 1, .iconst 0, .iconst 1, .invokestatic 175, .istore 2, .aload 0, .iload 2, .iload 2, .ifCond .eq 3, .goto_w 1]) := rfl
theorem k322_1 : xM322.2.2.2.2.2[1]? = some ([0, 1], [.aload 0, .getfield 357, .iload 1, .baload, .ifCond .eq 3, .goto_w 2]) := rfl
theorem k322_2 : xM322.2.2.2.2.2[2]? = some ([0, 1], [.iconst 1, .goto 4]) := rfl
theorem k322_3 : xM322.2.2.2.2.2[3]? = some ([0, 1], [.iconst 0, .goto_w 4]) := rfl
theorem k322_4 : xM322.2.2.2.2.2[4]? = some ([0, 1], [.invokevirtual 177, .ifCond .ne 6, .goto_w 5]) := rfl
theorem k322_5 : xM322.2.2.2.2.2[5]? = some ([], [.iconst 0, .ireturn]) := rfl
theorem k322_6 : xM322.2.2.2.2.2[6]? = some ([0, 1], [.aload 0, .getfield 356, .iload 1, .iconst 243, .imul, .aload 0, .getfield 353, .iconst 0, .invokestatic 178, .aload 0, .iconst 0, .putfield 359, .aload 0, .getfield 353, .iconst 9, .iaload, .ireturn]) := rfl
theorem k383_0 : xM383.2.2.2.2.2[0]? = some ([0], [.iload 0, .iload 0, .iconst 1, .iushr, .iconst 1431655765, .iand, .isub, .istore 0, .iload 0, .iconst 858993459, .iand, .iload 0, .iconst 2, .iushr, .iconst 858993459, .iand, .iadd, .istore 0, .iload 0, .iload 0, .iconst 4, .iushr, .iadd, .iconst 252645135, .iand, .istore 0, .iload 0, .iload 0, .iconst 8, .iushr, .iadd, .istore 0, .iload 0, .iload 0, .iconst 16, .iushr, .iadd, .istore 0, .iload 0, .iconst 63, .iand, .ireturn]) := rfl
theorem k384_0 : xM384.2.2.2.2.2[0]? = some ([0], [.iload 0, .ifCond .ge 2, .goto_w 1]) := rfl
theorem k384_1 : xM384.2.2.2.2.2[1]? = some ([0], [.iload 0, .ineg, .goto 3]) := rfl
theorem k384_2 : xM384.2.2.2.2.2[2]? = some ([0], [.iload 0, .goto_w 3]) := rfl
theorem k384_3 : xM384.2.2.2.2.2[3]? = some ([], [.ireturn]) := rfl
theorem k385_0 : xM385.2.2.2.2.2[0]? = some ([0, 1], [.iload 0, .iload 1, .if_icmp .lt 2, .goto_w 1]) := rfl
theorem k385_1 : xM385.2.2.2.2.2[1]? = some ([0], [.iload 0, .goto 3]) := rfl
theorem k385_2 : xM385.2.2.2.2.2[2]? = some ([1], [.iload 1, .goto_w 3]) := rfl
theorem k385_3 : xM385.2.2.2.2.2[3]? = some ([], [.ireturn]) := rfl
theorem k386_0 : xM386.2.2.2.2.2[0]? = some ([0, 1], [.iload 0, .iload 1, .if_icmp .gt 2, .goto_w 1]) := rfl
theorem k386_1 : xM386.2.2.2.2.2[1]? = some ([0], [.iload 0, .goto 3]) := rfl
theorem k386_2 : xM386.2.2.2.2.2[2]? = some ([1], [.iload 1, .goto_w 3]) := rfl
theorem k386_3 : xM386.2.2.2.2.2[3]? = some ([], [.ireturn]) := rfl
theorem k387_0 : xM387.2.2.2.2.2[0]? = some ([0], [.fload 0, .fload 0, .fcmp .l, .ifCond .eq 2, .goto_w 1]) := rfl
theorem k387_1 : xM387.2.2.2.2.2[1]? = some ([], [.iconst 1, .goto 3]) := rfl
theorem k387_2 : xM387.2.2.2.2.2[2]? = some ([], [.iconst 0, .goto_w 3]) := rfl
theorem k387_3 : xM387.2.2.2.2.2[3]? = some ([], [.ireturn]) := rfl
theorem k388_0 : xM388.2.2.2.2.2[0]? = some ([0], [.fload 0, .invokestatic 387, .ifCond .ne 2, .goto_w 1]) := rfl
theorem k388_1 : xM388.2.2.2.2.2[1]? = some ([0], [.fload 0, .invokedynamic 0, .ireturn]) := rfl
theorem k388_2 : xM388.2.2.2.2.2[2]? = some ([], [.iconst 2143289344, .ireturn]) := rfl
theorem k389_0 : xM389.2.2.2.2.2[0]? = some ([0], [.dload 0, .dload 0, .dcmp .l, .ifCond .eq 2, .goto_w 1]) := rfl
theorem k389_1 : xM389.2.2.2.2.2[1]? = some ([], [.iconst 1, .goto 3]) := rfl
theorem k389_2 : xM389.2.2.2.2.2[2]? = some ([], [.iconst 0, .goto_w 3]) := rfl
theorem k389_3 : xM389.2.2.2.2.2[3]? = some ([], [.ireturn]) := rfl
theorem k390_0 : xM390.2.2.2.2.2[0]? = some ([0], [.dload 0, .invokestatic 389, .ifCond .ne 2, .goto_w 1]) := rfl
theorem k390_1 : xM390.2.2.2.2.2[1]? = some ([0], [.dload 0, .invokedynamic 1, .lreturn]) := rfl
theorem k390_2 : xM390.2.2.2.2.2[2]? = some ([], [.jsr 9221120237041090560, .lreturn]) := rfl
theorem k391_0 : xM391.2.2.2.2.2[0]? = some ([0], [.aload 0, .getfield 960, .arraylength, .aload 0, .invokevirtual 393, .ishr, .ireturn]) := rfl
theorem k392_0 : xM392.2.2.2.2.2[0]? = some ([0, 1], [.aload 0, .invokevirtual 394, .ifCond .eq 2, .goto_w 1]) := rfl
theorem k392_1 : xM392.2.2.2.2.2[1]? = some ([0, 1], [.aload 0, .getfield 960, .iload 1, .invokestatic 396, .ireturn]) := rfl
theorem k393_0 : xM393.2.2.2.2.2[0]? = some ([0], [.getstatic 2, .ifCond .eq 2, .goto_w 1]) := rfl
theorem k393_1 : xM393.2.2.2.2.2[1]? = some ([0], [.aload 0, .getfield 961, .goto 3]) := rfl
theorem k393_3 : xM393.2.2.2.2.2[3]? = some ([], [.ireturn]) := rfl
theorem k394_0 : xM394.2.2.2.2.2[0]? = some ([0], [.getstatic 2, .ifCond .eq 3, .goto_w 1]) := rfl
theorem k394_1 : xM394.2.2.2.2.2[1]? = some ([0], [.aload 0, .getfield 961, .ifCond .ne 3, .goto_w 2]) := rfl
theorem k394_2 : xM394.2.2.2.2.2[2]? = some ([], [.iconst 1, .goto 4]) := rfl
theorem k394_4 : xM394.2.2.2.2.2[4]? = some ([], [.ireturn]) := rfl
theorem k395_0 : xM395.2.2.2.2.2[0]? = some ([0, 1], [.iload 0, .iload 1, .getstatic 4, .invokestatic 397, .pop, .return_]) := rfl
theorem k396_0 : xM396.2.2.2.2.2[0]? = some ([0, 1], [.iload 1, .aload 0, .arraylength, .invokestatic 395, .aload 0, .iload 1, .baload, .iconst 255, .iand, .i2c, .ireturn]) := rfl
theorem k397_0 : xM397.2.2.2.2.2[0]? = some ([0, 1, 2], [.iload 0, .ifCond .lt 2, .goto_w 1]) := rfl
theorem k397_1 : xM397.2.2.2.2.2[1]? = some ([0, 1, 2], [.iload 0, .iload 1, .if_icmp .lt 3, .goto_w 2]) := rfl
theorem k397_2 : xM397.2.2.2.2.2[2]? = some ([0, 1, 2], [.aload 2, .iload 0, .iload 1]) := rfl
theorem k397_3 : xM397.2.2.2.2.2[3]? = some ([0], [.iload 0, .ireturn]) := rfl
