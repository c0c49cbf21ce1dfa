/-! Methods 0 to 99, checked. -/
theorem yk0 : xyok 0 = true := by decide +kernel
theorem yw0 : xyw 0 = true := by decide +kernel
theorem yk3 : xyok 3 = true := by decide +kernel
theorem yw3 : xyw 3 = true := by decide +kernel
theorem yk4 : xyok 4 = true := by decide +kernel
theorem yw4 : xyw 4 = true := by decide +kernel
theorem yk5 : xyok 5 = true := by decide +kernel
theorem yw5 : xyw 5 = true := by decide +kernel
theorem yk6 : xyok 6 = true := by decide +kernel
theorem yw6 : xyw 6 = true := by decide +kernel
theorem yk7 : xyok 7 = true := by decide +kernel
theorem yw7 : xyw 7 = true := by decide +kernel
theorem yk8 : xyok 8 = true := by decide +kernel
theorem yw8 : xyw 8 = true := by decide +kernel
theorem yk10 : xyok 10 = true := by decide +kernel
theorem yw10 : xyw 10 = true := by decide +kernel
theorem yk11 : xyok 11 = true := by decide +kernel
theorem yw11 : xyw 11 = true := by decide +kernel
theorem yk12 : xyok 12 = true := by decide +kernel
theorem yw12 : xyw 12 = true := by decide +kernel
theorem yk13 : xyok 13 = true := by decide +kernel
theorem yw13 : xyw 13 = true := by decide +kernel
theorem yk14 : xyok 14 = true := by decide +kernel
theorem yw14 : xyw 14 = true := by decide +kernel
theorem yk15 : xyok 15 = true := by decide +kernel
theorem yw15 : xyw 15 = true := by decide +kernel
theorem yk16 : xyok 16 = true := by decide +kernel
theorem yw16 : xyw 16 = true := by decide +kernel
theorem yk17 : xyok 17 = true := by decide +kernel
theorem yw17 : xyw 17 = true := by decide +kernel
theorem yk18 : xyok 18 = true := by decide +kernel
theorem yw18 : xyw 18 = true := by decide +kernel
theorem yk19 : xyok 19 = true := by decide +kernel
theorem yw19 : xyw 19 = true := by decide +kernel
theorem yk20 : xyok 20 = true := by decide +kernel
theorem yw20 : xyw 20 = true := by decide +kernel
theorem yk21 : xyok 21 = true := by decide +kernel
theorem yw21 : xyw 21 = true := by decide +kernel
theorem yk22 : xyok 22 = true := by decide +kernel
theorem yw22 : xyw 22 = true := by decide +kernel
theorem yk23 : xyok 23 = true := by decide +kernel
theorem yw23 : xyw 23 = true := by decide +kernel
theorem yk24 : xyok 24 = true := by decide +kernel
theorem yw24 : xyw 24 = true := by decide +kernel
theorem yk25 : xyok 25 = true := by decide +kernel
theorem yw25 : xyw 25 = true := by decide +kernel
theorem yk26 : xyok 26 = true := by decide +kernel
theorem yw26 : xyw 26 = true := by decide +kernel
theorem yk27 : xyok 27 = true := by decide +kernel
theorem yw27 : xyw 27 = true := by decide +kernel
theorem yk28 : xyok 28 = true := by decide +kernel
theorem yw28 : xyw 28 = true := by decide +kernel
theorem yk29 : xyok 29 = true := by decide +kernel
theorem yw29 : xyw 29 = true := by decide +kernel
theorem yk30 : xyok 30 = true := by decide +kernel
theorem yw30 : xyw 30 = true := by decide +kernel
theorem yk32 : xyok 32 = true := by decide +kernel
theorem yw32 : xyw 32 = true := by decide +kernel
theorem yk33 : xyok 33 = true := by decide +kernel
theorem yw33 : xyw 33 = true := by decide +kernel
theorem yk34 : xyok 34 = true := by decide +kernel
theorem yw34 : xyw 34 = true := by decide +kernel
theorem yk37 : xyok 37 = true := by decide +kernel
theorem yw37 : xyw 37 = true := by decide +kernel
theorem yk39 : xyok 39 = true := by decide +kernel
theorem yw39 : xyw 39 = true := by decide +kernel
theorem yk40 : xyok 40 = true := by decide +kernel
theorem yw40 : xyw 40 = true := by decide +kernel
theorem yk41 : xyok 41 = true := by decide +kernel
theorem yw41 : xyw 41 = true := by decide +kernel
theorem yk42 : xyok 42 = true := by decide +kernel
theorem yw42 : xyw 42 = true := by decide +kernel
theorem yk43 : xyok 43 = true := by decide +kernel
theorem yw43 : xyw 43 = true := by decide +kernel
theorem yk44 : xyok 44 = true := by decide +kernel
theorem yw44 : xyw 44 = true := by decide +kernel
theorem yk45 : xyok 45 = true := by decide +kernel
theorem yw45 : xyw 45 = true := by decide +kernel
theorem yk47 : xyok 47 = true := by decide +kernel
theorem yw47 : xyw 47 = true := by decide +kernel
theorem yk48 : xyok 48 = true := by decide +kernel
theorem yw48 : xyw 48 = true := by decide +kernel
theorem yk49 : xyok 49 = true := by decide +kernel
theorem yw49 : xyw 49 = true := by decide +kernel
theorem yk50 : xyok 50 = true := by decide +kernel
theorem yw50 : xyw 50 = true := by decide +kernel
theorem yk51 : xyok 51 = true := by decide +kernel
theorem yw51 : xyw 51 = true := by decide +kernel
theorem yk52 : xyok 52 = true := by decide +kernel
theorem yw52 : xyw 52 = true := by decide +kernel
theorem yk53 : xyok 53 = true := by decide +kernel
theorem yw53 : xyw 53 = true := by decide +kernel
theorem yk54 : xyok 54 = true := by decide +kernel
theorem yw54 : xyw 54 = true := by decide +kernel
theorem yk55 : xyok 55 = true := by decide +kernel
theorem yw55 : xyw 55 = true := by decide +kernel
theorem yk57 : xyok 57 = true := by decide +kernel
theorem yw57 : xyw 57 = true := by decide +kernel
theorem yk58 : xyok 58 = true := by decide +kernel
theorem yw58 : xyw 58 = true := by decide +kernel
theorem yk59 : xyok 59 = true := by decide +kernel
theorem yw59 : xyw 59 = true := by decide +kernel
theorem yk62 : xyok 62 = true := by decide +kernel
theorem yw62 : xyw 62 = true := by decide +kernel
theorem yk63 : xyok 63 = true := by decide +kernel
theorem yw63 : xyw 63 = true := by decide +kernel
theorem yk64 : xyok 64 = true := by decide +kernel
theorem yw64 : xyw 64 = true := by decide +kernel
theorem yk65 : xyok 65 = true := by decide +kernel
theorem yw65 : xyw 65 = true := by decide +kernel
theorem yk66 : xyok 66 = true := by decide +kernel
theorem yw66 : xyw 66 = true := by decide +kernel
theorem yk67 : xyok 67 = true := by decide +kernel
theorem yw67 : xyw 67 = true := by decide +kernel
theorem yk68 : xyok 68 = true := by decide +kernel
theorem yw68 : xyw 68 = true := by decide +kernel
theorem yk69 : xyok 69 = true := by decide +kernel
theorem yw69 : xyw 69 = true := by decide +kernel
theorem yk70 : xyok 70 = true := by decide +kernel
theorem yw70 : xyw 70 = true := by decide +kernel
theorem yk71 : xyok 71 = true := by decide +kernel
theorem yw71 : xyw 71 = true := by decide +kernel
theorem yk72 : xyok 72 = true := by decide +kernel
theorem yw72 : xyw 72 = true := by decide +kernel
theorem yk73 : xyok 73 = true := by decide +kernel
theorem yw73 : xyw 73 = true := by decide +kernel
theorem yk74 : xyok 74 = true := by decide +kernel
theorem yw74 : xyw 74 = true := by decide +kernel
theorem yk75 : xyok 75 = true := by decide +kernel
theorem yw75 : xyw 75 = true := by decide +kernel
theorem yk76 : xyok 76 = true := by decide +kernel
theorem yw76 : xyw 76 = true := by decide +kernel
theorem yk77 : xyok 77 = true := by decide +kernel
theorem yw77 : xyw 77 = true := by decide +kernel
theorem yk78 : xyok 78 = true := by decide +kernel
theorem yw78 : xyw 78 = true := by decide +kernel
theorem yk79 : xyok 79 = true := by decide +kernel
theorem yw79 : xyw 79 = true := by decide +kernel
theorem yk80 : xyok 80 = true := by decide +kernel
theorem yw80 : xyw 80 = true := by decide +kernel
theorem yk81 : xyok 81 = true := by decide +kernel
theorem yw81 : xyw 81 = true := by decide +kernel
theorem yk82 : xyok 82 = true := by decide +kernel
theorem yw82 : xyw 82 = true := by decide +kernel
theorem yk83 : xyok 83 = true := by decide +kernel
theorem yw83 : xyw 83 = true := by decide +kernel
theorem yk84 : xyok 84 = true := by decide +kernel
theorem yw84 : xyw 84 = true := by decide +kernel
theorem yk85 : xyok 85 = true := by decide +kernel
theorem yw85 : xyw 85 = true := by decide +kernel
theorem yk86 : xyok 86 = true := by decide +kernel
theorem yw86 : xyw 86 = true := by decide +kernel
theorem yk87 : xyok 87 = true := by decide +kernel
theorem yw87 : xyw 87 = true := by decide +kernel
theorem yk88 : xyok 88 = true := by decide +kernel
theorem yw88 : xyw 88 = true := by decide +kernel
theorem yk89 : xyok 89 = true := by decide +kernel
theorem yw89 : xyw 89 = true := by decide +kernel
theorem yk90 : xyok 90 = true := by decide +kernel
theorem yw90 : xyw 90 = true := by decide +kernel
theorem yk91 : xyok 91 = true := by decide +kernel
theorem yw91 : xyw 91 = true := by decide +kernel
theorem yk92 : xyok 92 = true := by decide +kernel
theorem yw92 : xyw 92 = true := by decide +kernel
theorem yk96 : xyok 96 = true := by decide +kernel
theorem yw96 : xyw 96 = true := by decide +kernel
theorem yk97 : xyok 97 = true := by decide +kernel
theorem yw97 : xyw 97 = true := by decide +kernel
theorem yk98 : xyok 98 = true := by decide +kernel
theorem yw98 : xyw 98 = true := by decide +kernel
theorem yk99 : xyok 99 = true := by decide +kernel
theorem yw99 : xyw 99 = true := by decide +kernel
theorem yblk0 : ∀ r : Nat, r < 20 → yr (0 + r) = true → xyok (0 + r) = true ∧ xyw (0 + r) = true := by
  intro r h h2
  match r, h with
  | 0, _ => exact ⟨yk0, yw0⟩
  | 1, _ => exact absurd h2 (by decide +kernel)
  | 2, _ => exact absurd h2 (by decide +kernel)
  | 3, _ => exact ⟨yk3, yw3⟩
  | 4, _ => exact ⟨yk4, yw4⟩
  | 5, _ => exact ⟨yk5, yw5⟩
  | 6, _ => exact ⟨yk6, yw6⟩
  | 7, _ => exact ⟨yk7, yw7⟩
  | 8, _ => exact ⟨yk8, yw8⟩
  | 9, _ => exact absurd h2 (by decide +kernel)
  | 10, _ => exact ⟨yk10, yw10⟩
  | 11, _ => exact ⟨yk11, yw11⟩
  | 12, _ => exact ⟨yk12, yw12⟩
  | 13, _ => exact ⟨yk13, yw13⟩
  | 14, _ => exact ⟨yk14, yw14⟩
  | 15, _ => exact ⟨yk15, yw15⟩
  | 16, _ => exact ⟨yk16, yw16⟩
  | 17, _ => exact ⟨yk17, yw17⟩
  | 18, _ => exact ⟨yk18, yw18⟩
  | 19, _ => exact ⟨yk19, yw19⟩
  | r + 20, h => exact absurd h (by omega)
theorem yblk1 : ∀ r : Nat, r < 20 → yr (20 + r) = true → xyok (20 + r) = true ∧ xyw (20 + r) = true := by
  intro r h h2
  match r, h with
  | 0, _ => exact ⟨yk20, yw20⟩
  | 1, _ => exact ⟨yk21, yw21⟩
  | 2, _ => exact ⟨yk22, yw22⟩
  | 3, _ => exact ⟨yk23, yw23⟩
  | 4, _ => exact ⟨yk24, yw24⟩
  | 5, _ => exact ⟨yk25, yw25⟩
  | 6, _ => exact ⟨yk26, yw26⟩
  | 7, _ => exact ⟨yk27, yw27⟩
  | 8, _ => exact ⟨yk28, yw28⟩
  | 9, _ => exact ⟨yk29, yw29⟩
  | 10, _ => exact ⟨yk30, yw30⟩
  | 11, _ => exact absurd h2 (by decide +kernel)
  | 12, _ => exact ⟨yk32, yw32⟩
  | 13, _ => exact ⟨yk33, yw33⟩
  | 14, _ => exact ⟨yk34, yw34⟩
  | 15, _ => exact absurd h2 (by decide +kernel)
  | 16, _ => exact absurd h2 (by decide +kernel)
  | 17, _ => exact ⟨yk37, yw37⟩
  | 18, _ => exact absurd h2 (by decide +kernel)
  | 19, _ => exact ⟨yk39, yw39⟩
  | r + 20, h => exact absurd h (by omega)
theorem yblk2 : ∀ r : Nat, r < 20 → yr (40 + r) = true → xyok (40 + r) = true ∧ xyw (40 + r) = true := by
  intro r h h2
  match r, h with
  | 0, _ => exact ⟨yk40, yw40⟩
  | 1, _ => exact ⟨yk41, yw41⟩
  | 2, _ => exact ⟨yk42, yw42⟩
  | 3, _ => exact ⟨yk43, yw43⟩
  | 4, _ => exact ⟨yk44, yw44⟩
  | 5, _ => exact ⟨yk45, yw45⟩
  | 6, _ => exact absurd h2 (by decide +kernel)
  | 7, _ => exact ⟨yk47, yw47⟩
  | 8, _ => exact ⟨yk48, yw48⟩
  | 9, _ => exact ⟨yk49, yw49⟩
  | 10, _ => exact ⟨yk50, yw50⟩
  | 11, _ => exact ⟨yk51, yw51⟩
  | 12, _ => exact ⟨yk52, yw52⟩
  | 13, _ => exact ⟨yk53, yw53⟩
  | 14, _ => exact ⟨yk54, yw54⟩
  | 15, _ => exact ⟨yk55, yw55⟩
  | 16, _ => exact absurd h2 (by decide +kernel)
  | 17, _ => exact ⟨yk57, yw57⟩
  | 18, _ => exact ⟨yk58, yw58⟩
  | 19, _ => exact ⟨yk59, yw59⟩
  | r + 20, h => exact absurd h (by omega)
theorem yblk3 : ∀ r : Nat, r < 20 → yr (60 + r) = true → xyok (60 + r) = true ∧ xyw (60 + r) = true := by
  intro r h h2
  match r, h with
  | 0, _ => exact absurd h2 (by decide +kernel)
  | 1, _ => exact absurd h2 (by decide +kernel)
  | 2, _ => exact ⟨yk62, yw62⟩
  | 3, _ => exact ⟨yk63, yw63⟩
  | 4, _ => exact ⟨yk64, yw64⟩
  | 5, _ => exact ⟨yk65, yw65⟩
  | 6, _ => exact ⟨yk66, yw66⟩
  | 7, _ => exact ⟨yk67, yw67⟩
  | 8, _ => exact ⟨yk68, yw68⟩
  | 9, _ => exact ⟨yk69, yw69⟩
  | 10, _ => exact ⟨yk70, yw70⟩
  | 11, _ => exact ⟨yk71, yw71⟩
  | 12, _ => exact ⟨yk72, yw72⟩
  | 13, _ => exact ⟨yk73, yw73⟩
  | 14, _ => exact ⟨yk74, yw74⟩
  | 15, _ => exact ⟨yk75, yw75⟩
  | 16, _ => exact ⟨yk76, yw76⟩
  | 17, _ => exact ⟨yk77, yw77⟩
  | 18, _ => exact ⟨yk78, yw78⟩
  | 19, _ => exact ⟨yk79, yw79⟩
  | r + 20, h => exact absurd h (by omega)
theorem yblk4 : ∀ r : Nat, r < 20 → yr (80 + r) = true → xyok (80 + r) = true ∧ xyw (80 + r) = true := by
  intro r h h2
  match r, h with
  | 0, _ => exact ⟨yk80, yw80⟩
  | 1, _ => exact ⟨yk81, yw81⟩
  | 2, _ => exact ⟨yk82, yw82⟩
  | 3, _ => exact ⟨yk83, yw83⟩
  | 4, _ => exact ⟨yk84, yw84⟩
  | 5, _ => exact ⟨yk85, yw85⟩
  | 6, _ => exact ⟨yk86, yw86⟩
  | 7, _ => exact ⟨yk87, yw87⟩
  | 8, _ => exact ⟨yk88, yw88⟩
  | 9, _ => exact ⟨yk89, yw89⟩
  | 10, _ => exact ⟨yk90, yw90⟩
  | 11, _ => exact ⟨yk91, yw91⟩
  | 12, _ => exact ⟨yk92, yw92⟩
  | 13, _ => exact absurd h2 (by decide +kernel)
  | 14, _ => exact absurd h2 (by decide +kernel)
  | 15, _ => exact absurd h2 (by decide +kernel)
  | 16, _ => exact ⟨yk96, yw96⟩
  | 17, _ => exact ⟨yk97, yw97⟩
  | 18, _ => exact ⟨yk98, yw98⟩
  | 19, _ => exact ⟨yk99, yw99⟩
  | r + 20, h => exact absurd h (by omega)
