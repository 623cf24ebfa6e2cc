/-! the running system's cells by numbers: objects (0, class in vwCl, slots: 0 an int, 1 a reference that changes, 2 + r the cell r), arrays (1 int, 2 byte, 3 long, 4 Strings; length; Strings) -/
def lay : List (Nat × Nat × List Nat) := [
  (0, 9, [3, 4, 16, 9, 28, 35, 39, 44, 45, 46, 49, 51, 0, 0, 0]), -- 0 NamedCoins
  (2, 700, []), -- 1 tape
  (0, 2, [9, 5, 6, 0, 0, 7, 8]), -- 2 Memory
  (1, 8, []), -- 3 memory.seenPerson
  (1, 8, []), -- 4 memory.seenYears
  (1, 960, []), -- 5 memory.rows
  (1, 3, []), -- 6 memory.refusals
  (0, 8, [0, 0, 0, 0, 0, 0, 0, 0, 10, 11, 12, 13, 14, 15]), -- 7 World
  (1, 8, []), -- 8 memory.world.need
  (1, 8, []), -- 9 memory.world.stocking
  (1, 8, []), -- 10 memory.world.payee
  (1, 12, []), -- 11 memory.world.worth
  (1, 12, []), -- 12 memory.world.holder
  (1, 8, []), -- 13 memory.world.wealth
  (0, 2, [21, 17, 18, 0, 0, 19, 20]), -- 14 Memory
  (1, 8, []), -- 15 keptImage.seenPerson
  (1, 8, []), -- 16 keptImage.seenYears
  (1, 960, []), -- 17 keptImage.rows
  (1, 3, []), -- 18 keptImage.refusals
  (0, 8, [0, 0, 0, 0, 0, 0, 0, 0, 22, 23, 24, 25, 26, 27]), -- 19 World
  (1, 8, []), -- 20 keptImage.world.need
  (1, 8, []), -- 21 keptImage.world.stocking
  (1, 8, []), -- 22 keptImage.world.payee
  (1, 12, []), -- 23 keptImage.world.worth
  (1, 12, []), -- 24 keptImage.world.holder
  (1, 8, []), -- 25 keptImage.world.wealth
  (0, 8, [0, 0, 0, 0, 0, 0, 0, 0, 29, 30, 31, 32, 33, 34]), -- 26 World
  (1, 8, []), -- 27 run.need
  (1, 8, []), -- 28 run.stocking
  (1, 8, []), -- 29 run.payee
  (1, 12, []), -- 30 run.worth
  (1, 12, []), -- 31 run.holder
  (1, 8, []), -- 32 run.wealth
  (0, 5, [36, 37, 38, 0, 0, 0, 0, 0]), -- 33 Rules
  (1, 700, []), -- 34 rules.code
  (1, 7, []), -- 35 rules.values
  (1, 40, []), -- 36 rules.stack
  (0, 5, [40, 41, 42, 0, 0, 0, 0, 0]), -- 37 Rules
  (1, 700, []), -- 38 freshRules.code
  (1, 7, []), -- 39 freshRules.values
  (1, 40, []), -- 40 freshRules.stack
  (0, 7, [3, 0, 0, 0, 0, 0]), -- 41 Tokens
  (0, 4, [43, 28, 39, 0, 0, 0, 0]), -- 42 Reader
  (0, 0, [9, 28, 35]), -- 43 Course
  (0, 6, [47, 48]), -- 44 Sums
  (1, 64, []), -- 45 lowSums
  (1, 64, []), -- 46 highSums
  (0, 1, [4, 9, 28, 35, 50]), -- 47 Guess
  (1, 12, []), -- 48 holders
  (0, 3, [9, 28, 35, 52, 53, 0, 0, 0]), -- 49 Play
  (1, 4, []), -- 50 firstGains
  (1, 4, []), -- 51 otherGains
  (0, 10, [55, 56, 57, 1, 0, 58, 59, 60, 61, 62, 63, 64, 65, 66, 67, 68, 69, 0, 0, 0, 0, 0, 0, 0, 0, 0, 0, 0, 70, 71, 72, 73, 74, 0, 0, 0, 0, 0, 0, 75, 76, 0, 77, 78, 79, 80, 81, 82, 0, 83, 0, 0, 0, 0, 84, 85, 86, 87, 88]), -- 52 Model
  (4, 2, [1001, 1003]), -- 53 model.sorts
  (4, 5, [1008, 1009, 1010, 1011, 1012]), -- 54 model.ofNames
  (4, 6, [1008, 1009, 1010, 1011, 1013, 1014]), -- 55 model.ofSpends
  (1, 10, []), -- 56 model.told
  (1, 16, []), -- 57 model.beggar
  (1, 16, []), -- 58 model.needTold
  (1, 16, []), -- 59 model.stockingTold
  (1, 16, []), -- 60 model.paysTold
  (1, 24, []), -- 61 model.worthTold
  (1, 24, []), -- 62 model.holderTold
  (1, 1400, []), -- 63 model.signsNames
  (1, 1400, []), -- 64 model.signsSpends
  (1, 3, []), -- 65 model.status
  (1, 8, []), -- 66 model.need
  (1, 700, []), -- 67 model.tape
  (1, 12, []), -- 68 model.worth
  (1, 12, []), -- 69 model.holder
  (1, 8, []), -- 70 model.stocking
  (1, 8, []), -- 71 model.payee
  (1, 1760, []), -- 72 model.past
  (1, 6, []), -- 73 model.asked
  (1, 64, []), -- 74 model.stack
  (1, 44, []), -- 75 model.rowThen
  (1, 8, []), -- 76 model.seenWho
  (1, 8, []), -- 77 model.seenIn
  (1, 44, []), -- 78 model.rowSeen
  (1, 80, []), -- 79 model.fits
  (1, 12, []), -- 80 model.holdThen
  (1, 8, []), -- 81 model.gains
  (1, 44, []), -- 82 model.imageRow
  (1, 1760, []), -- 83 model.pastThen
  (1, 8, []), -- 84 model.seenWhoThen
  (1, 8, []), -- 85 model.seenInThen
  (1, 3, []), -- 86 model.statusThen
  (3, 1, []) -- 87 out
]
theorem lay_len : lay.length = 88 := by decide +kernel
/-- the texts of the String constants: the text j is the reference 1000 + j -/
def stxt : List String := ["the tape has not so many bytes", "person", "pays", "beggar", "coin", "minting", "names", "not", "need", "has", "coins", "year", "stocking", "worth", "theirs", "and", "or", "spends", "no such count", "no such person", "no such thing of a person", "no such coin", "no such thing of a coin", "no such question", "not 0 to 60 years", "no such sum", "both are one", "no such years or tenths"]
/-- where they stand: class, entry, text, number -/
def strs : List (String × Nat × String × Nat) := [("NamedCoins", 109, "the tape has not so many bytes", 0), ("NamedCoins$Reader", 76, "person", 1), ("NamedCoins$Reader", 136, "pays", 2), ("NamedCoins$Reader", 86, "beggar", 3), ("NamedCoins$Reader", 88, "coin", 4), ("NamedCoins$Reader", 93, "minting", 5), ("NamedCoins$Reader", 98, "names", 6), ("NamedCoins$Reader", 179, "not", 7), ("NamedCoins$Reader", 197, "need", 8), ("NamedCoins$Reader", 198, "has", 9), ("NamedCoins$Reader", 200, "coins", 10), ("NamedCoins$Reader", 201, "year", 11), ("NamedCoins$Reader", 203, "stocking", 12), ("NamedCoins$Reader", 204, "worth", 13), ("NamedCoins$Reader", 206, "theirs", 14), ("NamedCoins$Reader", 177, "and", 15), ("NamedCoins$Reader", 169, "or", 16), ("NamedCoins$Reader", 103, "spends", 17), ("NamedCoins", 179, "no such count", 18), ("NamedCoins", 357, "no such person", 19), ("NamedCoins", 209, "no such thing of a person", 20), ("NamedCoins", 245, "no such coin", 21), ("NamedCoins", 226, "no such thing of a coin", 22), ("NamedCoins", 362, "no such question", 23), ("NamedCoins", 364, "not 0 to 60 years", 24), ("NamedCoins", 279, "no such sum", 25), ("NamedCoins", 366, "both are one", 26), ("NamedCoins", 331, "no such years or tenths", 27), ("NamedCoinsModel", 11, "person", 1), ("NamedCoinsModel", 13, "beggar", 3), ("NamedCoinsModel", 19, "need", 8), ("NamedCoinsModel", 21, "has", 9), ("NamedCoinsModel", 23, "coins", 10), ("NamedCoinsModel", 25, "year", 11), ("NamedCoinsModel", 27, "stocking", 12), ("NamedCoinsModel", 32, "worth", 13), ("NamedCoinsModel", 34, "theirs", 14), ("NamedCoinsModel", 265, "minting", 5), ("NamedCoinsModel", 267, "names", 6), ("NamedCoinsModel", 269, "spends", 17), ("NamedCoinsModel", 244, "not", 7), ("NamedCoinsModel", 252, "and", 15), ("NamedCoinsModel", 257, "or", 16), ("NamedCoinsModel", 263, "pays", 2), ("NamedCoinsModel", 277, "coin", 4)]
def slen : List Nat := [30, 6, 4, 6, 4, 7, 5, 3, 4, 3, 5, 4, 8, 5, 6, 3, 2, 6, 13, 14, 25, 12, 23, 16, 17, 11, 12, 23]
def sbyt : List (List Int32) := [[116, 104, 101, 32, 116, 97, 112, 101, 32, 104, 97, 115, 32, 110, 111, 116, 32, 115, 111, 32, 109, 97, 110, 121, 32, 98, 121, 116, 101, 115], [112, 101, 114, 115, 111, 110], [112, 97, 121, 115], [98, 101, 103, 103, 97, 114], [99, 111, 105, 110], [109, 105, 110, 116, 105, 110, 103], [110, 97, 109, 101, 115], [110, 111, 116], [110, 101, 101, 100], [104, 97, 115], [99, 111, 105, 110, 115], [121, 101, 97, 114], [115, 116, 111, 99, 107, 105, 110, 103], [119, 111, 114, 116, 104], [116, 104, 101, 105, 114, 115], [97, 110, 100], [111, 114], [115, 112, 101, 110, 100, 115], [110, 111, 32, 115, 117, 99, 104, 32, 99, 111, 117, 110, 116], [110, 111, 32, 115, 117, 99, 104, 32, 112, 101, 114, 115, 111, 110], [110, 111, 32, 115, 117, 99, 104, 32, 116, 104, 105, 110, 103, 32, 111, 102, 32, 97, 32, 112, 101, 114, 115, 111, 110], [110, 111, 32, 115, 117, 99, 104, 32, 99, 111, 105, 110], [110, 111, 32, 115, 117, 99, 104, 32, 116, 104, 105, 110, 103, 32, 111, 102, 32, 97, 32, 99, 111, 105, 110], [110, 111, 32, 115, 117, 99, 104, 32, 113, 117, 101, 115, 116, 105, 111, 110], [110, 111, 116, 32, 48, 32, 116, 111, 32, 54, 48, 32, 121, 101, 97, 114, 115], [110, 111, 32, 115, 117, 99, 104, 32, 115, 117, 109], [98, 111, 116, 104, 32, 97, 114, 101, 32, 111, 110, 101], [110, 111, 32, 115, 117, 99, 104, 32, 121, 101, 97, 114, 115, 32, 111, 114, 32, 116, 101, 110, 116, 104, 115]]
