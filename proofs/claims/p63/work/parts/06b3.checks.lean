/-! CHECKS OF THE CODE of a long method, in pieces. By program (wip/p63/gen4.py). -/
set_option maxRecDepth 100000 in
theorem pk_151_000011 : pAll 5 (pLeaf 151) 48 64 pI_151.1.1.1.1.2.2 = true := by decide +kernel
set_option maxRecDepth 100000 in
theorem pk_151_000111 : pAll 5 (pLeaf 151) 56 64 pI_151.1.1.1.2.2.2 = true := by decide +kernel
set_option maxRecDepth 100000 in
theorem pk_151_001011 : pAll 5 (pLeaf 151) 52 64 pI_151.1.1.2.1.2.2 = true := by decide +kernel
set_option maxRecDepth 100000 in
theorem pk_151_001111 : pAll 5 (pLeaf 151) 60 64 pI_151.1.1.2.2.2.2 = true := by decide +kernel
set_option maxRecDepth 100000 in
theorem pk_151_010011 : pAll 5 (pLeaf 151) 50 64 pI_151.1.2.1.1.2.2 = true := by decide +kernel
set_option maxRecDepth 100000 in
theorem pk_151_010111 : pAll 5 (pLeaf 151) 58 64 pI_151.1.2.1.2.2.2 = true := by decide +kernel
set_option maxRecDepth 100000 in
theorem pk_151_011011 : pAll 5 (pLeaf 151) 54 64 pI_151.1.2.2.1.2.2 = true := by decide +kernel
set_option maxRecDepth 100000 in
theorem pk_151_011111 : pAll 5 (pLeaf 151) 62 64 pI_151.1.2.2.2.2.2 = true := by decide +kernel
set_option maxRecDepth 100000 in
theorem pk_151_100011 : pAll 5 (pLeaf 151) 49 64 pI_151.2.1.1.1.2.2 = true := by decide +kernel
set_option maxRecDepth 100000 in
theorem pk_151_100111 : pAll 5 (pLeaf 151) 57 64 pI_151.2.1.1.2.2.2 = true := by decide +kernel
set_option maxRecDepth 100000 in
theorem pk_151_101011 : pAll 5 (pLeaf 151) 53 64 pI_151.2.1.2.1.2.2 = true := by decide +kernel
set_option maxRecDepth 100000 in
theorem pk_151_101111 : pAll 5 (pLeaf 151) 61 64 pI_151.2.1.2.2.2.2 = true := by decide +kernel
set_option maxRecDepth 100000 in
theorem pk_151_110011 : pAll 5 (pLeaf 151) 51 64 pI_151.2.2.1.1.2.2 = true := by decide +kernel
set_option maxRecDepth 100000 in
theorem pk_151_110111 : pAll 5 (pLeaf 151) 59 64 pI_151.2.2.1.2.2.2 = true := by decide +kernel
set_option maxRecDepth 100000 in
theorem pk_151_111011 : pAll 5 (pLeaf 151) 55 64 pI_151.2.2.2.1.2.2 = true := by decide +kernel
set_option maxRecDepth 100000 in
theorem pk_151_111111 : pAll 5 (pLeaf 151) 63 64 pI_151.2.2.2.2.2.2 = true := by decide +kernel
