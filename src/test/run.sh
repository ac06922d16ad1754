#!/bin/bash
# Compiles the class with every test and runs them all; fails if one fails.
set -eu
cd "$(dirname "$0")/../.."
main=src/main/java/GathersAllFaults.java
shared=../shared/tests
build=$(mktemp -d)
trap 'rm -rf "$build"' EXIT
passed=0
failed=0

judge() { # NAME RESULT
  if [ "$2" -eq 0 ]; then
    passed=$((passed + 1))
    echo "passed: $1"
  else
    failed=$((failed + 1))
    echo "FAILED: $1"
  fi
}

mkdir "$build/own"
javac -Xlint:all -Werror -d "$build/own" "$main" src/test/java/*.java
for file in src/test/java/*Test.java; do
  name=$(basename "$file" .java)
  result=0
  java -Xss512k -cp "$build/own" "$name" "$main" || result=$?
  judge "$name" "$result"
done

found=0
for file in "$shared"/*.java; do
  [ -e "$file" ] || continue
  found=1
  name=$(basename "$file" .java)
  mkdir "$build/$name"
  result=0
  javac -d "$build/$name" "$main" "$file" && java -cp "$build/$name" "$name" || result=$?
  judge "shared/$name" "$result"
done
if [ "$found" -eq 0 ]; then
  echo "there is no test in $shared"
  failed=$((failed + 1))
fi

echo "$passed passed, $failed failed"
[ "$failed" -eq 0 ]
